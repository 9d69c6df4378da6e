/-! X: what it answers after an analysis, and the calls that build an image -/
section
variable {f_capacity f_size f_entryCount f_analysed f_outputSize f_status f_steps f_pc f_depth f_valueCount : Int32} {a_image a_entry a_reached a_classes a_symbolic a_functionStart a_newAddress a_output a_registers a_stack a_values : Nat → Int32} {im : Nat → Nat} {s pd : Nat} {E : Nat → Prop} {post : Int32 → Prop}
theorem xr_sym {q : Nat} (hq : q < s) (hs : s ≤ 64) (han : ¬ f_analysed = 0) (hA : rd_XA im s E pd f_outputSize a_classes a_symbolic a_functionStart a_newAddress a_output) (hp : post (rd_b (rd_sym im s E s q))) : wpX_isSymbolic post (f_capacity, nI s, f_entryCount, f_analysed, f_outputSize, f_status, f_steps, f_pc, f_depth, f_valueCount, a_image, a_entry, a_reached, a_classes, a_symbolic, a_functionStart, a_newAddress, a_output, a_registers, a_stack, a_values) (nI q) := by
  have h := hA.2.1 q hq
  have h' : a_symbolic (nI q).toNatClampNeg = rd_b (rd_sym im s E s q) := by rw [nI_clamp (by omega)]; exact h
  refine br_f han (xl_inI_t hq hs (br_f (by decide) ⟨pk_in q 64 (by omega), ?_⟩))
  rw [h']
  exact rd_brb (fun z => rd_pf hp z) (fun z => rd_pt hp z)
theorem xr_fs {q : Nat} (hq : q < s) (hs : s ≤ 64) (han : ¬ f_analysed = 0) (hA : rd_XA im s E pd f_outputSize a_classes a_symbolic a_functionStart a_newAddress a_output) (hp : post (rd_b (rd_fs im s E q))) : wpX_isFunctionStart post (f_capacity, nI s, f_entryCount, f_analysed, f_outputSize, f_status, f_steps, f_pc, f_depth, f_valueCount, a_image, a_entry, a_reached, a_classes, a_symbolic, a_functionStart, a_newAddress, a_output, a_registers, a_stack, a_values) (nI q) := by
  have h := hA.2.2.1 q hq
  have h' : a_functionStart (nI q).toNatClampNeg = rd_b (rd_fs im s E q) := by rw [nI_clamp (by omega)]; exact h
  refine br_f han (xl_inI_t hq hs (br_f (by decide) ⟨pk_in q 64 (by omega), ?_⟩))
  rw [h']
  exact rd_brb (fun z => rd_pf hp z) (fun z => rd_pt hp z)
theorem xr_map {q : Nat} (hq : q < s) (hs : s ≤ 64) (han : ¬ f_analysed = 0) (hA : rd_XA im s E pd f_outputSize a_classes a_symbolic a_functionStart a_newAddress a_output) (hp : post (nI (rd_na im s E pd q))) : wpX_mapAddr post (f_capacity, nI s, f_entryCount, f_analysed, f_outputSize, f_status, f_steps, f_pc, f_depth, f_valueCount, a_image, a_entry, a_reached, a_classes, a_symbolic, a_functionStart, a_newAddress, a_output, a_registers, a_stack, a_values) (nI q) := by
  refine br_f han (xl_inI_t hq hs (br_f (by decide) ⟨pk_in q 64 (by omega), ?_⟩))
  rw [nI_clamp (by omega), hA.2.2.2.1 q hq]; exact hp
theorem xr_os (hs : s ≤ 64) (han : ¬ f_analysed = 0) (hA : rd_XA im s E pd f_outputSize a_classes a_symbolic a_functionStart a_newAddress a_output) (hp : post (nI (rd_os im s E pd))) : wpX_outSize post (f_capacity, nI s, f_entryCount, f_analysed, f_outputSize, f_status, f_steps, f_pc, f_depth, f_valueCount, a_image, a_entry, a_reached, a_classes, a_symbolic, a_functionStart, a_newAddress, a_output, a_registers, a_stack, a_values) := by
  refine br_f han ?_
  rw [hA.2.2.2.2.1]; exact hp
theorem xr_out {i : Nat} (h0 : 0 < s) (hpd : pd ≤ 3) (hi : i < rd_os im s E pd) (hs : s ≤ 64) (han : ¬ f_analysed = 0) (hA : rd_XA im s E pd f_outputSize a_classes a_symbolic a_functionStart a_newAddress a_output) (hp : post (nI (rd_ob im s E pd i))) : wpX_outByte post (f_capacity, nI s, f_entryCount, f_analysed, f_outputSize, f_status, f_steps, f_pc, f_depth, f_valueCount, a_image, a_entry, a_reached, a_classes, a_symbolic, a_functionStart, a_newAddress, a_output, a_registers, a_stack, a_values) (nI i) := by
  have hos := rd_os_le im E h0 hs hpd
  refine br_f han (br_f (rd_lt0 (by omega)) (pk_le (rd_os im s E pd) i (fun z => absurd z (by omega)) (fun _ => ⟨pk_in i 253 (by omega), ?_⟩) hA.2.2.2.2.1 rfl))
  rw [nI_clamp (by omega), hA.2.2.2.2.2 i hi]; exact hp
theorem xl_put {post : Int32 → St2 → Prop} {b : Nat} (hb : b < 256) (hs : s < 64) (hp : post 1 (64, nI (s + 1), f_entryCount, 0, f_outputSize, f_status, f_steps, f_pc, f_depth, f_valueCount, upd a_image s (nI b), a_entry, a_reached, a_classes, a_symbolic, a_functionStart, a_newAddress, a_output, a_registers, a_stack, a_values)) : wpX_putByte post (64, nI s, f_entryCount, f_analysed, f_outputSize, f_status, f_steps, f_pc, f_depth, f_valueCount, a_image, a_entry, a_reached, a_classes, a_symbolic, a_functionStart, a_newAddress, a_output, a_registers, a_stack, a_values) (nI b) := by
  refine br_f (rd_lt0 (by omega)) (pk_lt 255 b (fun z => absurd z (by omega)) (fun _ => pk_lt s 64 (fun _ => ⟨pk_in s 64 (by omega), nm_r (e' := upd a_image s (nI b)) ?_ (nm_r (nI_1 s) hp)⟩) (fun z => absurd z (by omega))))
  rw [nI_clamp (by omega)]
theorem xl_add {post : Int32 → St2 → Prop} {a k : Nat} {x : Int32} (hx : x = nI a) (ha : a < s) (hs : s ≤ 64) (hk : k < 8) (hE : ∀ j, a_entry j = rd_b (E j))
    (h1 : E a → post 0 (f_capacity, nI s, nI k, f_analysed, f_outputSize, f_status, f_steps, f_pc, f_depth, f_valueCount, a_image, a_entry, a_reached, a_classes, a_symbolic, a_functionStart, a_newAddress, a_output, a_registers, a_stack, a_values)) (h2 : ¬ E a → post 1 (f_capacity, nI s, nI (k + 1), 0, f_outputSize, f_status, f_steps, f_pc, f_depth, f_valueCount, a_image, upd a_entry a 1, a_reached, a_classes, a_symbolic, a_functionStart, a_newAddress, a_output, a_registers, a_stack, a_values)) : wpX_addEntry post (f_capacity, nI s, nI k, f_analysed, f_outputSize, f_status, f_steps, f_pc, f_depth, f_valueCount, a_image, a_entry, a_reached, a_classes, a_symbolic, a_functionStart, a_newAddress, a_output, a_registers, a_stack, a_values) x := by
  subst hx
  unfold wpX_addEntry
  have hej : a_entry (nI a).toNatClampNeg = rd_b (E a) := by rw [nI_clamp (by omega)]; exact hE a
  refine xl_inI_t ha hs (br_f (by decide) ⟨pk_in a 64 (by omega), ?_⟩)
  rw [hej]
  refine rd_brb (fun z => pk_lt k 8 (fun _ => ⟨pk_in a 64 (by omega), nm_r (e' := upd a_entry a 1) ?_ (nm_r (nI_1 k) (h2 z))⟩) (fun z => absurd z (by omega))) (fun z => h1 z)
  rw [nI_clamp (by omega)]
end
theorem rd_cfs (im : Nat → Nat) (s : Nat) (E : Nat → Prop) : ∀ k, rd_cnt (rd_fs im s E) (k + 1) = rd_cnt (rd_G im s E) (k + 1) + rd_if (rd_fs im s E 0) 1 0 := by
  intro k
  induction k with
  | zero =>
    have e : rd_cnt (rd_G im s E) 1 = 0 := Nat.le_zero.mp (rd_G_le im s E 0)
    show rd_cnt (rd_fs im s E) 0 + rd_if (rd_fs im s E 0) 1 0 = rd_cnt (rd_G im s E) 1 + _
    rw [e]; rfl
  | succ k ih =>
    by_cases h : rd_fs im s E (k + 1)
    · rw [rd_cnt_t h, rd_cnt_t (P := rd_G im s E) ⟨by omega, h⟩]; omega
    · rw [rd_cnt_f h, rd_cnt_f (P := rd_G im s E) (fun z => h z.2)]; omega
/-! the law's own small methods -/
def rd_ce (xs : Nat → Int32) (L k : Nat) : Int32 := if k < L then xs k else 0
def rd_bo (c : Int32) (n : Nat) : Nat :=
  if c.toBitVec.toNat % 65536 % 4 = 0 then c.toBitVec.toNat % 65536 / 4 % 15 else if c.toBitVec.toNat % 65536 % 4 = 1 then c.toBitVec.toNat % 65536 / 4 % 4 else if c.toBitVec.toNat % 65536 % 4 = 2 then c.toBitVec.toNat % 65536 / 4 % n else c.toBitVec.toNat % 65536 / 4 % 256
theorem rd_bo_lt (c : Int32) {n : Nat} (h0 : 0 < n) (hn : n ≤ 64) : rd_bo c n < 256 := by
  unfold rd_bo
  have := Nat.mod_lt (c.toBitVec.toNat % 65536 / 4) h0
  split
  · omega
  · split
    · omega
    · split <;> omega
theorem xw_cell {post : Int32 → Prop} {L : Nat} {xs : Nat → Int32} {k : Nat} {x : Int32} (hx : x = nI k) (hk : k < 2 ^ 30) (hL : L ≤ 260) (hp : post (rd_ce xs L k)) : wpL_cell post L xs () x := by
  subst hx
  unfold rd_ce at hp
  refine pk_le L k (fun h => ?_) (fun h => ⟨pk_in k L h, ?_⟩)
  · rw [if_neg (by omega)] at hp; exact hp
  · rw [if_pos h] at hp
    rw [nI_clamp (by omega)]; exact hp
theorem xw_byte {post : Int32 → Prop} {c : Int32} {n : Nat} (h0 : 0 < n) (hn : n ≤ 64) (hp : post (nI (rd_bo c n))) : wpL_byteOf post () c (nI n) := by
  have e1 : c &&& 65535 = nI (c.toBitVec.toNat % 65536) := pk_and c 16 (by decide)
  unfold rd_bo at hp
  unfold wpL_byteOf
  refine nm_r e1 ?_
  generalize hv : c.toBitVec.toNat % 65536 = v at hp ⊢
  have hv2 : v < 65536 := by rw [← hv]; exact Nat.mod_lt _ (by omega)
  refine nm_r (e' := nI (v % 4)) (pk_andN (by omega) 2 (by decide)) ?_
  refine nm_r (e' := nI (v / 4)) (pk_ushrN (by omega) 2 2 (by decide)) ?_
  refine pk_eq (v % 4) 0 (fun h => ⟨by decide, ?_⟩) (fun a0 => pk_eq (v % 4) 1 (fun h => ⟨by decide, ?_⟩) (fun a1 => pk_eq (v % 4) 2 (fun h => ⟨nI_ne0 h0 (by omega), ?_⟩) (fun a2 => ?_)))
  · have e : nI (v / 4) - nI (v / 4) / 15 * 15 = nI (v / 4 % 15) := pk_rem (d := 15) (by omega) (by omega) (by omega)
    rw [if_pos h] at hp
    rw [e]; exact hp
  · have e : nI (v / 4) - nI (v / 4) / 4 * 4 = nI (v / 4 % 4) := pk_rem (d := 4) (by omega) (by omega) (by omega)
    rw [if_neg a0, if_pos h] at hp
    rw [e]; exact hp
  · rw [if_neg a0, if_neg a1, if_pos h] at hp
    rw [pk_rem (by omega) h0 (by omega)]; exact hp
  · rw [if_neg a0, if_neg a1, if_neg a2] at hp
    have e : nI (v / 4) &&& 255 = nI (v / 4 % 256) := pk_andN (by omega) 8 (by decide)
    rw [e]; exact hp
