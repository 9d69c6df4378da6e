/-! X: the small methods -/
section
variable {f_capacity f_size f_entryCount f_analysed f_outputSize f_status f_steps f_pc f_depth f_valueCount : Int32} {a_image a_entry a_reached a_classes a_symbolic a_functionStart a_newAddress a_output a_registers a_stack a_values : Nat → Int32} {im m : Nat → Nat} {s : Nat} {post : Int32 → Prop}
theorem rd_pt {P : Prop} (hp : post (rd_b P)) (h : P) : post 1 := by rw [rd_b_t h] at hp; exact hp
theorem rd_pf {P : Prop} (hp : post (rd_b P)) (h : ¬ P) : post 0 := by rw [rd_b_f h] at hp; exact hp
theorem rd_brb {P A B : Prop} (f : ¬ P → A) (g : P → B) : (rd_b P = 0 → A) ∧ (¬ rd_b P = 0 → B) :=
  ⟨fun h => f (rd_b0.mp h), fun h => g (Classical.byContradiction fun z => h (rd_b_f z))⟩
theorem rd_rd {a : Nat → Int32} {n : Nat} (hI : ∀ j, j < n → a j = nI (m j)) {x : Int32} (p : Nat) (h : p < n) (hn : n ≤ 256) (hx : x = nI p := by rfl) : a x.toNatClampNeg = nI (m p) := by
  subst hx
  rw [nI_clamp (by omega)]
  exact hI p h
theorem xl_inI_t {q : Nat} (hq : q < s) (hs : s ≤ 64) (hp : post 1) : wpX_inImage post (f_capacity, nI s, f_entryCount, f_analysed, f_outputSize, f_status, f_steps, f_pc, f_depth, f_valueCount, a_image, a_entry, a_reached, a_classes, a_symbolic, a_functionStart, a_newAddress, a_output, a_registers, a_stack, a_values) (nI q) :=
  br_f (rd_lt0 (by omega)) (pk_le s q (fun h => absurd h (by omega)) (fun _ => hp))
theorem xl_inI_f {v : Int32} (h : v < 0 ∨ nI s ≤ v) (hp : post 0) : wpX_inImage post (f_capacity, nI s, f_entryCount, f_analysed, f_outputSize, f_status, f_steps, f_pc, f_depth, f_valueCount, a_image, a_entry, a_reached, a_classes, a_symbolic, a_functionStart, a_newAddress, a_output, a_registers, a_stack, a_values) v := by
  by_cases h0 : v < 0
  · exact br_t h0 hp
  · exact br_f h0 (br_t (h.resolve_left h0) hp)
theorem rd_op15 {op : Nat} (h : op ≤ 14) : op = 0 ∨ op = 1 ∨ op = 2 ∨ op = 3 ∨ op = 4 ∨ op = 5 ∨ op = 6 ∨ op = 7 ∨ op = 8 ∨ op = 9 ∨ op = 10 ∨ op = 11 ∨ op = 12 ∨ op = 13 ∨ op = 14 := by omega
theorem xl_len {op : Nat} (h : op ≤ 14) (hp : post (nI (rd_len op))) : wpX_lengthOf post (f_capacity, nI s, f_entryCount, f_analysed, f_outputSize, f_status, f_steps, f_pc, f_depth, f_valueCount, a_image, a_entry, a_reached, a_classes, a_symbolic, a_functionStart, a_newAddress, a_output, a_registers, a_stack, a_values) (nI op) := by
  rcases rd_op15 h with e | e | e | e | e | e | e | e | e | e | e | e | e | e | e <;> subst e <;>
    (refine br_f (by decide) (br_f (by decide) ?_)
     repeat (first | exact br_t (by decide) hp | refine br_f (by decide) ?_))
theorem rd_r1_iff {op : Nat} (h : op ≤ 14) : rd_r1 op ↔ (¬ rd_len op ≤ 1 ∧ op ≠ 8 ∧ op ≠ 11) := by
  unfold rd_r1 rd_len
  split
  · omega
  · split
    · omega
    · split <;> omega
theorem xl_r1 {op : Nat} (h : op ≤ 14) (hp : post (rd_b (rd_r1 op))) : wpX_firstOperandIsRegister post (f_capacity, nI s, f_entryCount, f_analysed, f_outputSize, f_status, f_steps, f_pc, f_depth, f_valueCount, a_image, a_entry, a_reached, a_classes, a_symbolic, a_functionStart, a_newAddress, a_output, a_registers, a_stack, a_values) (nI op) := by
  unfold wpX_firstOperandIsRegister
  refine xl_len h ?_
  have hl := rd_len_r op
  have hi := rd_r1_iff h
  exact pk_le (rd_len op) 1 (fun h1 => rd_pf hp fun z => (hi.mp z).1 h1) (fun h1 => pk_eq op 8 (fun e => rd_pf hp fun z => (hi.mp z).2.1 e) (fun e8 => pk_eq op 11 (fun e => rd_pf hp fun z => (hi.mp z).2.2 e) (fun e11 => rd_pt hp (hi.mpr ⟨by omega, e8, e11⟩))))
theorem xl_sr {op : Nat} (h : op ≤ 14) (h4 : op = 4 → post 2) (h6 : op = 6 → post 3) (h0 : op ≠ 4 → op ≠ 6 → post 0) : wpX_secondRegisterOffset post (f_capacity, nI s, f_entryCount, f_analysed, f_outputSize, f_status, f_steps, f_pc, f_depth, f_valueCount, a_image, a_entry, a_reached, a_classes, a_symbolic, a_functionStart, a_newAddress, a_output, a_registers, a_stack, a_values) (nI op) :=
  pk_eq op 4 h4 (fun a => pk_eq op 6 h6 (fun b => h0 a b))
theorem xl_dec_image {n p : Nat} (hn : n ≤ 64) (hI : ∀ j, j < n → a_image j = nI (m j)) (hb : ∀ j, m j < 256) (hpp : p < 2 ^ 30) (hp : post (rd_b (rd_ok m n p))) : wpX_decodes post (f_capacity, nI s, f_entryCount, f_analysed, f_outputSize, f_status, f_steps, f_pc, f_depth, f_valueCount, a_image, a_entry, a_reached, a_classes, a_symbolic, a_functionStart, a_newAddress, a_output, a_registers, a_stack, a_values) (nI n) (nI p) := by
  have K : p < n → m p ≤ 14 → p + rd_len (m p) ≤ n → (rd_r1 (m p) → m (p + 1) ≤ 3) → wX_decodes_57 post (nI p) (nI (m p)) f_capacity (nI s) f_entryCount f_analysed f_outputSize f_status f_steps f_pc f_depth f_valueCount a_image a_entry a_reached a_classes a_symbolic a_functionStart a_newAddress a_output a_registers a_stack a_values := by
    intro h1 h2 h3 h4
    unfold wX_decodes_57
    refine xl_sr h2 (fun e => ?_) (fun e => ?_) (fun e4 e6 => ?_)
    · have el : rd_len (m p) = 3 := by rw [e]; rfl
      have hr := rd_rd hI (p + 2) (by omega) (by omega) (x := nI p + 2) (nI_add p 2)
      have hbb := hb (p + 2)
      refine br_f (by decide) ⟨pk_in (p + 2) 64 (by omega) (nI_add p 2), pk_le 4 (m (p + 2)) (fun z => rd_pf hp fun y => ?_) (fun z => rd_pt hp ?_) rfl hr⟩
      · have := y.2.2.2.2.1 e; omega
      · exact ⟨h1, h2, h3, h4, fun _ => by omega, fun e6 => by omega⟩
    · have el : rd_len (m p) = 4 := by rw [e]; rfl
      have hr := rd_rd hI (p + 3) (by omega) (by omega) (x := nI p + 3) (nI_add p 3)
      have hbb := hb (p + 3)
      refine br_f (by decide) ⟨pk_in (p + 3) 64 (by omega) (nI_add p 3), pk_le 4 (m (p + 3)) (fun z => rd_pf hp fun y => ?_) (fun z => rd_pt hp ?_) rfl hr⟩
      · have := y.2.2.2.2.2 e; omega
      · exact ⟨h1, h2, h3, h4, fun e4 => by omega, fun _ => by omega⟩
    · exact br_t rfl (rd_pt hp ⟨h1, h2, h3, h4, fun z => absurd z e4, fun z => absurd z e6⟩)
  unfold wpX_decodes
  refine br_f (rd_lt0 (by omega)) (pk_lt p n (fun h => ⟨pk_in p 64 (by omega), ?_⟩) (fun h => rd_pf hp fun z => absurd z.1 (by omega)))
  have hbp := hb p
  have hl := rd_len_r (m p)
  refine nm_r (rd_rd hI p h (by omega)) ?_
  refine pk_lt 14 (m p) (fun z => rd_pf hp fun y => absurd y.2.1 (by omega)) (fun h14 => ?_)
  refine xl_len h14 ?_
  refine pk_le (p + rd_len (m p)) n (fun hle => ?_) (fun z => rd_pf hp fun y => absurd y.2.2.1 (by omega)) (nI_add _ _) rfl
  refine xl_r1 h14 ?_
  refine rd_brb (fun hr => K h h14 hle (fun z => absurd z hr)) (fun hr => ?_)
  have h2 : 2 ≤ rd_len (m p) := by have := ((rd_r1_iff h14).mp hr).1; omega
  have hr1 := rd_rd hI (p + 1) (by omega) (by omega) (x := nI p + 1) (nI_1 p)
  have hb1 := hb (p + 1)
  exact ⟨pk_in (p + 1) 64 (by omega) (nI_1 p), pk_lt (m (p + 1)) 4 (fun z => K h h14 hle (fun _ => by omega)) (fun z => rd_pf hp fun y => absurd (y.2.2.2.1 hr) (by omega)) hr1 rfl⟩
theorem rd_tl_0 {p : Nat} (hp : post (nI (rd_tl im s p))) (h : ¬ rd_tb im s p) : post 0 := by
  have e : rd_tl im s p = 0 := rd_if_f h
  rw [e] at hp; exact hp
theorem xl_tl {p : Nat} (hs : s ≤ 64) (hI : ∀ j, j < 64 → a_image j = nI (im j)) (hb : ∀ j, im j < 256) (ho : rd_ok im s p) (hp : post (nI (rd_tl im s p))) : wpX_tableLength post (f_capacity, nI s, f_entryCount, f_analysed, f_outputSize, f_status, f_steps, f_pc, f_depth, f_valueCount, a_image, a_entry, a_reached, a_classes, a_symbolic, a_functionStart, a_newAddress, a_output, a_registers, a_stack, a_values) (nI p) := by
  have hps := ho.1
  have hle := ho.2.2.1
  have hbp := hb p
  refine ⟨pk_in p 64 (by omega), pk_eq (im p) 13 (fun e => ?_) (fun e => rd_tl_0 hp fun z => e z.1) (rd_rd hI p (by omega) (by omega)) rfl⟩
  have el : rd_len (im p) = 3 := by rw [e]; rfl
  refine pk_le 4 p (fun h4 => ?_) (fun h4 => rd_tl_0 hp fun z => absurd z.2.1 (by omega))
  have s4 : nI p - 4 = nI (p - 4) := pk_sub h4
  have s3 : nI p - 3 = nI (p - 3) := pk_sub (b := 3) (by omega)
  have s2 : nI p - 2 = nI (p - 2) := pk_sub (b := 2) (by omega)
  have b4 := hb (p - 4)
  have b3 := hb (p - 3)
  have b2 := hb (p - 2)
  have c1 := hb (p + 1)
  have c2 := hb (p + 2)
  refine ⟨pk_in (p - 4) 64 (by omega) s4, pk_eq (im (p - 4)) 10 (fun e10 => ?_) (fun e10 => rd_tl_0 hp fun z => e10 z.2.2.1) (rd_rd hI (p - 4) (by omega) (by omega) s4) rfl⟩
  refine ⟨pk_in (p - 3) 64 (by omega) s3, pk_in (p + 1) 64 (by omega) (nI_1 p), pk_eq (im (p - 3)) (im (p + 1)) (fun e3 => ?_) (fun e3 => rd_tl_0 hp fun z => e3 z.2.2.2.1) (rd_rd hI (p - 3) (by omega) (by omega) s3) (rd_rd hI (p + 1) (by omega) (by omega) (nI_1 p))⟩
  refine ⟨pk_in (p - 2) 64 (by omega) s2, nm_r (rd_rd hI (p - 2) (by omega) (by omega) s2) ?_⟩
  refine pk_lt 16 (im (p - 2)) (fun h16 => br_t rfl (rd_tl_0 hp fun z => absurd z.2.2.2.2.1 (by omega))) (fun h16 => ?_)
  refine ⟨pk_in (p + 2) 64 (by omega) (nI_add p 2), pk_lt s (im (p + 2) + im (p - 2)) (fun hz => br_t rfl (rd_tl_0 hp fun z => absurd z.2.2.2.2.2 (by omega))) (fun hz => br_f (by decide) ?_) rfl ?_⟩
  · have et : rd_tl im s p = im (p - 2) := rd_if_t ⟨e, h4, e10, e3, h16, hz⟩
    rw [et] at hp; exact hp
  · rw [rd_rd hI (p + 2) (by omega) (by omega) (x := nI p + 2) (nI_add p 2), nI_add]
theorem rd_slo_r (op : Nat) : rd_slo op ≤ 3 := by
  unfold rd_slo
  split
  · omega
  · split
    · omega
    · split <;> omega
theorem xl_slo {op : Nat} (h : op ≤ 14) (hp : post (nI (rd_slo op))) : wpX_slotOffset post (f_capacity, nI s, f_entryCount, f_analysed, f_outputSize, f_status, f_steps, f_pc, f_depth, f_valueCount, a_image, a_entry, a_reached, a_classes, a_symbolic, a_functionStart, a_newAddress, a_output, a_registers, a_stack, a_values) (nI op) := by
  rcases rd_op15 h with e | e | e | e | e | e | e | e | e | e | e | e | e | e | e <;> subst e <;>
    repeat (first | exact br_t (by decide) hp | refine br_f (by decide) ?_)
end
