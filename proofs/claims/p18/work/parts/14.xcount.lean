/-! X: the counts -/
def rd_un (im : Nat → Nat) (s : Nat) (E : Nat → Prop) (q : Nat) : Prop := rd_st im s E q ∧ (im q = 14 ∨ (im q = 13 ∧ rd_tl im s q = 0))
def rd_ck (im : Nat → Nat) (s : Nat) (E : Nat → Prop) (j q : Nat) : Prop :=
  (j ≤ 4 ∧ rd_cls im s E q = nI j) ∨ (j = 5 ∧ rd_fs im s E q) ∨ (j = 6 ∧ rd_sym im s E s q) ∨ (j = 7 ∧ rd_st im s E q ∧ 0 < rd_tl im s q) ∨ (j = 8 ∧ rd_un im s E q)
theorem rd_ck_c {im : Nat → Nat} {s : Nat} {E : Nat → Prop} {j q : Nat} (h : j ≤ 4) : rd_ck im s E j q ↔ rd_cls im s E q = nI j :=
  ⟨fun z => by
    rcases z with z | z | z | z | z
    · exact z.2
    all_goals exact absurd z.1 (by omega), fun z => Or.inl ⟨h, z⟩⟩
theorem rd_ck_5 {im : Nat → Nat} {s : Nat} {E : Nat → Prop} {q : Nat} : rd_ck im s E 5 q ↔ rd_fs im s E q := by
  unfold rd_ck; simp
theorem rd_ck_6 {im : Nat → Nat} {s : Nat} {E : Nat → Prop} {q : Nat} : rd_ck im s E 6 q ↔ rd_sym im s E s q := by
  unfold rd_ck; simp
theorem rd_ck_7 {im : Nat → Nat} {s : Nat} {E : Nat → Prop} {q : Nat} : rd_ck im s E 7 q ↔ (rd_st im s E q ∧ 0 < rd_tl im s q) := by
  unfold rd_ck; simp
theorem rd_ck_8 {im : Nat → Nat} {s : Nat} {E : Nat → Prop} {q : Nat} : rd_ck im s E 8 q ↔ rd_un im s E q := by
  unfold rd_ck; simp
section
variable {f_capacity f_size f_entryCount f_analysed f_outputSize f_status f_steps f_pc f_depth f_valueCount : Int32} {a_image a_entry a_reached a_classes a_symbolic a_functionStart a_newAddress a_output a_registers a_stack a_values : Nat → Int32} {im : Nat → Nat} {s : Nat} {E : Nat → Prop} {post : Int32 → Prop}
theorem rd_brx {a : Nat → Int32} {i : Nat} {x : Int32} {A B : Prop} (hi : i < 2 ^ 31) (f : a i = x → A) (g : ¬ a i = x → B) : (a (nI i).toNatClampNeg = x → A) ∧ (¬ a (nI i).toNatClampNeg = x → B) := by
  rw [nI_clamp hi]; exact ⟨f, g⟩
theorem xl_cntClass {x : Int32} (hs : s ≤ 64) (hC : ∀ q, q < s → a_classes q = rd_cls im s E q) (hp : post (nI (rd_cnt (fun q => rd_cls im s E q = x) s))) : wpX_countClass post (f_capacity, nI s, f_entryCount, f_analysed, f_outputSize, f_status, f_steps, f_pc, f_depth, f_valueCount, a_image, a_entry, a_reached, a_classes, a_symbolic, a_functionStart, a_newAddress, a_output, a_registers, a_stack, a_values) x := by
  refine pk_loop (fun n i (_ : Unit) => wX_countClass_4 post x f_capacity (nI s) f_entryCount f_analysed f_outputSize f_status f_steps f_pc f_depth f_valueCount a_image a_entry a_reached a_classes a_symbolic a_functionStart a_newAddress a_output a_registers a_stack a_values n (nI (rd_cnt (fun q => rd_cls im s E q = x) i)) (nI i)) (fun _ _ => True) s 0 () (by omega) trivial ?_ ?_
  · intro n _ _
    exact pk_le s s (fun _ => hp) (fun z => absurd z (by omega))
  · intro n i _ hi _ hn
    refine pk_le s i (fun z => absurd z (by omega)) (fun _ => ⟨pk_in i 64 (by omega), rd_brx (by omega) (fun z => nm_r (nI_1 _) (nm_r (nI_1 i) ?_)) (fun z => nm_r (nI_1 i) ?_)⟩)
    · rw [hC i hi] at z
      have h := hn () trivial
      rw [rd_cnt_t (P := fun q => rd_cls im s E q = x) z] at h; exact h
    · rw [hC i hi] at z
      have h := hn () trivial
      rw [rd_cnt_f (P := fun q => rd_cls im s E q = x) z] at h; exact h
theorem xl_cnt_functionStart (hs : s ≤ 64) (hC : ∀ q, q < s → a_functionStart q = rd_b (rd_fs im s E q)) (hp : post (nI (rd_cnt (rd_fs im s E) s))) : wpX_countMarks post (f_capacity, nI s, f_entryCount, f_analysed, f_outputSize, f_status, f_steps, f_pc, f_depth, f_valueCount, a_image, a_entry, a_reached, a_classes, a_symbolic, a_functionStart, a_newAddress, a_output, a_registers, a_stack, a_values) := by
  refine pk_loop (fun n i (_ : Unit) => wX_countMarks_4 post f_capacity (nI s) f_entryCount f_analysed f_outputSize f_status f_steps f_pc f_depth f_valueCount a_image a_entry a_reached a_classes a_symbolic a_functionStart a_newAddress a_output a_registers a_stack a_values n (nI (rd_cnt (rd_fs im s E) i)) (nI i)) (fun _ _ => True) s 0 () (by omega) trivial ?_ ?_
  · intro n _ _
    exact pk_le s s (fun _ => hp) (fun z => absurd z (by omega))
  · intro n i _ hi _ hn
    refine pk_le s i (fun z => absurd z (by omega)) (fun _ => ⟨pk_in i 64 (by omega), rd_brx (by omega) (fun z => nm_r (nI_1 i) ?_) (fun z => nm_r (nI_1 _) (nm_r (nI_1 i) ?_))⟩)
    · rw [hC i hi, rd_b0] at z
      have h := hn () trivial
      rw [rd_cnt_f z] at h; exact h
    · rw [hC i hi, rd_b0, Classical.not_not] at z
      have h := hn () trivial
      rw [rd_cnt_t z] at h; exact h
theorem xl_cnt_symbolic (hs : s ≤ 64) (hC : ∀ q, q < s → a_symbolic q = rd_b (rd_sym im s E s q)) (hp : post (nI (rd_cnt (rd_sym im s E s) s))) : wpX_countMarks_2 post (f_capacity, nI s, f_entryCount, f_analysed, f_outputSize, f_status, f_steps, f_pc, f_depth, f_valueCount, a_image, a_entry, a_reached, a_classes, a_symbolic, a_functionStart, a_newAddress, a_output, a_registers, a_stack, a_values) := by
  refine pk_loop (fun n i (_ : Unit) => wX_countMarks_2_4 post f_capacity (nI s) f_entryCount f_analysed f_outputSize f_status f_steps f_pc f_depth f_valueCount a_image a_entry a_reached a_classes a_symbolic a_functionStart a_newAddress a_output a_registers a_stack a_values n (nI (rd_cnt (rd_sym im s E s) i)) (nI i)) (fun _ _ => True) s 0 () (by omega) trivial ?_ ?_
  · intro n _ _
    exact pk_le s s (fun _ => hp) (fun z => absurd z (by omega))
  · intro n i _ hi _ hn
    refine pk_le s i (fun z => absurd z (by omega)) (fun _ => ⟨pk_in i 64 (by omega), rd_brx (by omega) (fun z => nm_r (nI_1 i) ?_) (fun z => nm_r (nI_1 _) (nm_r (nI_1 i) ?_))⟩)
    · rw [hC i hi, rd_b0] at z
      have h := hn () trivial
      rw [rd_cnt_f z] at h; exact h
    · rw [hC i hi, rd_b0, Classical.not_not] at z
      have h := hn () trivial
      rw [rd_cnt_t z] at h; exact h
theorem xl_cntTables (hs : s ≤ 64) (hI : ∀ j, j < 64 → a_image j = nI (im j)) (hb : ∀ j, im j < 256) (hC : ∀ q, q < s → a_classes q = rd_cls im s E q) (hp : post (nI (rd_cnt (fun q => rd_st im s E q ∧ 0 < rd_tl im s q) s))) : wpX_countTables post (f_capacity, nI s, f_entryCount, f_analysed, f_outputSize, f_status, f_steps, f_pc, f_depth, f_valueCount, a_image, a_entry, a_reached, a_classes, a_symbolic, a_functionStart, a_newAddress, a_output, a_registers, a_stack, a_values) := by
  refine pk_loop (fun n i (_ : Unit) => wX_countTables_4 post f_capacity (nI s) f_entryCount f_analysed f_outputSize f_status f_steps f_pc f_depth f_valueCount a_image a_entry a_reached a_classes a_symbolic a_functionStart a_newAddress a_output a_registers a_stack a_values n (nI (rd_cnt (fun q => rd_st im s E q ∧ 0 < rd_tl im s q) i)) (nI i)) (fun _ _ => True) s 0 () (by omega) trivial ?_ ?_
  · intro n _ _
    exact pk_le s s (fun _ => hp) (fun z => absurd z (by omega))
  · intro n i _ hi _ hn
    have h := hn () trivial
    refine pk_le s i (fun z => absurd z (by omega)) (fun _ => ⟨pk_in i 64 (by omega), rd_brx (by omega) (fun z => ?_) (fun z => nm_r (nI_1 i) ?_)⟩)
    · rw [hC i hi, rd_cls, rd_c2_st] at z
      refine xl_tl hs hI hb z.2 ?_
      have ht : rd_tl im s i ≤ 16 := by
        by_cases h0 : 0 < rd_tl im s i
        · exact (rd_tl_le h0).2.2.2
        · omega
      refine pk_le (rd_tl im s i) 0 (fun h0 => nm_r (nI_1 i) ?_) (fun h0 => nm_r (nI_1 _) (nm_r (nI_1 i) ?_))
      · rw [rd_cnt_f (P := fun q => rd_st im s E q ∧ 0 < rd_tl im s q) (fun y => absurd y.2 (by omega))] at h; exact h
      · rw [rd_cnt_t (P := fun q => rd_st im s E q ∧ 0 < rd_tl im s q) ⟨z, h0⟩] at h; exact h
    · rw [hC i hi, rd_cls, rd_c2_st] at z
      rw [rd_cnt_f (P := fun q => rd_st im s E q ∧ 0 < rd_tl im s q) (fun y => z y.1)] at h; exact h
theorem xl_isUn {p : Nat} (hs : s ≤ 64) (hI : ∀ j, j < 64 → a_image j = nI (im j)) (hb : ∀ j, im j < 256) (ho : rd_ok im s p) (hp : post (rd_b (im p = 14 ∨ (im p = 13 ∧ rd_tl im s p = 0)))) : wpX_isUnresolved post (f_capacity, nI s, f_entryCount, f_analysed, f_outputSize, f_status, f_steps, f_pc, f_depth, f_valueCount, a_image, a_entry, a_reached, a_classes, a_symbolic, a_functionStart, a_newAddress, a_output, a_registers, a_stack, a_values) (nI p) := by
  have hps := ho.1
  have bp := hb p
  have hr := rd_rd hI p (by omega) (by omega) (x := nI p)
  refine ⟨pk_in p 64 (by omega), pk_eq (im p) 14 (fun e => rd_pt hp (Or.inl e)) (fun e => ⟨pk_in p 64 (by omega), pk_eq (im p) 13 (fun e3 => ?_) (fun e3 => rd_pf hp (by omega)) hr rfl⟩) hr rfl⟩
  refine xl_tl hs hI hb ho ?_
  have ht : rd_tl im s p ≤ 16 := by
    by_cases h0 : 0 < rd_tl im s p
    · exact (rd_tl_le h0).2.2.2
    · omega
  exact pk_eq (rd_tl im s p) 0 (fun h0 => rd_pt hp (Or.inr ⟨e3, h0⟩)) (fun h0 => rd_pf hp (by omega))
theorem xl_cntUn (hs : s ≤ 64) (hI : ∀ j, j < 64 → a_image j = nI (im j)) (hb : ∀ j, im j < 256) (hC : ∀ q, q < s → a_classes q = rd_cls im s E q) (hp : post (nI (rd_cnt (rd_un im s E) s))) : wpX_countUnresolved post (f_capacity, nI s, f_entryCount, f_analysed, f_outputSize, f_status, f_steps, f_pc, f_depth, f_valueCount, a_image, a_entry, a_reached, a_classes, a_symbolic, a_functionStart, a_newAddress, a_output, a_registers, a_stack, a_values) := by
  refine pk_loop (fun n i (_ : Unit) => wX_countUnresolved_4 post f_capacity (nI s) f_entryCount f_analysed f_outputSize f_status f_steps f_pc f_depth f_valueCount a_image a_entry a_reached a_classes a_symbolic a_functionStart a_newAddress a_output a_registers a_stack a_values n (nI (rd_cnt (rd_un im s E) i)) (nI i)) (fun _ _ => True) s 0 () (by omega) trivial ?_ ?_
  · intro n _ _
    exact pk_le s s (fun _ => hp) (fun z => absurd z (by omega))
  · intro n i _ hi _ hn
    have h := hn () trivial
    refine pk_le s i (fun z => absurd z (by omega)) (fun _ => ⟨pk_in i 64 (by omega), rd_brx (by omega) (fun z => ?_) (fun z => nm_r (nI_1 i) ?_)⟩)
    · rw [hC i hi, rd_cls, rd_c2_st] at z
      refine xl_isUn hs hI hb z.2 ?_
      refine rd_brb (fun h0 => nm_r (nI_1 i) ?_) (fun h0 => nm_r (nI_1 _) (nm_r (nI_1 i) ?_))
      · rw [rd_cnt_f (P := rd_un im s E) (fun y => h0 y.2)] at h; exact h
      · rw [rd_cnt_t (P := rd_un im s E) ⟨z, h0⟩] at h; exact h
    · rw [hC i hi, rd_cls, rd_c2_st] at z
      rw [rd_cnt_f (P := rd_un im s E) (fun y => z y.1)] at h; exact h
theorem xl_count {j pd : Nat} (hj : j ≤ 8) (hs : s ≤ 64) (hI : ∀ j, j < 64 → a_image j = nI (im j)) (hb : ∀ j, im j < 256) (hA : rd_XA im s E pd f_outputSize a_classes a_symbolic a_functionStart a_newAddress a_output) (hp : post (nI (rd_cnt (rd_ck im s E j) s))) : wpX_count post (f_capacity, nI s, f_entryCount, 1, f_outputSize, f_status, f_steps, f_pc, f_depth, f_valueCount, a_image, a_entry, a_reached, a_classes, a_symbolic, a_functionStart, a_newAddress, a_output, a_registers, a_stack, a_values) (nI j) := by
  have hc : j = 0 ∨ j = 1 ∨ j = 2 ∨ j = 3 ∨ j = 4 ∨ j = 5 ∨ j = 6 ∨ j = 7 ∨ j = 8 := by omega
  have C : j ≤ 4 → wX_count_84 post (nI j) f_capacity (nI s) f_entryCount 1 f_outputSize f_status f_steps f_pc f_depth f_valueCount a_image a_entry a_reached a_classes a_symbolic a_functionStart a_newAddress a_output a_registers a_stack a_values := by
    intro h4
    unfold wX_count_84
    refine xl_cntClass hs hA.1 ?_
    rw [← rd_cnt_c fun q _ => rd_ck_c h4]; exact hp
  rcases hc with e | e | e | e | e | e | e | e | e <;> subst e <;>
    (refine br_f (by decide) (br_f (by decide) (br_f (by decide) (br_f (by decide) (br_f (by decide) ?_))))
     repeat (first | refine br_t (by decide) ?_ | refine br_f (by decide) ?_))
  · exact C (by omega)
  · exact C (by omega)
  · exact C (by omega)
  · exact C (by omega)
  · exact C (by omega)
  · exact xl_cnt_functionStart hs hA.2.2.1 (by rw [← rd_cnt_c fun q _ => rd_ck_5]; exact hp)
  · exact xl_cnt_symbolic hs hA.2.1 (by rw [← rd_cnt_c fun q _ => rd_ck_6]; exact hp)
  · exact xl_cntTables hs hI hb hA.1 (by rw [← rd_cnt_c fun q _ => rd_ck_7]; exact hp)
  · exact xl_cntUn hs hI hb hA.1 (by rw [← rd_cnt_c fun q _ => rd_ck_8]; exact hp)
end
