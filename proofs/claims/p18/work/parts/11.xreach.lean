/-! X: the reached set -/
section
variable {f_capacity f_size f_entryCount f_analysed f_outputSize f_status f_steps f_pc f_depth f_valueCount : Int32} {a_image a_entry a_reached a_classes a_symbolic a_functionStart a_newAddress a_output a_registers a_stack a_values : Nat → Int32} {im : Nat → Nat} {s : Nat} {E : Nat → Prop} {post : St2 → Prop}
def rd_nz (a : Nat → Int32) (q : Nat) : Prop := ¬ a q = 0
theorem rd_nz_u {a : Nat → Int32} {k q : Nat} : rd_nz (upd a k 1) q ↔ (rd_nz a q ∨ q = k) := by
  unfold rd_nz
  by_cases e : q = k
  · subst e
    rw [pk_us]
    exact ⟨fun _ => Or.inr rfl, fun _ => by decide⟩
  · rw [pk_un e]
    exact ⟨Or.inl, fun h => h.resolve_right e⟩
theorem xl_reach {a : Nat} {x : Int32} (hx : x = nI a) (hs : s ≤ 64) (ha : a < 2 ^ 31) (hp : ∀ R, (∀ q, q < s → (rd_nz R q ↔ (rd_nz a_reached q ∨ q = a))) → post (f_capacity, nI s, f_entryCount, f_analysed, f_outputSize, f_status, f_steps, f_pc, f_depth, f_valueCount, a_image, a_entry, R, a_classes, a_symbolic, a_functionStart, a_newAddress, a_output, a_registers, a_stack, a_values)) : wpX_reach post (f_capacity, nI s, f_entryCount, f_analysed, f_outputSize, f_status, f_steps, f_pc, f_depth, f_valueCount, a_image, a_entry, a_reached, a_classes, a_symbolic, a_functionStart, a_newAddress, a_output, a_registers, a_stack, a_values) x := by
  subst hx
  refine pk_le s a (fun h => hp _ fun q hq => ⟨Or.inl, fun z => z.resolve_right (by omega)⟩) (fun h => ⟨pk_in a 64 (by omega), nm_r (e' := upd a_reached a 1) ?_ (hp _ fun q _ => rd_nz_u)⟩)
  rw [nI_clamp ha]
theorem xl_reachTable {p : Nat} (hs : s ≤ 64) (hI : ∀ j, j < 64 → a_image j = nI (im j)) (hb : ∀ j, im j < 256) (ho : rd_ok im s p) (h13 : im p = 13) (hp : ∀ R, (∀ q, q < s → (rd_nz R q ↔ (rd_nz a_reached q ∨ ∃ j, j < rd_tl im s p ∧ q = im (im (p + 2) + j)))) → post (f_capacity, nI s, f_entryCount, f_analysed, f_outputSize, f_status, f_steps, f_pc, f_depth, f_valueCount, a_image, a_entry, R, a_classes, a_symbolic, a_functionStart, a_newAddress, a_output, a_registers, a_stack, a_values)) : wpX_reachTable post (f_capacity, nI s, f_entryCount, f_analysed, f_outputSize, f_status, f_steps, f_pc, f_depth, f_valueCount, a_image, a_entry, a_reached, a_classes, a_symbolic, a_functionStart, a_newAddress, a_output, a_registers, a_stack, a_values) (nI p) := by
  have hle := ho.2.2.1
  have el : rd_len (im p) = 3 := by rw [h13]; rfl
  have c2 := hb (p + 2)
  have ht : rd_tl im s p ≤ 16 ∧ (0 < rd_tl im s p → im (p + 2) + rd_tl im s p ≤ s) := by
    by_cases h0 : 0 < rd_tl im s p
    · have := rd_tl_le h0; omega
    · omega
  refine ⟨pk_in (p + 2) 64 (by omega) (nI_add p 2), nm_r (rd_rd hI (p + 2) (by omega) (by omega) (nI_add p 2)) ?_⟩
  refine xl_tl hs hI hb ho ?_
  refine nm_r (nI_add _ _) ?_
  refine pk_loop (fun n i R => wX_reachTable_20 post (nI (im (p + 2) + rd_tl im s p)) n (nI i) f_capacity (nI s) f_entryCount f_analysed f_outputSize f_status f_steps f_pc f_depth f_valueCount a_image a_entry R a_classes a_symbolic a_functionStart a_newAddress a_output a_registers a_stack a_values)
    (fun i R => im (p + 2) ≤ i ∧ ∀ q, q < s → (rd_nz R q ↔ (rd_nz a_reached q ∨ ∃ j, im (p + 2) + j < i ∧ q = im (im (p + 2) + j)))) (im (p + 2) + rd_tl im s p) (im (p + 2)) a_reached (by omega) ?_ ?_ ?_
  · exact ⟨Nat.le_refl _, fun q _ => ⟨Or.inl, fun z => z.elim id fun ⟨j, hj, _⟩ => absurd hj (by omega)⟩⟩
  · rintro n R ⟨-, hR⟩
    refine pk_le (im (p + 2) + rd_tl im s p) (im (p + 2) + rd_tl im s p) (fun _ => hp R fun q hq => ?_) (fun z => absurd z (by omega))
    rw [hR q hq]
    exact ⟨fun z => z.imp id fun ⟨j, hj, e⟩ => ⟨j, by omega, e⟩, fun z => z.imp id fun ⟨j, hj, e⟩ => ⟨j, by omega, e⟩⟩
  · rintro n i R hi ⟨hlow, hR⟩ hn
    have hi64 : i < 64 := by
      have := ht.2 (by omega)
      omega
    have ci := hb i
    refine pk_le (im (p + 2) + rd_tl im s p) i (fun z => absurd z (by omega)) (fun _ => ⟨pk_in i 64 hi64, ?_⟩)
    refine xl_reach (rd_rd hI i hi64 (by omega)) hs (by omega) (fun R' hR' => nm_r (nI_1 i) (hn R' ⟨by omega, fun q hq => ?_⟩))
    rw [hR' q hq, hR q hq]
    constructor
    · rintro ((z | ⟨j, hj, e⟩) | z)
      · exact Or.inl z
      · exact Or.inr ⟨j, by omega, e⟩
      · exact Or.inr ⟨i - im (p + 2), by omega, by rw [z, show im (p + 2) + (i - im (p + 2)) = i by omega]⟩
    · rintro (z | ⟨j, hj, e⟩)
      · exact Or.inl (Or.inl z)
      · by_cases ej : im (p + 2) + j = i
        · exact Or.inr (by rw [e, ej])
        · exact Or.inl (Or.inr ⟨j, by omega, e⟩)
theorem rd_sc_n {m : Nat → Nat} {p q : Nat} (e : m p = 0 ∨ m p = 12 ∨ m p = 14) : ¬ rd_sc m s p q := by
  unfold rd_sc rd_seq
  rcases e with e | e | e <;> rw [e] <;> simp
theorem rd_sc_8 {m : Nat → Nat} {p q : Nat} (e : m p = 8) : rd_sc m s p q ↔ q = m (p + 1) := by
  unfold rd_sc rd_seq
  rw [e]; simp
theorem rd_sc_11 {m : Nat → Nat} {p q : Nat} (e : m p = 11) : rd_sc m s p q ↔ (q = m (p + 1) ∨ q = p + 2) := by
  unfold rd_sc rd_seq
  rw [e]; simp
theorem rd_sc_9 {m : Nat → Nat} {p q : Nat} (e : m p = 9 ∨ m p = 10) : rd_sc m s p q ↔ (q = m (p + 3) ∨ q = p + 4) := by
  unfold rd_sc rd_seq
  rcases e with e | e <;> rw [e] <;> simp
theorem rd_sc_13 {m : Nat → Nat} {p q : Nat} (e : m p = 13) : rd_sc m s p q ↔ ∃ j, j < rd_tl m s p ∧ q = m (m (p + 2) + j) := by
  unfold rd_sc rd_seq
  rw [e]; simp
theorem rd_sc_q {m : Nat → Nat} {p q : Nat} (e : m p = 1 ∨ m p = 2 ∨ m p = 3 ∨ m p = 4 ∨ m p = 5 ∨ m p = 6 ∨ m p = 7) : rd_sc m s p q ↔ q = p + rd_len (m p) := by
  unfold rd_sc rd_seq
  rcases e with e | e | e | e | e | e | e <;> rw [e] <;> simp
theorem xl_succ {p : Nat} (hs : s ≤ 64) (hI : ∀ j, j < 64 → a_image j = nI (im j)) (hb : ∀ j, im j < 256) (ho : rd_ok im s p) (hp : ∀ R, (∀ q, q < s → (rd_nz R q ↔ (rd_nz a_reached q ∨ rd_sc im s p q))) → post (f_capacity, nI s, f_entryCount, f_analysed, f_outputSize, f_status, f_steps, f_pc, f_depth, f_valueCount, a_image, a_entry, R, a_classes, a_symbolic, a_functionStart, a_newAddress, a_output, a_registers, a_stack, a_values)) : wpX_reachSuccessors post (f_capacity, nI s, f_entryCount, f_analysed, f_outputSize, f_status, f_steps, f_pc, f_depth, f_valueCount, a_image, a_entry, a_reached, a_classes, a_symbolic, a_functionStart, a_newAddress, a_output, a_registers, a_stack, a_values) (nI p) := by
  have hps := ho.1
  have hle := ho.2.2.1
  have hl := rd_len_r (im p)
  have b1 := hb (p + 1)
  have b3 := hb (p + 3)
  have H0 : (∀ q, ¬ rd_sc im s p q) → post (f_capacity, nI s, f_entryCount, f_analysed, f_outputSize, f_status, f_steps, f_pc, f_depth, f_valueCount, a_image, a_entry, a_reached, a_classes, a_symbolic, a_functionStart, a_newAddress, a_output, a_registers, a_stack, a_values) := fun h => hp a_reached fun q _ => ⟨Or.inl, fun z => z.resolve_right (h q)⟩
  have H1 : (∀ q, rd_sc im s p q ↔ q = p + rd_len (im p)) → wX_reachSuccessors_158 post (nI (p + rd_len (im p))) f_capacity (nI s) f_entryCount f_analysed f_outputSize f_status f_steps f_pc f_depth f_valueCount a_image a_entry a_reached a_classes a_symbolic a_functionStart a_newAddress a_output a_registers a_stack a_values := by
    intro h
    unfold wX_reachSuccessors_158
    exact xl_reach rfl hs (by omega) fun R hR => hp R fun q hq => by rw [hR q hq, h q]
  have H2 : rd_len (im p) = 4 → (∀ q, rd_sc im s p q ↔ (q = im (p + 3) ∨ q = p + rd_len (im p))) → wX_reachSuccessors_130 post (nI p) (nI (p + rd_len (im p))) f_capacity (nI s) f_entryCount f_analysed f_outputSize f_status f_steps f_pc f_depth f_valueCount a_image a_entry a_reached a_classes a_symbolic a_functionStart a_newAddress a_output a_registers a_stack a_values := by
    intro h4 h
    refine ⟨pk_in (p + 3) 64 (by omega) (nI_add p 3), ?_⟩
    refine xl_reach (rd_rd hI (p + 3) (by omega) (by omega) (nI_add p 3)) hs (by omega) (fun R hR => ?_)
    exact xl_reach rfl hs (by omega) fun R2 hR2 => hp R2 fun q hq => by rw [hR2 q hq, hR q hq, h q, or_assoc]
  refine ⟨pk_in p 64 (by omega), nm_r (rd_rd hI p (by omega) (by omega)) ?_⟩
  refine xl_len ho.2.1 ?_
  refine nm_r (nI_add _ _) ?_
  rcases rd_op15 ho.2.1 with e | e | e | e | e | e | e | e | e | e | e | e | e | e | e
  all_goals (repeat (first | refine br_t (by rw [e]; decide) ?_ | refine br_f (by rw [e]; decide) ?_))
  · exact H0 fun q => rd_sc_n (by omega)
  · exact H1 fun q => rd_sc_q (by omega)
  · exact H1 fun q => rd_sc_q (by omega)
  · exact H1 fun q => rd_sc_q (by omega)
  · exact H1 fun q => rd_sc_q (by omega)
  · exact H1 fun q => rd_sc_q (by omega)
  · exact H1 fun q => rd_sc_q (by omega)
  · exact H1 fun q => rd_sc_q (by omega)
  · have el : rd_len (im p) = 2 := by rw [e]; rfl
    refine ⟨pk_in (p + 1) 64 (by omega) (nI_1 p), ?_⟩
    exact xl_reach (rd_rd hI (p + 1) (by omega) (by omega) (nI_1 p)) hs (by omega) fun R hR => hp R fun q hq => by rw [hR q hq, rd_sc_8 e]
  · have el : rd_len (im p) = 4 := by rw [e]; rfl
    exact H2 el fun q => by rw [rd_sc_9 (by omega), el]
  · have el : rd_len (im p) = 4 := by rw [e]; rfl
    exact H2 el fun q => by rw [rd_sc_9 (by omega), el]
  · have el : rd_len (im p) = 2 := by rw [e]; rfl
    refine ⟨pk_in (p + 1) 64 (by omega) (nI_1 p), ?_⟩
    refine xl_reach (rd_rd hI (p + 1) (by omega) (by omega) (nI_1 p)) hs (by omega) fun R hR => ?_
    exact xl_reach rfl hs (by omega) fun R2 hR2 => hp R2 fun q hq => by rw [hR2 q hq, hR q hq, rd_sc_11 e, el, or_assoc]
  · exact H0 fun q => rd_sc_n (by omega)
  · exact xl_reachTable hs hI hb ho e fun R hR => hp R fun q hq => by rw [hR q hq, rd_sc_13 e]
  · exact H0 fun q => rd_sc_n (by omega)
theorem rd_Ps_skip {m : Nat → Nat} {R0 R : Nat → Prop} {p : Nat} (h : rd_Ps m s E R0 R p) (hn : R0 p → rd_ok m s p → False) : rd_Ps m s E R0 R (p + 1) := by
  refine ⟨h.1, h.2.1, fun p' hp' h0 ho x hx hsc => ?_⟩
  by_cases e : p' = p
  · subst e; exact (hn h0 ho).elim
  · exact h.2.2 p' (by omega) h0 ho x hx hsc
theorem rd_Ps_add {m : Nat → Nat} {R0 R R' : Nat → Prop} {p : Nat} (h : rd_Ps m s E R0 R p) (hR : R p) (ho : rd_ok m s p) (hR' : ∀ q, q < s → (R' q ↔ (R q ∨ rd_sc m s p q))) : rd_Ps m s E R0 R' (p + 1) := by
  refine ⟨fun q hq h0 => (hR' q hq).mpr (Or.inl (h.1 q hq h0)), fun q hq hr => ?_, fun p' hp' h0 hok x hx hsc => ?_⟩
  · rcases (hR' q hq).mp hr with z | z
    · exact h.2.1 q hq z
    · exact rd_LR_s (h.2.1 p ho.1 hR) ho z hq
  · by_cases e : p' = p
    · subst e; exact (hR' x hx).mpr (Or.inr hsc)
    · exact (hR' x hx).mpr (Or.inl (h.2.2 p' (by omega) h0 hok x hx hsc))
theorem rd_br0 {a : Nat → Int32} {i : Nat} {A B : Prop} (hi : i < 2 ^ 31) (f : a i = 0 → A) (g : ¬ a i = 0 → B) : (a (nI i).toNatClampNeg = 0 → A) ∧ (¬ a (nI i).toNatClampNeg = 0 → B) := by
  rw [nI_clamp hi]; exact ⟨f, g⟩
theorem xl_find (hs : s ≤ 64) (hI : ∀ j, j < 64 → a_image j = nI (im j)) (hb : ∀ j, im j < 256) (hE : ∀ j, j < 64 → a_entry j = rd_b (E j)) (hp : ∀ R, (∀ q, q < s → (rd_nz R q ↔ rd_LR im s E q)) → post (f_capacity, nI s, f_entryCount, f_analysed, f_outputSize, f_status, f_steps, f_pc, f_depth, f_valueCount, a_image, a_entry, R, a_classes, a_symbolic, a_functionStart, a_newAddress, a_output, a_registers, a_stack, a_values)) : wpX_findReached post (f_capacity, nI s, f_entryCount, f_analysed, f_outputSize, f_status, f_steps, f_pc, f_depth, f_valueCount, a_image, a_entry, a_reached, a_classes, a_symbolic, a_functionStart, a_newAddress, a_output, a_registers, a_stack, a_values) := by
  refine pk_loop (fun n i R => wX_findReached_2 post f_capacity (nI s) f_entryCount f_analysed f_outputSize f_status f_steps f_pc f_depth f_valueCount n (nI i) a_image a_entry R a_classes a_symbolic a_functionStart a_newAddress a_output a_registers a_stack a_values)
    (fun i R => ∀ q, q < i → (rd_nz R q ↔ E q)) s 0 a_reached (by omega) (fun q hq => absurd hq (by omega)) ?_ ?_
  · intro n R hR
    refine pk_le s s (fun _ => ?_) (fun z => absurd z (by omega))
    refine pk_loop (fun n k R => wX_findReached_30 post n (nI k) f_capacity (nI s) f_entryCount f_analysed f_outputSize f_status f_steps f_pc f_depth f_valueCount a_image a_entry R a_classes a_symbolic a_functionStart a_newAddress a_output a_registers a_stack a_values) (fun k R => rd_J im s E (rd_nz R) k) s 0 R (by omega) ?_ ?_ ?_
    · exact ⟨fun q hq he => (hR q hq).mpr he, fun q hq hr => rd_LR_e hq ((hR q hq).mp hr), Or.inr (Nat.zero_le _)⟩
    · intro n R hJ
      exact pk_le s s (fun _ => hp R fun q hq => rd_J_fin hJ hq) (fun z => absurd z (by omega))
    · intro n k R hk hJ hn
      refine pk_le s k (fun z => absurd z (by omega)) (fun _ => ?_)
      refine pk_loop (fun n' i R' => wX_findReached_40 post (wX_findReached_30 post n) (nI k) n' (nI i) f_capacity (nI s) f_entryCount f_analysed f_outputSize f_status f_steps f_pc f_depth f_valueCount a_image a_entry (R') a_classes a_symbolic a_functionStart a_newAddress a_output a_registers a_stack a_values) (fun i R' => rd_Ps im s E (rd_nz R) (rd_nz R') i) s 0 R (by omega) ?_ ?_ ?_
      · exact ⟨fun _ _ h => h, hJ.2.1, fun p' hp' => absurd hp' (by omega)⟩
      · intro n' R' hP
        exact pk_le s s (fun _ => nm_r (nI_1 k) (hn R' (rd_J_next hJ hP))) (fun z => absurd z (by omega))
      · intro n' i R' hi hP hn'
        refine pk_le s i (fun z => absurd z (by omega)) (fun _ => ⟨pk_in i 64 (by omega), rd_br0 (by omega) (fun z => nm_r (nI_1 i) (hn' R' (rd_Ps_skip hP fun h0 _ => hP.1 i hi h0 z))) (fun z => ?_)⟩)
        refine xl_dec_image (m := im) hs (fun j hj => hI j (by omega)) hb (by omega) ?_
        refine rd_brb (fun hno => nm_r (nI_1 i) (hn' R' (rd_Ps_skip hP fun _ ho => hno ho))) (fun ho => ?_)
        exact xl_succ hs hI hb ho fun R2 hR2 => nm_r (nI_1 i) (hn' R2 (rd_Ps_add hP z ho hR2))
  · intro n i R hi hR hn
    refine pk_le s i (fun z => absurd z (by omega)) (fun _ => ⟨pk_in i 64 (by omega), pk_in i 64 (by omega), nm_r (e' := upd R i (rd_b (E i))) ?_ (nm_r (nI_1 i) (hn _ fun q hq => ?_))⟩)
    · rw [nI_clamp (by omega), hE i (by omega), rd_nbb]
    · unfold rd_nz
      by_cases e : q = i
      · subst e
        rw [pk_us, rd_b0]; exact Classical.not_not
      · rw [pk_un e]; exact hR q (by omega)
end
