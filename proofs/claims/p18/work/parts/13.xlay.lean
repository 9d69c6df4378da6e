/-! X: the layout, and analyse -/
section
variable {f_capacity f_size f_entryCount f_analysed f_outputSize f_status f_steps f_pc f_depth f_valueCount : Int32} {a_image a_entry a_reached a_classes a_symbolic a_functionStart a_newAddress a_output a_registers a_stack a_values : Nat → Int32} {im : Nat → Nat} {s : Nat} {E : Nat → Prop} {post : St2 → Prop}
theorem xl_layOut {pd : Nat} (h0 : 0 < s) (hpd : pd ≤ 3) (hs : s ≤ 64) (hI : ∀ j, j < 64 → a_image j = nI (im j)) (hb : ∀ j, im j < 256) (hS : ∀ q, q < s → a_symbolic q = rd_b (rd_sym im s E s q)) (hF : ∀ q, q < s → a_functionStart q = rd_b (rd_fs im s E q)) (hp : ∀ A O, (∀ q, q < s → A q = nI (rd_na im s E pd q)) → (∀ i, i < rd_os im s E pd → O i = nI (rd_ob im s E pd i)) → post (f_capacity, nI s, f_entryCount, f_analysed, nI (rd_os im s E pd), f_status, f_steps, f_pc, f_depth, f_valueCount, a_image, a_entry, a_reached, a_classes, a_symbolic, a_functionStart, A, O, a_registers, a_stack, a_values)) : wpX_layOut post (f_capacity, nI s, f_entryCount, f_analysed, f_outputSize, f_status, f_steps, f_pc, f_depth, f_valueCount, a_image, a_entry, a_reached, a_classes, a_symbolic, a_functionStart, a_newAddress, a_output, a_registers, a_stack, a_values) (nI pd) := by
  have hos := rd_os_le im E h0 hs hpd
  have hcm : ∀ i, i ≤ s → pd * rd_cnt (rd_G im s E) i ≤ 3 * 64 := fun i hi => Nat.mul_le_mul hpd (Nat.le_trans (rd_cnt_le _ i) (by omega))
  refine pk_loop (fun n i A => wX_layOut_4 post (nI pd) f_capacity (nI s) f_entryCount f_analysed f_outputSize f_status f_steps f_pc f_depth f_valueCount n (nI (pd * rd_cnt (rd_G im s E) i)) (nI i) a_image a_entry a_reached a_classes a_symbolic a_functionStart A a_output a_registers a_stack a_values) (fun i A => ∀ q, q < i → A q = nI (rd_na im s E pd q)) s 0 a_newAddress (by omega) (fun q hq => absurd hq (by omega)) ?_ ?_
  · intro n A hA
    refine pk_le s s (fun _ => nm_r (e' := nI (rd_os im s E pd)) (nI_add _ _) ?_) (fun z => absurd z (by omega))
    refine pk_loop (fun n i O => wX_layOut_56 post f_capacity (nI s) f_entryCount f_analysed (nI (rd_os im s E pd)) f_status f_steps f_pc f_depth f_valueCount n (nI i) a_image a_entry a_reached a_classes a_symbolic a_functionStart A O a_registers a_stack a_values) (fun i O => ∀ j, j < i → O j = 1) (rd_os im s E pd) 0 a_output (by omega) (fun q hq => absurd hq (by omega)) ?_ ?_
    · intro n O hO
      refine pk_le (rd_os im s E pd) (rd_os im s E pd) (fun _ => ?_) (fun z => absurd z (by omega))
      refine pk_loop (fun n i O => wX_layOut_79 post f_capacity (nI s) f_entryCount f_analysed (nI (rd_os im s E pd)) f_status f_steps f_pc f_depth f_valueCount n (nI i) a_image a_entry a_reached a_classes a_symbolic a_functionStart A O a_registers a_stack a_values) (fun i O => (∀ q, q < i → O (rd_na im s E pd q) = nI (rd_val im s E pd q)) ∧ ∀ j, j < rd_os im s E pd → (∀ q, q < i → rd_na im s E pd q ≠ j) → O j = 1) s 0 O (by omega) ?_ ?_ ?_
      · exact ⟨fun q hq => absurd hq (by omega), fun j hj _ => hO j hj⟩
      · rintro n O ⟨hO1, hO2⟩
        refine pk_le s s (fun _ => hp A O hA fun i hi => ?_) (fun z => absurd z (by omega))
        by_cases h : ∃ q, q < s ∧ rd_na im s E pd q = i
        · obtain ⟨q, hq, rfl⟩ := h
          rw [rd_ob_t hq]; exact hO1 q hq
        · have hn : ∀ q, q < s → rd_na im s E pd q ≠ i := fun q hq e => h ⟨q, hq, e⟩
          rw [rd_ob_f hn]; exact hO2 i hi hn
      · rintro n i O hi ⟨hO1, hO2⟩ hn
        have T : ∀ x : Int32, x = nI (rd_val im s E pd i) → (∀ q, q < i + 1 → upd O (rd_na im s E pd i) x (rd_na im s E pd q) = nI (rd_val im s E pd q)) ∧ ∀ j, j < rd_os im s E pd → (∀ q, q < i + 1 → rd_na im s E pd q ≠ j) → upd O (rd_na im s E pd i) x j = 1 := by
          intro x hx
          refine ⟨fun q hq => ?_, fun j hj hq => ?_⟩
          · by_cases e : q = i
            · subst e; rw [pk_us]; exact hx
            · rw [pk_un fun z => e (rd_na_inj z)]; exact hO1 q (by omega)
          · rw [pk_un fun z => hq i (by omega) z.symm]
            exact hO2 j hj fun q hq' => hq q (by omega)
        have bi := hb i
        have hna := rd_na_os im E pd hi
        have hA' : A (nI i).toNatClampNeg = nI (rd_na im s E pd i) := by rw [nI_clamp (by omega)]; exact hA i hi
        have hS' : a_symbolic (nI i).toNatClampNeg = rd_b (rd_sym im s E s i) := by rw [nI_clamp (by omega)]; exact hS i hi
        refine pk_le s i (fun z => absurd z (by omega)) (fun _ => ⟨pk_in i 64 (by omega), nm_r (rd_rd hI i (by omega) (by omega)) ⟨pk_in i 64 (by omega), pk_in i 64 (by omega), ?_⟩⟩)
        rw [hS']
        refine rd_brb (fun h => ⟨pk_in (rd_na im s E pd i) 253 (by omega) hA', nm_r (e' := upd O (rd_na im s E pd i) (nI (im i))) ?_ (nm_r (nI_1 i) (hn _ (T _ ?_)))⟩) (fun h => ⟨pk_in (im i) 64 (by have := h.1; omega), pk_in (rd_na im s E pd i) 253 (by omega) hA', nm_r (e' := upd O (rd_na im s E pd i) (nI (rd_na im s E pd (im i)))) ?_ (nm_r (nI_1 i) (hn _ (T _ ?_)))⟩)
        · rw [hA', nI_clamp (by omega)]
        · unfold rd_val; rw [rd_if_f h]
        · rw [hA', nI_clamp (by omega), nI_clamp (by omega), hA _ h.1]
        · unfold rd_val; rw [rd_if_t h]
    · intro n i O hi hO hn
      refine pk_le (rd_os im s E pd) i (fun z => absurd z (by omega)) (fun _ => ⟨pk_in i 253 (by omega), nm_r (e' := upd O i 1) ?_ (nm_r (nI_1 i) (hn _ fun q hq => ?_))⟩)
      · rw [nI_clamp (by omega)]
      · by_cases e : q = i
        · subst e; exact pk_us
        · rw [pk_un e]; exact hO q (by omega)
  · intro n i A hi hA hn
    have K : wX_layOut_29 post (wX_layOut_4 post (nI pd) f_capacity (nI s) f_entryCount f_analysed f_outputSize f_status f_steps f_pc f_depth f_valueCount n) (nI pd) (nI (pd * rd_cnt (rd_G im s E) (i + 1))) (nI i) f_capacity (nI s) f_entryCount f_analysed f_outputSize f_status f_steps f_pc f_depth f_valueCount a_image a_entry a_reached a_classes a_symbolic a_functionStart A a_output a_registers a_stack a_values := by
      refine ⟨pk_in i 64 (by omega), nm_r (e' := upd A i (nI (rd_na im s E pd i))) ?_ (nm_r (nI_1 i) (hn _ fun q hq => ?_))⟩
      · rw [nI_clamp (by omega), nI_add]; rfl
      · by_cases e : q = i
        · subst e; exact pk_us
        · rw [pk_un e]; exact hA q (by omega)
    have hF' : a_functionStart (nI i).toNatClampNeg = rd_b (rd_fs im s E i) := by rw [nI_clamp (by omega)]; exact hF i hi
    refine pk_le s i (fun z => absurd z (by omega)) (fun _ => pk_le i 0 (fun z => ?_) (fun z => ⟨pk_in i 64 (by omega), ?_⟩))
    · have e : rd_cnt (rd_G im s E) (i + 1) = rd_cnt (rd_G im s E) i := rd_cnt_f fun h => absurd h.1 (by omega)
      rw [e] at K; exact K
    · rw [hF']
      refine rd_brb (fun h => ?_) (fun h => ?_)
      · have e : rd_cnt (rd_G im s E) (i + 1) = rd_cnt (rd_G im s E) i := rd_cnt_f fun z => h z.2
        rw [e] at K; exact K
      · have e : rd_cnt (rd_G im s E) (i + 1) = rd_cnt (rd_G im s E) i + 1 := rd_cnt_t ⟨z, h⟩
        refine nm_r ?_ K
        rw [nI_add, e]; rfl
/-- what X holds after an analysis -/
def rd_XA (im : Nat → Nat) (s : Nat) (E : Nat → Prop) (pd : Nat) (os : Int32) (cl sy fs na ou : Nat → Int32) : Prop :=
  (∀ q, q < s → cl q = rd_cls im s E q) ∧ (∀ q, q < s → sy q = rd_b (rd_sym im s E s q)) ∧ (∀ q, q < s → fs q = rd_b (rd_fs im s E q)) ∧ (∀ q, q < s → na q = nI (rd_na im s E pd q)) ∧ os = nI (rd_os im s E pd) ∧ (∀ i, i < rd_os im s E pd → ou i = nI (rd_ob im s E pd i))
theorem xl_analyse {post : Int32 → St2 → Prop} {ne pd : Nat} (h0 : 0 < s) (hne : 0 < ne) (hne8 : ne ≤ 8) (hpd : pd ≤ 3) (hs : s ≤ 64) (hI : ∀ j, j < 64 → a_image j = nI (im j)) (hb : ∀ j, im j < 256) (hE : ∀ j, j < 64 → a_entry j = rd_b (E j))
    (hp : ∀ os R C S F A O, rd_XA im s E pd os C S F A O → post 1 (f_capacity, nI s, nI ne, 1, os, f_status, f_steps, f_pc, f_depth, f_valueCount, a_image, a_entry, R, C, S, F, A, O, a_registers, a_stack, a_values)) : wpX_analyse post (f_capacity, nI s, nI ne, f_analysed, f_outputSize, f_status, f_steps, f_pc, f_depth, f_valueCount, a_image, a_entry, a_reached, a_classes, a_symbolic, a_functionStart, a_newAddress, a_output, a_registers, a_stack, a_values) (nI pd) := by
  unfold wpX_analyse
  refine br_f (rd_lt0 (by omega)) (pk_lt 3 pd (fun z => absurd z (by omega)) (fun _ => pk_eq s 0 (fun z => absurd z (by omega)) (fun _ => pk_eq ne 0 (fun z => absurd z (by omega)) (fun _ => ?_))))
  refine xl_find hs hI hb hE fun R hR => ?_
  refine xl_classify hs hI hb hR fun C hC => ?_
  refine xl_markSymbols hs hI hb hC fun S hS => ?_
  refine xl_markFS hs hI hb hE hC fun F hF => ?_
  exact xl_layOut h0 hpd hs hI hb hS hF fun A O hA hO => hp _ R C S F A O ⟨hC, hS, hF, hA, rfl, hO⟩
end
