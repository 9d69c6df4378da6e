/-! X: the machine's loop -/
section
variable {f_capacity f_size f_entryCount f_analysed f_outputSize f_status f_steps f_pc f_depth f_valueCount : Int32} {a_image a_entry a_reached a_classes a_symbolic a_functionStart a_newAddress a_output a_registers a_stack a_values : Nat → Int32} {m : Nat → Nat} {s n mx : Nat} {post : SX → Prop}
/-- X's state with what the machine left in it -/
def rd_Xm (f_capacity f_size f_entryCount f_analysed f_outputSize f_status f_steps f_pc f_depth f_valueCount : Int32) (a_image a_entry a_reached a_classes a_symbolic a_functionStart a_newAddress a_output a_registers a_stack a_values : Nat → Int32) (w : Int32 × Nat × rd_MS) : SX := (f_capacity, f_size, f_entryCount, f_analysed, f_outputSize, w.1, nI w.2.1, nI w.2.2.1, nI w.2.2.2.2.2.1, nI w.2.2.2.2.2.2.2, a_image, a_entry, a_reached, a_classes, a_symbolic, a_functionStart, a_newAddress, a_output, w.2.2.2.1, w.2.2.2.2.1, w.2.2.2.2.2.2.1)
theorem xl_loop_image (hn : n ≤ 64) (hmx : mx ≤ 2000) (hI : ∀ j, j < n → a_image j = nI (m j)) (hb : ∀ j, m j < 256) : ∀ (k st F : Nat) (u : rd_MS), rd_MI u → st + k = mx → k + 2 ≤ F → post (rd_Xm f_capacity (nI s) f_entryCount f_analysed f_outputSize f_status f_steps f_pc f_depth f_valueCount a_image a_entry a_reached a_classes a_symbolic a_functionStart a_newAddress a_output a_registers a_stack a_values (rd_exec m n k st u)) → wX_execute__image_3 post (nI n) (nI mx) F (nI st) f_capacity (nI s) f_entryCount f_analysed f_outputSize 0 (nI st) (nI u.1) (nI u.2.2.2.1) (nI u.2.2.2.2.2) a_image a_entry a_reached a_classes a_symbolic a_functionStart a_newAddress a_output u.2.1 u.2.2.1 u.2.2.2.2.1 := by
  intro k
  induction k with
  | zero =>
    intro st F u hu hst hF hp
    obtain ⟨F, rfl⟩ : ∃ G, F = G + 1 := ⟨F - 1, by omega⟩
    exact pk_le mx st (fun _ => br_t rfl hp) (fun z => absurd z (by omega))
  | succ k ih =>
    intro st F u hu hst hF hp
    obtain ⟨F, rfl⟩ : ∃ G, F = G + 2 := ⟨F - 2, by omega⟩
    obtain ⟨p, rg, sk, d, vl, c⟩ := u
    have hMI := hu
    obtain ⟨hpp, hB, hK, hd, hc⟩ := hu
    dsimp only at hpp hB hK hd hc
    have B : ∀ h : ¬ rd_ok m n p ∨ rd_fl m n (p, rg, sk, d, vl, c), wX_execute__image_3 post (nI n) (nI mx) (F + 1) (nI (st + 1)) f_capacity (nI s) f_entryCount f_analysed f_outputSize 2 (nI st) (nI p) (nI d) (nI c) a_image a_entry a_reached a_classes a_symbolic a_functionStart a_newAddress a_output rg sk vl := by
      intro h
      rw [rd_exec_b (u := (p, rg, sk, d, vl, c)) k st h] at hp
      have h2 : ¬ (2 : Int32) = 0 := by decide
      exact pk_le mx (st + 1) (fun _ => br_f h2 hp) (fun _ => br_f h2 (br_f h2 hp))
    refine pk_le mx st (fun z => absurd z (by omega)) (fun _ => br_t rfl ?_)
    refine xl_dec_image hn hI hb (by omega) ?_
    refine rd_brb (fun h => nm_r (nI_1 st) (B (Or.inl h))) (fun ho => ?_)
    refine xl_flt_image hn hI hb hB hd hc ho ?_
    refine rd_brb (fun hf => ?_) (fun hf => nm_r (nI_1 st) (B (Or.inr hf)))
    by_cases h0 : m p = 0
    · refine xl_halt_image hn hI ho h0 (nm_r (nI_1 st) (nm_r (nI_1 st) ?_))
      rw [rd_exec_h (u := (p, rg, sk, d, vl, c)) k st ho hf h0] at hp
      have h1 : ¬ (1 : Int32) = 0 := by decide
      exact pk_le mx (st + 1) (fun _ => br_f h1 hp) (fun _ => br_f h1 (br_f h1 hp))
    · rw [rd_exec_n (u := (p, rg, sk, d, vl, c)) k st ho hf h0] at hp
      have hM := rd_MI_nxt (u := (p, rg, sk, d, vl, c)) (by omega) hb hMI ho hf h0
      refine xl_perf_image hn hI hb hB hK hd hc ho hf h0 fun p' rg' sk' d' vl' c' e => nm_r (nI_1 st) (nm_r (nI_1 st) ?_)
      have e' : rd_nxt m (p, rg, sk, d, vl, c) = (p', rg', sk', d', vl', c') := e
      rw [e'] at hp hM
      exact ih (st + 1) (F + 1) (p', rg', sk', d', vl', c') hM (by omega) (by omega) hp
theorem xl_loop_output (hn : n ≤ 253) (hmx : mx ≤ 2000) (hI : ∀ j, j < n → a_output j = nI (m j)) (hb : ∀ j, m j < 256) : ∀ (k st F : Nat) (u : rd_MS), rd_MI u → st + k = mx → k + 2 ≤ F → post (rd_Xm f_capacity (nI s) f_entryCount f_analysed f_outputSize f_status f_steps f_pc f_depth f_valueCount a_image a_entry a_reached a_classes a_symbolic a_functionStart a_newAddress a_output a_registers a_stack a_values (rd_exec m n k st u)) → wX_execute__output_3 post (nI n) (nI mx) F (nI st) f_capacity (nI s) f_entryCount f_analysed f_outputSize 0 (nI st) (nI u.1) (nI u.2.2.2.1) (nI u.2.2.2.2.2) a_image a_entry a_reached a_classes a_symbolic a_functionStart a_newAddress a_output u.2.1 u.2.2.1 u.2.2.2.2.1 := by
  intro k
  induction k with
  | zero =>
    intro st F u hu hst hF hp
    obtain ⟨F, rfl⟩ : ∃ G, F = G + 1 := ⟨F - 1, by omega⟩
    exact pk_le mx st (fun _ => br_t rfl hp) (fun z => absurd z (by omega))
  | succ k ih =>
    intro st F u hu hst hF hp
    obtain ⟨F, rfl⟩ : ∃ G, F = G + 2 := ⟨F - 2, by omega⟩
    obtain ⟨p, rg, sk, d, vl, c⟩ := u
    have hMI := hu
    obtain ⟨hpp, hB, hK, hd, hc⟩ := hu
    dsimp only at hpp hB hK hd hc
    have B : ∀ h : ¬ rd_ok m n p ∨ rd_fl m n (p, rg, sk, d, vl, c), wX_execute__output_3 post (nI n) (nI mx) (F + 1) (nI (st + 1)) f_capacity (nI s) f_entryCount f_analysed f_outputSize 2 (nI st) (nI p) (nI d) (nI c) a_image a_entry a_reached a_classes a_symbolic a_functionStart a_newAddress a_output rg sk vl := by
      intro h
      rw [rd_exec_b (u := (p, rg, sk, d, vl, c)) k st h] at hp
      have h2 : ¬ (2 : Int32) = 0 := by decide
      exact pk_le mx (st + 1) (fun _ => br_f h2 hp) (fun _ => br_f h2 (br_f h2 hp))
    refine pk_le mx st (fun z => absurd z (by omega)) (fun _ => br_t rfl ?_)
    refine xl_dec_output hn hI hb (by omega) ?_
    refine rd_brb (fun h => nm_r (nI_1 st) (B (Or.inl h))) (fun ho => ?_)
    refine xl_flt_output hn hI hb hB hd hc ho ?_
    refine rd_brb (fun hf => ?_) (fun hf => nm_r (nI_1 st) (B (Or.inr hf)))
    by_cases h0 : m p = 0
    · refine xl_halt_output hn hI ho h0 (nm_r (nI_1 st) (nm_r (nI_1 st) ?_))
      rw [rd_exec_h (u := (p, rg, sk, d, vl, c)) k st ho hf h0] at hp
      have h1 : ¬ (1 : Int32) = 0 := by decide
      exact pk_le mx (st + 1) (fun _ => br_f h1 hp) (fun _ => br_f h1 (br_f h1 hp))
    · rw [rd_exec_n (u := (p, rg, sk, d, vl, c)) k st ho hf h0] at hp
      have hM := rd_MI_nxt (u := (p, rg, sk, d, vl, c)) (by omega) hb hMI ho hf h0
      refine xl_perf_output hn hI hb hB hK hd hc ho hf h0 fun p' rg' sk' d' vl' c' e => nm_r (nI_1 st) (nm_r (nI_1 st) ?_)
      have e' : rd_nxt m (p, rg, sk, d, vl, c) = (p', rg', sk', d', vl', c') := e
      rw [e'] at hp hM
      exact ih (st + 1) (F + 1) (p', rg', sk', d', vl', c') hM (by omega) (by omega) hp
end
