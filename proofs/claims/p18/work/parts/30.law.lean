/-! the law -/
section
variable {f_capacity f_size f_entryCount f_analysed f_outputSize f_status f_steps f_pc f_depth f_valueCount : Int32} {a_image a_entry a_reached a_classes a_symbolic a_functionStart a_newAddress a_output a_registers a_stack a_values : Nat → Int32} {im : Nat → Nat} {s : Nat} {E : Nat → Prop} {post : Int32 → Prop} {L : Nat} {xs : Nat → Int32} {kc ks : Nat}
theorem rd_na0 (q : Nat) : rd_na im s E 0 q = q := by
  unfold rd_na; omega
theorem rd_os0 : rd_os im s E 0 = s := by
  unfold rd_os; omega
theorem xw_265 (h0 : 0 < s) (hs : s ≤ 64) (hL : L ≤ 260) (hb : ∀ j, im j < 256) (hbo : ∀ q, q < s → im q = rd_bo (rd_ce xs L (8 + q)) s) (hA : rd_XA im s E 0 f_outputSize a_classes a_symbolic a_functionStart a_newAddress a_output) (hp : post 1) : ∃ fu, wL_law_265 post L xs (nI s) kc ks f_capacity (nI s) f_entryCount 1 f_outputSize f_status f_steps f_pc f_depth f_valueCount a_image a_entry a_reached a_classes a_symbolic a_functionStart a_newAddress a_output a_registers a_stack a_values fu 0 := by
  have han : ¬ (1 : Int32) = 0 := by decide
  refine pk_loop (fun n i (_ : Unit) => wL_law_265 post L xs (nI s) kc ks f_capacity (nI s) f_entryCount 1 f_outputSize f_status f_steps f_pc f_depth f_valueCount a_image a_entry a_reached a_classes a_symbolic a_functionStart a_newAddress a_output a_registers a_stack a_values n (nI i)) (fun _ _ => True) s 0 () (by omega) trivial ?_ ?_
  · intro n _ _
    exact pk_le s s (fun _ => hp) (fun z => absurd z (by omega))
  · intro n i _ hi _ hn
    refine pk_le s i (fun z => absurd z (by omega)) (fun _ => ?_)
    refine xr_map hi hs han hA ?_
    rw [rd_na0]
    refine br_t rfl ?_
    refine xr_out h0 (by omega) (by rw [rd_os0]; exact hi) hs han hA ?_
    refine xw_cell (nI_add 8 i) (by omega) hL ?_
    refine xw_byte h0 hs ?_
    refine br_t ?_ (nm_r (nI_1 i) (hn () trivial))
    have e : rd_ob im s E 0 i = im i := by
      have h := rd_ob_t (m := im) (E := E) (pd := 0) hi
      rw [rd_na0] at h
      rw [h]
      unfold rd_val
      by_cases hh : rd_sym im s E s i
      · rw [rd_if_t hh, rd_na0]
      · rw [rd_if_f hh]
    rw [e, hbo i hi]
theorem xw_184 {pd k : Nat} (h0 : 0 < s) (hs : s ≤ 64) (hL : L ≤ 260) (hb : ∀ j, im j < 256) (hbo : ∀ q, q < s → im q = rd_bo (rd_ce xs L (8 + q)) s) (hpd : pd ≤ 3) (hk : 0 < k) (hk8 : k ≤ 8) (hI : ∀ j, j < 64 → a_image j = nI (im j)) (hE : ∀ j, j < 64 → a_entry j = rd_b (E j)) (hA : rd_XA im s E pd f_outputSize a_classes a_symbolic a_functionStart a_newAddress a_output) (hp : post 1) : ∃ fu, wL_law_184 post L xs (nI s) kc ks f_capacity (nI s) (nI k) 1 f_outputSize f_status f_steps f_pc f_depth f_valueCount a_image a_entry a_reached a_classes a_symbolic a_functionStart a_newAddress a_output a_registers a_stack a_values fu 0 := by
  have han : ¬ (1 : Int32) = 0 := by decide
  refine pk_loop (fun n i (_ : Unit) => wL_law_184 post L xs (nI s) kc ks f_capacity (nI s) (nI k) 1 f_outputSize f_status f_steps f_pc f_depth f_valueCount a_image a_entry a_reached a_classes a_symbolic a_functionStart a_newAddress a_output a_registers a_stack a_values n (nI i)) (fun _ _ => True) s 0 () (by omega) trivial ?_ ?_
  · intro n _ _
    refine pk_le s s (fun _ => ?_) (fun z => absurd z (by omega))
    refine xl_analyse (pd := 0) h0 hk hk8 (by omega) hs hI hb hE fun os R C S F A O hA2 => ?_
    refine br_f han ?_
    refine xr_os hs han hA2 ?_
    rw [rd_os0]
    refine br_t rfl ?_
    exact xw_265 h0 hs hL hb hbo hA2 hp
  · intro n i _ hi _ hn
    have h := hn () trivial
    refine pk_le s i (fun z => absurd z (by omega)) (fun _ => ?_)
    refine xr_sym hi hs han hA ?_
    refine rd_brb (fun hz => ?_) (fun _ => nm_r (nI_1 i) h)
    refine xr_map hi hs han hA ?_
    refine xr_out h0 hpd (rd_na_os im E pd hi) hs han hA ?_
    refine xw_cell (nI_add 8 i) (by omega) hL ?_
    refine xw_byte h0 hs ?_
    refine br_t ?_ (nm_r (nI_1 i) h)
    rw [rd_ob_t hi]
    unfold rd_val
    rw [rd_if_f hz, hbo i hi]
theorem xw_160 {pd k : Nat} {z0 : Int32} (h0 : 0 < s) (hs : s ≤ 64) (hL : L ≤ 260) (hb : ∀ j, im j < 256) (hbo : ∀ q, q < s → im q = rd_bo (rd_ce xs L (8 + q)) s) (hpd : pd ≤ 3) (hk : 0 < k) (hk8 : k ≤ 8) (hI : ∀ j, j < 64 → a_image j = nI (im j)) (hE : ∀ j, j < 64 → a_entry j = rd_b (E j)) (hA : rd_XA im s E pd f_outputSize a_classes a_symbolic a_functionStart a_newAddress a_output) (hz : nI (rd_cnt (rd_fs im s E) s) - z0 = nI (rd_cnt (rd_G im s E) s)) (hp : post 1) : wL_law_160 post L xs (nI s) (nI pd) (nI (rd_cnt (rd_fs im s E) s)) z0 kc ks f_capacity (nI s) (nI k) 1 f_outputSize f_status f_steps f_pc f_depth f_valueCount a_image a_entry a_reached a_classes a_symbolic a_functionStart a_newAddress a_output a_registers a_stack a_values := by
  have han : ¬ (1 : Int32) = 0 := by decide
  unfold wL_law_160
  refine xr_os hs han hA ?_
  refine br_t ?_ (xw_184 h0 hs hL hb hbo hpd hk hk8 hI hE hA hp)
  rw [hz, pk_mul, nI_add]; rfl
theorem xw_95 {pd ne : Nat} (h0 : 0 < s) (hs : s ≤ 64) (hL : L ≤ 260) (hb : ∀ j, im j < 256) (hbo : ∀ q, q < s → im q = rd_bo (rd_ce xs L (8 + q)) s) (hpd : pd ≤ 3) (hne : 0 < ne) (hne8 : ne ≤ 8) (hI : ∀ j, j < 64 → a_image j = nI (im j)) (hp : post 1) : ∃ fu, wL_law_95 post L xs (nI s) (nI ne) (nI pd) kc ks fu 0 f_capacity (nI s) 0 0 f_outputSize f_status f_steps f_pc f_depth f_valueCount a_image (fun _ => 0) a_reached a_classes a_symbolic a_functionStart a_newAddress a_output a_registers a_stack a_values := by
  have han : ¬ (1 : Int32) = 0 := by decide
  refine pk_loop (fun n i (σ : Nat × (Nat → Int32)) => wL_law_95 post L xs (nI s) (nI ne) (nI pd) kc ks n (nI i) f_capacity (nI s) (nI σ.1) 0 f_outputSize f_status f_steps f_pc f_depth f_valueCount a_image σ.2 a_reached a_classes a_symbolic a_functionStart a_newAddress a_output a_registers a_stack a_values)
    (fun i σ => σ.1 ≤ i ∧ ∃ E : Nat → Prop, (∀ j, σ.2 j = rd_b (E j)) ∧ (σ.1 = 0 → ∀ q, ¬ E q) ∧ (0 < i → 0 < σ.1)) ne 0 (0, fun _ => 0) (by omega) ?_ ?_ ?_
  · exact ⟨Nat.le_refl _, fun _ => False, fun _ => (rd_b_f fun h => h).symm, fun _ _ h => h, fun h => absurd h (by omega)⟩
  · rintro n ⟨k, En⟩ ⟨hk, E, hE, -, hk0⟩
    dsimp only at hk hE hk0
    have hk1 := hk0 hne
    refine pk_le ne ne (fun _ => ?_) (fun z => absurd z (by omega))
    refine xl_analyse (E := E) h0 hk1 (by omega) hpd hs hI hb (fun j _ => hE j) fun os R C S F A O hA => ?_
    refine br_f han ?_
    refine xl_count (j := 5) (by omega) hs hI hb hA ?_
    rw [rd_cnt_c (Q := rd_fs im s E) fun q _ => rd_ck_5]
    refine xr_fs h0 hs han hA ?_
    have hc := rd_cfs im s E (s - 1)
    rw [show s - 1 + 1 = s by omega] at hc
    refine rd_brb (fun z => ?_) (fun z => ?_)
    · rw [rd_if_f z] at hc
      refine xw_160 h0 hs hL hb hbo hpd hk1 (by omega) hI (fun j _ => hE j) hA ?_ hp
      rw [hc]; exact pk_sub (b := 0) (by omega)
    · rw [rd_if_t z] at hc
      refine xw_160 h0 hs hL hb hbo hpd hk1 (by omega) hI (fun j _ => hE j) hA ?_ hp
      rw [hc]; exact nI_pred _
  · rintro n i ⟨k, En⟩ hi ⟨hk, E, hE, hE0, hk0⟩ hn
    dsimp only at hk hE hE0 hk0
    refine pk_le ne i (fun z => absurd z (by omega)) (fun _ => ?_)
    refine xw_cell (nI_add 80 i) (by omega) hL ⟨nI_ne0 h0 (by omega), ?_⟩
    have e1 : rd_ce xs L (80 + i) &&& 65535 = nI ((rd_ce xs L (80 + i)).toBitVec.toNat % 65536) := pk_and _ 16 (by decide)
    have hv := Nat.mod_lt (rd_ce xs L (80 + i)).toBitVec.toNat (show 0 < 65536 by omega)
    refine xl_add (a := (rd_ce xs L (80 + i)).toBitVec.toNat % 65536 % s) ?_ (Nat.mod_lt _ h0) hs (by omega) hE (fun h => nm_r (nI_1 i) (hn (k, En) ⟨by show k ≤ i + 1; omega, E, hE, hE0, fun _ => ?_⟩)) (fun h => nm_r (nI_1 i) (hn (k + 1, upd En ((rd_ce xs L (80 + i)).toBitVec.toNat % 65536 % s) 1) ⟨by show k + 1 ≤ i + 1; omega, fun q => E q ∨ q = (rd_ce xs L (80 + i)).toBitVec.toNat % 65536 % s, fun q => ?_, fun z => absurd z (Nat.succ_ne_zero k), fun _ => Nat.succ_pos k⟩))
    · rw [e1]; exact pk_rem (by omega) h0 (by omega)
    · show 0 < k
      rcases Nat.eq_zero_or_pos k with z | z
      · exact absurd h (hE0 z _)
      · exact z
    · show upd En _ 1 q = _
      by_cases e : q = (rd_ce xs L (80 + i)).toBitVec.toNat % 65536 % s
      · rw [e, pk_us]; exact (rd_b_t (Or.inr rfl)).symm
      · rw [pk_un e, hE q]
        exact rd_bc ⟨Or.inl, fun z => z.resolve_right e⟩
theorem xw_44 {pd ne : Nat} (h0 : 0 < s) (hs : s ≤ 64) (hL : L ≤ 260) (hpd : pd ≤ 3) (hne : 0 < ne) (hne8 : ne ≤ 8) (hp : post 1) : ∃ fu, wL_law_44 post L xs (nI s) (nI ne) (nI pd) kc ks fu 0 64 0 0 0 f_outputSize f_status f_steps f_pc f_depth f_valueCount (fun _ => 0) (fun _ => 0) a_reached a_classes a_symbolic a_functionStart a_newAddress a_output a_registers a_stack a_values := by
  refine pk_loop (fun n i A => wL_law_44 post L xs (nI s) (nI ne) (nI pd) kc ks n (nI i) 64 (nI i) 0 0 f_outputSize f_status f_steps f_pc f_depth f_valueCount A (fun _ => 0) a_reached a_classes a_symbolic a_functionStart a_newAddress a_output a_registers a_stack a_values)
    (fun i A => ∀ j, A j = nI (if j < i then rd_bo (rd_ce xs L (8 + j)) s else 0)) s 0 (fun _ => 0) (by omega) ?_ ?_ ?_
  · intro j
    rw [if_neg (by omega)]; rfl
  · intro n A hA
    refine pk_le s s (fun _ => ?_) (fun z => absurd z (by omega))
    refine br_t rfl (br_t rfl ?_)
    refine xw_95 (im := fun j => if j < s then rd_bo (rd_ce xs L (8 + j)) s else 0) h0 hs hL (fun j => ?_) (fun q hq => ?_) hpd hne hne8 (fun j _ => hA j) hp
    · show (if j < s then _ else 0) < 256
      split
      · exact rd_bo_lt _ h0 hs
      · omega
    · show (if q < s then _ else 0) = _
      rw [if_pos hq]
  · intro n i A hi hA hn
    refine pk_le s i (fun z => absurd z (by omega)) (fun _ => ?_)
    refine xw_cell (nI_add 8 i) (by omega) hL ?_
    refine xw_byte h0 hs ?_
    refine xl_put (rd_bo_lt _ h0 hs) (by omega) (br_f (by decide) (nm_r (nI_1 i) (hn _ fun j => ?_)))
    by_cases e : j = i
    · subst e
      rw [pk_us, if_pos (by omega)]
    · rw [pk_un e, hA j]
      by_cases h : j < i
      · rw [if_pos h, if_pos (by omega)]
      · rw [if_neg h, if_neg (by omega)]
end
theorem i_vc (xs : Nat → Int32) (L : Nat) (hL : L ≤ 260) : wpL_law (fun r => r = 1) L xs := by
  unfold wpL_law
  refine xw_cell (k := 0) rfl (by omega) hL ?_
  have e1 : rd_ce xs L 0 &&& 63 = nI ((rd_ce xs L 0).toBitVec.toNat % 64) := pk_and _ 6 (by decide)
  have h1 := Nat.mod_lt (rd_ce xs L 0).toBitVec.toNat (show 0 < 64 by omega)
  refine nm_r (e' := nI (1 + (rd_ce xs L 0).toBitVec.toNat % 64)) (by rw [e1, ← nI_add]; rfl) ?_
  refine xw_cell (k := 1) rfl (by omega) hL ?_
  have e2 : rd_ce xs L 1 &&& 7 = nI ((rd_ce xs L 1).toBitVec.toNat % 8) := pk_and _ 3 (by decide)
  have h2 := Nat.mod_lt (rd_ce xs L 1).toBitVec.toNat (show 0 < 8 by omega)
  refine nm_r (e' := nI (1 + (rd_ce xs L 1).toBitVec.toNat % 8)) (by rw [e2, ← nI_add]; rfl) ?_
  refine xw_cell (k := 2) rfl (by omega) hL ?_
  have e3 : rd_ce xs L 2 &&& 3 = nI ((rd_ce xs L 2).toBitVec.toNat % 4) := pk_and _ 2 (by decide)
  have h3 := Nat.mod_lt (rd_ce xs L 2).toBitVec.toNat (show 0 < 4 by omega)
  refine nm_r e3 ?_
  refine ⟨11, 729, by omega, by omega, ?_⟩
  refine ⟨by omega, by omega, by omega, by omega, by omega, by omega, by omega, by omega, by omega, by omega, by omega, by omega, by omega, by omega, by omega, by omega, by omega, by omega, by omega, by omega, by omega, by omega, ?_⟩
  refine br_t (by decide) (br_t (by decide) ?_)
  exact xw_44 (by omega) (by omega) hL (by omega) (by omega) (by omega) rfl
