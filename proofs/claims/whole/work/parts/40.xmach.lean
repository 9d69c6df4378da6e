/-! X: the machine -/
theorem rd_add255 {x y : Int32} {v b : Nat} (hx : x = nI v) (hy : y = nI b) (h : v + b < 2 ^ 31) : (x + y) &&& 255 = nI ((v + b) % 256) := by
  subst hx hy
  rw [nI_add]
  exact pk_andN (by omega) 8 (by decide)
theorem rd_rv {a : Nat → Int32} (h : rd_By a) {x : Int32} {r : Nat} (hx : x = nI r) (hr : r < 2 ^ 31) : a x.toNatClampNeg = nI (rd_v (a r)) := by
  subst hx
  rw [nI_clamp hr]
  exact (rd_By_v h r).2
section
variable {f_capacity f_size f_entryCount f_analysed f_outputSize f_status f_steps f_pc f_depth f_valueCount : Int32} {a_image a_entry a_reached a_classes a_symbolic a_functionStart a_newAddress a_output a_registers a_stack a_values : Nat → Int32} {m : Nat → Nat} {s n p d c : Nat} {rg sk vl : Nat → Int32}
theorem xl_plus {post : Int32 → Prop} {x y : Int32} {v r : Nat} (hx : x = nI v) (hy : y = nI r) (hr : r < 4) (hv : v < 256) (hB : rd_By rg) (hp : post (nI ((v + rd_v (rg r)) % 256))) : wpX_plusRegister post (f_capacity, nI s, f_entryCount, f_analysed, f_outputSize, f_status, f_steps, f_pc, f_depth, f_valueCount, a_image, a_entry, a_reached, a_classes, a_symbolic, a_functionStart, a_newAddress, a_output, rg, a_stack, a_values) x y := by
  have hb := (rd_By_v hB r).1
  refine ⟨pk_in r 4 hr hy, ?_⟩
  rw [rd_add255 hx (rd_rv hB hy (by omega)) (by omega)]; exact hp
theorem xl_flt_image {post : Int32 → Prop} (hn : n ≤ 64) (hI : ∀ j, j < n → a_image j = nI (m j)) (hb : ∀ j, m j < 256) (hB : rd_By rg) (hd : d ≤ 8) (hc : c ≤ 16) (ho : rd_ok m n p) (hp : post (rd_b (rd_flt m n (m p) p rg d c))) : wpX_faults__image post (f_capacity, nI s, f_entryCount, f_analysed, f_outputSize, f_status, f_steps, nI p, nI d, nI c, a_image, a_entry, a_reached, a_classes, a_symbolic, a_functionStart, a_newAddress, a_output, rg, sk, vl) (nI n) := by
  obtain ⟨h1, h2, h3, h4, h5, h6⟩ := ho
  have b2 := hb (p + 2)
  refine ⟨pk_in p 64 (by omega), nm_r (rd_rd hI p h1 (by omega)) ?_⟩
  rcases rd_op15 h2 with e | e | e | e | e | e | e | e | e | e | e | e | e | e | e
  all_goals (repeat (first | refine br_t (by rw [e]; decide) ?_ | refine br_f (by rw [e]; decide) ?_))
  all_goals try (exact rd_pf hp fun z => by unfold rd_flt at z; omega)
  · have el : rd_len (m p) = 4 := by rw [e]; rfl
    have b3 := h6 e
    have hm := Nat.mod_lt (m (p + 2) + rd_v (rg (m (p + 3)))) (show 0 < 256 by omega)
    refine ⟨pk_in (p + 2) 64 (by omega) (nI_add p 2), pk_in (p + 3) 64 (by omega) (nI_add p 3), ?_⟩
    refine xl_plus (rd_rd hI (p + 2) (by omega) (by omega) (nI_add p 2)) (rd_rd hI (p + 3) (by omega) (by omega) (nI_add p 3)) (by omega) b2 hB ?_
    exact pk_lt ((m (p + 2) + rd_v (rg (m (p + 3)))) % 256) n (fun h => rd_pf hp fun z => by unfold rd_flt at z; omega) (fun h => rd_pt hp (Or.inl ⟨e, h⟩))
  · exact pk_lt c 16 (fun h => rd_pf hp fun z => by unfold rd_flt at z; omega) (fun h => rd_pt hp (Or.inr (Or.inr (Or.inl ⟨e, h⟩))))
  · exact pk_lt d 8 (fun h => rd_pf hp fun z => by unfold rd_flt at z; omega) (fun h => rd_pt hp (Or.inr (Or.inr (Or.inr (Or.inl ⟨e, h⟩)))))
  · exact pk_lt 0 d (fun h => rd_pf hp fun z => by unfold rd_flt at z; omega) (fun h => rd_pt hp (Or.inr (Or.inr (Or.inr (Or.inr ⟨e, by omega⟩)))))
  · have el : rd_len (m p) = 3 := by rw [e]; rfl
    have b1 := h4 (by rw [e]; unfold rd_r1; omega)
    have hm := Nat.mod_lt (m (p + 2) + rd_v (rg (m (p + 1)))) (show 0 < 256 by omega)
    refine ⟨pk_in (p + 2) 64 (by omega) (nI_add p 2), pk_in (p + 1) 64 (by omega) (nI_1 p), ?_⟩
    refine xl_plus (rd_rd hI (p + 2) (by omega) (by omega) (nI_add p 2)) (rd_rd hI (p + 1) (by omega) (by omega) (nI_1 p)) (by omega) b2 hB ?_
    exact pk_lt ((m (p + 2) + rd_v (rg (m (p + 1)))) % 256) n (fun h => rd_pf hp fun z => by unfold rd_flt at z; omega) (fun h => rd_pt hp (Or.inr (Or.inl ⟨e, h⟩)))
theorem xl_perf_image {post : SX → Prop} (hn : n ≤ 64) (hI : ∀ j, j < n → a_image j = nI (m j)) (hb : ∀ j, m j < 256) (hB : rd_By rg) (hK : rd_By sk) (hd : d ≤ 8) (hc : c ≤ 16) (ho : rd_ok m n p) (hf : ¬ rd_flt m n (m p) p rg d c) (h0 : ¬ m p = 0)
    (hp : ∀ p' rg' sk' d' vl' c', rd_nx m (m p) p rg sk d vl c = (p', rg', sk', d', vl', c') → post (f_capacity, nI s, f_entryCount, f_analysed, f_outputSize, f_status, f_steps, nI p', nI d', nI c', a_image, a_entry, a_reached, a_classes, a_symbolic, a_functionStart, a_newAddress, a_output, rg', sk', vl')) : wpX_perform__image post (f_capacity, nI s, f_entryCount, f_analysed, f_outputSize, f_status, f_steps, nI p, nI d, nI c, a_image, a_entry, a_reached, a_classes, a_symbolic, a_functionStart, a_newAddress, a_output, rg, sk, vl) := by
  obtain ⟨h1, h2, h3, h4, h5, h6⟩ := ho
  have b1 := hb (p + 1)
  have b2 := hb (p + 2)
  have b3 := hb (p + 3)
  unfold rd_flt at hf
  refine ⟨pk_in p 64 (by omega), nm_r (rd_rd hI p h1 (by omega)) ?_⟩
  rcases rd_op15 h2 with e | e | e | e | e | e | e | e | e | e | e | e | e | e | e
  all_goals (repeat (first | refine br_t (by rw [e]; decide) ?_ | refine br_f (by rw [e]; decide) ?_))
  · exact absurd e h0
  · exact nm_r (nI_1 p) (hp _ _ _ _ _ _ (by rw [e]; rfl))
  · have el : rd_len (m p) = 3 := by rw [e]; rfl
    have r1 := h4 (by rw [e]; unfold rd_r1; omega)
    refine ⟨pk_in (p + 1) 64 (by omega) (nI_1 p), nm_r (rd_rd hI (p + 1) (by omega) (by omega) (nI_1 p)) ⟨pk_in (p + 2) 64 (by omega) (nI_add p 2), nm_r (rd_rd hI (p + 2) (by omega) (by omega) (nI_add p 2)) (br_t (by rw [e]; decide) ⟨pk_in (m (p + 1)) 4 (by omega), nm_r (e' := upd rg (m (p + 1)) (nI (m (p + 2)))) (by rw [nI_clamp (by omega)]) ?_⟩)⟩⟩
    exact xl_len h2 (nm_r (e' := nI (p + 3)) (by rw [nI_add, el]) (hp _ _ _ _ _ _ (by rw [e]; rfl)))
  · have el : rd_len (m p) = 3 := by rw [e]; rfl
    have r1 := h4 (by rw [e]; unfold rd_r1; omega)
    refine ⟨pk_in (p + 1) 64 (by omega) (nI_1 p), nm_r (rd_rd hI (p + 1) (by omega) (by omega) (nI_1 p)) ⟨pk_in (p + 2) 64 (by omega) (nI_add p 2), nm_r (rd_rd hI (p + 2) (by omega) (by omega) (nI_add p 2)) (br_t (by rw [e]; decide) ⟨pk_in (m (p + 1)) 4 (by omega), nm_r (e' := upd rg (m (p + 1)) (nI (m (p + 2)))) (by rw [nI_clamp (by omega)]) ?_⟩)⟩⟩
    exact xl_len h2 (nm_r (e' := nI (p + 3)) (by rw [nI_add, el]) (hp _ _ _ _ _ _ (by rw [e]; rfl)))
  · have el : rd_len (m p) = 3 := by rw [e]; rfl
    have r1 := h4 (by rw [e]; unfold rd_r1; omega)
    have r2 := h5 e
    have hv := (rd_By_v hB (m (p + 1))).1
    refine ⟨pk_in (p + 1) 64 (by omega) (nI_1 p), nm_r (rd_rd hI (p + 1) (by omega) (by omega) (nI_1 p)) ⟨pk_in (p + 2) 64 (by omega) (nI_add p 2), nm_r (rd_rd hI (p + 2) (by omega) (by omega) (nI_add p 2)) (br_f (by rw [e]; decide) (br_f (by rw [e]; decide) (br_t (by rw [e]; decide) ⟨pk_in (m (p + 1)) 4 (by omega), ?_⟩)))⟩⟩
    refine xl_plus (rd_rv hB rfl (by omega)) rfl (by omega) hv hB ⟨pk_in (m (p + 1)) 4 (by omega), nm_r (e' := upd rg (m (p + 1)) (nI ((rd_v (rg (m (p + 1))) + rd_v (rg (m (p + 2)))) % 256))) (by rw [nI_clamp (by omega)]) ?_⟩
    exact xl_len h2 (nm_r (e' := nI (p + 3)) (by rw [nI_add, el]) (hp _ _ _ _ _ _ (by rw [e]; rfl)))
  · have el : rd_len (m p) = 3 := by rw [e]; rfl
    have r1 := h4 (by rw [e]; unfold rd_r1; omega)
    refine ⟨pk_in (p + 1) 64 (by omega) (nI_1 p), nm_r (rd_rd hI (p + 1) (by omega) (by omega) (nI_1 p)) ⟨pk_in (p + 2) 64 (by omega) (nI_add p 2), nm_r (rd_rd hI (p + 2) (by omega) (by omega) (nI_add p 2)) (br_f (by rw [e]; decide) (br_f (by rw [e]; decide) (br_f (by rw [e]; decide) (br_t (by rw [e]; decide) ?_))))⟩⟩
    refine xl_plus rfl rfl (by omega) b2 hB ⟨pk_in (m (p + 1)) 4 (by omega), nm_r (e' := upd rg (m (p + 1)) (nI ((m (p + 2) + rd_v (rg (m (p + 1)))) % 256))) (by rw [nI_clamp (by omega)]) ?_⟩
    exact xl_len h2 (nm_r (e' := nI (p + 3)) (by rw [nI_add, el]) (hp _ _ _ _ _ _ (by rw [e]; rfl)))
  · have el : rd_len (m p) = 4 := by rw [e]; rfl
    have r1 := h4 (by rw [e]; unfold rd_r1; omega)
    have r3 := h6 e
    have hlt : (m (p + 2) + rd_v (rg (m (p + 3)))) % 256 < n := by omega
    refine ⟨pk_in (p + 1) 64 (by omega) (nI_1 p), nm_r (rd_rd hI (p + 1) (by omega) (by omega) (nI_1 p)) ⟨pk_in (p + 2) 64 (by omega) (nI_add p 2), nm_r (rd_rd hI (p + 2) (by omega) (by omega) (nI_add p 2)) (br_f (by rw [e]; decide) (br_f (by rw [e]; decide) (br_f (by rw [e]; decide) (br_f (by rw [e]; decide) (br_t (by rw [e]; decide) ⟨pk_in (p + 3) 64 (by omega) (nI_add p 3), ?_⟩)))))⟩⟩
    refine xl_plus rfl (rd_rd hI (p + 3) (by omega) (by omega) (nI_add p 3)) (by omega) b2 hB ⟨pk_in ((m (p + 2) + rd_v (rg (m (p + 3)))) % 256) 64 (by omega), pk_in (m (p + 1)) 4 (by omega), nm_r (e' := upd rg (m (p + 1)) (nI (m ((m (p + 2) + rd_v (rg (m (p + 3)))) % 256)))) ?_ ?_⟩
    · rw [rd_rd hI _ hlt (by omega), nI_clamp (by omega)]
    exact xl_len h2 (nm_r (e' := nI (p + 4)) (by rw [nI_add, el]) (hp _ _ _ _ _ _ (by rw [e]; rfl)))
  · have el : rd_len (m p) = 2 := by rw [e]; rfl
    have r1 := h4 (by rw [e]; unfold rd_r1; omega)
    have hr := rd_rd hI (p + 1) (by omega) (by omega) (x := nI p + 1) (nI_1 p)
    refine ⟨pk_in (p + 1) 64 (by omega) (nI_1 p), pk_in (m (p + 1)) 4 (by omega) hr, pk_in c 16 (by omega), nm_r (e' := upd vl c (rg (m (p + 1)))) ?_ (nm_r (nI_1 c) (nm_r (nI_add p 2) (hp _ _ _ _ _ _ (by rw [e]; rfl))))⟩
    rw [hr, nI_clamp (by omega), nI_clamp (by omega)]
  · have el : rd_len (m p) = 2 := by rw [e]; rfl
    refine nm_r (nI_add p 2) ?_
    exact br_t (by rw [e]; decide) ⟨pk_in (p + 1) 64 (by omega) (nI_1 p), nm_r (rd_rd hI (p + 1) (by omega) (by omega) (nI_1 p)) (hp _ _ _ _ _ _ (by rw [e]; rfl))⟩
  · have el : rd_len (m p) = 4 := by rw [e]; rfl
    have r1 := h4 (by rw [e]; unfold rd_r1; omega)
    have hr := rd_rd hI (p + 1) (by omega) (by omega) (x := nI p + 1) (nI_1 p)
    have hv := (rd_By_v hB (m (p + 1))).1
    refine nm_r (nI_add p 4) (br_f (by rw [e]; decide) (br_f (by rw [e]; decide) (br_t (by rw [e]; decide) ⟨pk_in (p + 1) 64 (by omega) (nI_1 p), pk_in (m (p + 1)) 4 (by omega) hr, pk_in (p + 2) 64 (by omega) (nI_add p 2), ?_⟩)))
    refine pk_eq (rd_v (rg (m (p + 1)))) (m (p + 2)) (fun h => ⟨pk_in (p + 3) 64 (by omega) (nI_add p 3), nm_r (rd_rd hI (p + 3) (by omega) (by omega) (nI_add p 3)) (hp _ _ _ _ _ _ ?_)⟩) (fun h => hp _ _ _ _ _ _ ?_) (rd_rv hB hr (by omega)) (rd_rd hI (p + 2) (by omega) (by omega) (nI_add p 2))
    · rw [e]
      show (rd_if _ _ _, _) = _
      rw [rd_if_t h]
    · rw [e]
      show (rd_if _ _ _, _) = _
      rw [rd_if_f h]
  · have el : rd_len (m p) = 4 := by rw [e]; rfl
    have r1 := h4 (by rw [e]; unfold rd_r1; omega)
    have hr := rd_rd hI (p + 1) (by omega) (by omega) (x := nI p + 1) (nI_1 p)
    have hv := (rd_By_v hB (m (p + 1))).1
    refine nm_r (nI_add p 4) (br_f (by rw [e]; decide) (br_f (by rw [e]; decide) (br_f (by rw [e]; decide) (br_t (by rw [e]; decide) ⟨pk_in (p + 1) 64 (by omega) (nI_1 p), pk_in (m (p + 1)) 4 (by omega) hr, pk_in (p + 2) 64 (by omega) (nI_add p 2), ?_⟩))))
    refine pk_lt (rd_v (rg (m (p + 1)))) (m (p + 2)) (fun h => hp _ _ _ _ _ _ ?_) (fun h => ⟨pk_in (p + 3) 64 (by omega) (nI_add p 3), nm_r (rd_rd hI (p + 3) (by omega) (by omega) (nI_add p 3)) (hp _ _ _ _ _ _ ?_)⟩) (rd_rv hB hr (by omega)) (rd_rd hI (p + 2) (by omega) (by omega) (nI_add p 2))
    · rw [e]
      show (rd_if _ _ _, _) = _
      rw [rd_if_f (by omega)]
    · rw [e]
      show (rd_if _ _ _, _) = _
      rw [rd_if_t h]
  · have el : rd_len (m p) = 2 := by rw [e]; rfl
    refine nm_r (nI_add p 2) (br_f (by rw [e]; decide) (br_f (by rw [e]; decide) (br_f (by rw [e]; decide) (br_f (by rw [e]; decide) (br_t (by rw [e]; decide) ⟨pk_in d 8 (by omega), nm_r (e' := upd sk d (nI (p + 2))) (by rw [nI_clamp (by omega)]) (nm_r (nI_1 d) ⟨pk_in (p + 1) 64 (by omega) (nI_1 p), nm_r (rd_rd hI (p + 1) (by omega) (by omega) (nI_1 p)) (hp _ _ _ _ _ _ (by rw [e]; rfl))⟩)⟩)))))
  · have hsub : nI d - 1 = nI (d - 1) := pk_sub (b := 1) (by omega)
    refine nm_r (nI_add p 1) (br_f (by rw [e]; decide) (br_f (by rw [e]; decide) (br_f (by rw [e]; decide) (br_f (by rw [e]; decide) (br_f (by rw [e]; decide) (br_t (by rw [e]; decide) (nm_r hsub ⟨pk_in (d - 1) 8 (by omega), nm_r (rd_rv hK rfl (by omega)) (hp _ _ _ _ _ _ (by rw [e]; rfl))⟩)))))))
  · have el : rd_len (m p) = 3 := by rw [e]; rfl
    have r1 := h4 (by rw [e]; unfold rd_r1; omega)
    have hlt : (m (p + 2) + rd_v (rg (m (p + 1)))) % 256 < n := by omega
    refine nm_r (nI_add p 3) (br_f (by rw [e]; decide) (br_f (by rw [e]; decide) (br_f (by rw [e]; decide) (br_f (by rw [e]; decide) (br_f (by rw [e]; decide) (br_f (by rw [e]; decide) (br_t (by rw [e]; decide) ⟨pk_in (p + 2) 64 (by omega) (nI_add p 2), pk_in (p + 1) 64 (by omega) (nI_1 p), ?_⟩)))))))
    exact xl_plus (rd_rd hI (p + 2) (by omega) (by omega) (nI_add p 2)) (rd_rd hI (p + 1) (by omega) (by omega) (nI_1 p)) (by omega) b2 hB ⟨pk_in ((m (p + 2) + rd_v (rg (m (p + 1)))) % 256) 64 (by omega), nm_r (rd_rd hI _ hlt (by omega)) (hp _ _ _ _ _ _ (by rw [e]; rfl))⟩
  · have el : rd_len (m p) = 2 := by rw [e]; rfl
    have r1 := h4 (by rw [e]; unfold rd_r1; omega)
    have hr := rd_rd hI (p + 1) (by omega) (by omega) (x := nI p + 1) (nI_1 p)
    refine nm_r (nI_add p 2) (br_f (by rw [e]; decide) (br_f (by rw [e]; decide) (br_f (by rw [e]; decide) (br_f (by rw [e]; decide) (br_f (by rw [e]; decide) (br_f (by rw [e]; decide) (br_f (by rw [e]; decide) (br_t (by rw [e]; decide) ⟨pk_in (p + 1) 64 (by omega) (nI_1 p), pk_in (m (p + 1)) 4 (by omega) hr, nm_r (rd_rv hB hr (by omega)) (hp _ _ _ _ _ _ (by rw [e]; rfl))⟩))))))))
theorem xl_halt_image {post : SX → Prop} (hn : n ≤ 64) (hI : ∀ j, j < n → a_image j = nI (m j)) (ho : rd_ok m n p) (h0 : m p = 0) (hp : post (f_capacity, nI s, f_entryCount, f_analysed, f_outputSize, 1, f_steps, nI p, nI d, nI c, a_image, a_entry, a_reached, a_classes, a_symbolic, a_functionStart, a_newAddress, a_output, rg, sk, vl)) : wpX_perform__image post (f_capacity, nI s, f_entryCount, f_analysed, f_outputSize, f_status, f_steps, nI p, nI d, nI c, a_image, a_entry, a_reached, a_classes, a_symbolic, a_functionStart, a_newAddress, a_output, rg, sk, vl) := by
  have h1 := ho.1
  refine ⟨pk_in p 64 (by omega), nm_r (rd_rd hI p h1 (by omega)) ?_⟩
  exact br_f (by rw [h0]; decide) (br_f (by rw [h0]; decide) (br_t (by rw [h0]; decide) hp))
theorem xl_flt_output {post : Int32 → Prop} (hn : n ≤ 253) (hI : ∀ j, j < n → a_output j = nI (m j)) (hb : ∀ j, m j < 256) (hB : rd_By rg) (hd : d ≤ 8) (hc : c ≤ 16) (ho : rd_ok m n p) (hp : post (rd_b (rd_flt m n (m p) p rg d c))) : wpX_faults__output post (f_capacity, nI s, f_entryCount, f_analysed, f_outputSize, f_status, f_steps, nI p, nI d, nI c, a_image, a_entry, a_reached, a_classes, a_symbolic, a_functionStart, a_newAddress, a_output, rg, sk, vl) (nI n) := by
  obtain ⟨h1, h2, h3, h4, h5, h6⟩ := ho
  have b2 := hb (p + 2)
  refine ⟨pk_in p 253 (by omega), nm_r (rd_rd hI p h1 (by omega)) ?_⟩
  rcases rd_op15 h2 with e | e | e | e | e | e | e | e | e | e | e | e | e | e | e
  all_goals (repeat (first | refine br_t (by rw [e]; decide) ?_ | refine br_f (by rw [e]; decide) ?_))
  all_goals try (exact rd_pf hp fun z => by unfold rd_flt at z; omega)
  · have el : rd_len (m p) = 4 := by rw [e]; rfl
    have b3 := h6 e
    have hm := Nat.mod_lt (m (p + 2) + rd_v (rg (m (p + 3)))) (show 0 < 256 by omega)
    refine ⟨pk_in (p + 2) 253 (by omega) (nI_add p 2), pk_in (p + 3) 253 (by omega) (nI_add p 3), ?_⟩
    refine xl_plus (rd_rd hI (p + 2) (by omega) (by omega) (nI_add p 2)) (rd_rd hI (p + 3) (by omega) (by omega) (nI_add p 3)) (by omega) b2 hB ?_
    exact pk_lt ((m (p + 2) + rd_v (rg (m (p + 3)))) % 256) n (fun h => rd_pf hp fun z => by unfold rd_flt at z; omega) (fun h => rd_pt hp (Or.inl ⟨e, h⟩))
  · exact pk_lt c 16 (fun h => rd_pf hp fun z => by unfold rd_flt at z; omega) (fun h => rd_pt hp (Or.inr (Or.inr (Or.inl ⟨e, h⟩))))
  · exact pk_lt d 8 (fun h => rd_pf hp fun z => by unfold rd_flt at z; omega) (fun h => rd_pt hp (Or.inr (Or.inr (Or.inr (Or.inl ⟨e, h⟩)))))
  · exact pk_lt 0 d (fun h => rd_pf hp fun z => by unfold rd_flt at z; omega) (fun h => rd_pt hp (Or.inr (Or.inr (Or.inr (Or.inr ⟨e, by omega⟩)))))
  · have el : rd_len (m p) = 3 := by rw [e]; rfl
    have b1 := h4 (by rw [e]; unfold rd_r1; omega)
    have hm := Nat.mod_lt (m (p + 2) + rd_v (rg (m (p + 1)))) (show 0 < 256 by omega)
    refine ⟨pk_in (p + 2) 253 (by omega) (nI_add p 2), pk_in (p + 1) 253 (by omega) (nI_1 p), ?_⟩
    refine xl_plus (rd_rd hI (p + 2) (by omega) (by omega) (nI_add p 2)) (rd_rd hI (p + 1) (by omega) (by omega) (nI_1 p)) (by omega) b2 hB ?_
    exact pk_lt ((m (p + 2) + rd_v (rg (m (p + 1)))) % 256) n (fun h => rd_pf hp fun z => by unfold rd_flt at z; omega) (fun h => rd_pt hp (Or.inr (Or.inl ⟨e, h⟩)))
theorem xl_perf_output {post : SX → Prop} (hn : n ≤ 253) (hI : ∀ j, j < n → a_output j = nI (m j)) (hb : ∀ j, m j < 256) (hB : rd_By rg) (hK : rd_By sk) (hd : d ≤ 8) (hc : c ≤ 16) (ho : rd_ok m n p) (hf : ¬ rd_flt m n (m p) p rg d c) (h0 : ¬ m p = 0)
    (hp : ∀ p' rg' sk' d' vl' c', rd_nx m (m p) p rg sk d vl c = (p', rg', sk', d', vl', c') → post (f_capacity, nI s, f_entryCount, f_analysed, f_outputSize, f_status, f_steps, nI p', nI d', nI c', a_image, a_entry, a_reached, a_classes, a_symbolic, a_functionStart, a_newAddress, a_output, rg', sk', vl')) : wpX_perform__output post (f_capacity, nI s, f_entryCount, f_analysed, f_outputSize, f_status, f_steps, nI p, nI d, nI c, a_image, a_entry, a_reached, a_classes, a_symbolic, a_functionStart, a_newAddress, a_output, rg, sk, vl) := by
  obtain ⟨h1, h2, h3, h4, h5, h6⟩ := ho
  have b1 := hb (p + 1)
  have b2 := hb (p + 2)
  have b3 := hb (p + 3)
  unfold rd_flt at hf
  refine ⟨pk_in p 253 (by omega), nm_r (rd_rd hI p h1 (by omega)) ?_⟩
  rcases rd_op15 h2 with e | e | e | e | e | e | e | e | e | e | e | e | e | e | e
  all_goals (repeat (first | refine br_t (by rw [e]; decide) ?_ | refine br_f (by rw [e]; decide) ?_))
  · exact absurd e h0
  · exact nm_r (nI_1 p) (hp _ _ _ _ _ _ (by rw [e]; rfl))
  · have el : rd_len (m p) = 3 := by rw [e]; rfl
    have r1 := h4 (by rw [e]; unfold rd_r1; omega)
    refine ⟨pk_in (p + 1) 253 (by omega) (nI_1 p), nm_r (rd_rd hI (p + 1) (by omega) (by omega) (nI_1 p)) ⟨pk_in (p + 2) 253 (by omega) (nI_add p 2), nm_r (rd_rd hI (p + 2) (by omega) (by omega) (nI_add p 2)) (br_t (by rw [e]; decide) ⟨pk_in (m (p + 1)) 4 (by omega), nm_r (e' := upd rg (m (p + 1)) (nI (m (p + 2)))) (by rw [nI_clamp (by omega)]) ?_⟩)⟩⟩
    exact xl_len h2 (nm_r (e' := nI (p + 3)) (by rw [nI_add, el]) (hp _ _ _ _ _ _ (by rw [e]; rfl)))
  · have el : rd_len (m p) = 3 := by rw [e]; rfl
    have r1 := h4 (by rw [e]; unfold rd_r1; omega)
    refine ⟨pk_in (p + 1) 253 (by omega) (nI_1 p), nm_r (rd_rd hI (p + 1) (by omega) (by omega) (nI_1 p)) ⟨pk_in (p + 2) 253 (by omega) (nI_add p 2), nm_r (rd_rd hI (p + 2) (by omega) (by omega) (nI_add p 2)) (br_t (by rw [e]; decide) ⟨pk_in (m (p + 1)) 4 (by omega), nm_r (e' := upd rg (m (p + 1)) (nI (m (p + 2)))) (by rw [nI_clamp (by omega)]) ?_⟩)⟩⟩
    exact xl_len h2 (nm_r (e' := nI (p + 3)) (by rw [nI_add, el]) (hp _ _ _ _ _ _ (by rw [e]; rfl)))
  · have el : rd_len (m p) = 3 := by rw [e]; rfl
    have r1 := h4 (by rw [e]; unfold rd_r1; omega)
    have r2 := h5 e
    have hv := (rd_By_v hB (m (p + 1))).1
    refine ⟨pk_in (p + 1) 253 (by omega) (nI_1 p), nm_r (rd_rd hI (p + 1) (by omega) (by omega) (nI_1 p)) ⟨pk_in (p + 2) 253 (by omega) (nI_add p 2), nm_r (rd_rd hI (p + 2) (by omega) (by omega) (nI_add p 2)) (br_f (by rw [e]; decide) (br_f (by rw [e]; decide) (br_t (by rw [e]; decide) ⟨pk_in (m (p + 1)) 4 (by omega), ?_⟩)))⟩⟩
    refine xl_plus (rd_rv hB rfl (by omega)) rfl (by omega) hv hB ⟨pk_in (m (p + 1)) 4 (by omega), nm_r (e' := upd rg (m (p + 1)) (nI ((rd_v (rg (m (p + 1))) + rd_v (rg (m (p + 2)))) % 256))) (by rw [nI_clamp (by omega)]) ?_⟩
    exact xl_len h2 (nm_r (e' := nI (p + 3)) (by rw [nI_add, el]) (hp _ _ _ _ _ _ (by rw [e]; rfl)))
  · have el : rd_len (m p) = 3 := by rw [e]; rfl
    have r1 := h4 (by rw [e]; unfold rd_r1; omega)
    refine ⟨pk_in (p + 1) 253 (by omega) (nI_1 p), nm_r (rd_rd hI (p + 1) (by omega) (by omega) (nI_1 p)) ⟨pk_in (p + 2) 253 (by omega) (nI_add p 2), nm_r (rd_rd hI (p + 2) (by omega) (by omega) (nI_add p 2)) (br_f (by rw [e]; decide) (br_f (by rw [e]; decide) (br_f (by rw [e]; decide) (br_t (by rw [e]; decide) ?_))))⟩⟩
    refine xl_plus rfl rfl (by omega) b2 hB ⟨pk_in (m (p + 1)) 4 (by omega), nm_r (e' := upd rg (m (p + 1)) (nI ((m (p + 2) + rd_v (rg (m (p + 1)))) % 256))) (by rw [nI_clamp (by omega)]) ?_⟩
    exact xl_len h2 (nm_r (e' := nI (p + 3)) (by rw [nI_add, el]) (hp _ _ _ _ _ _ (by rw [e]; rfl)))
  · have el : rd_len (m p) = 4 := by rw [e]; rfl
    have r1 := h4 (by rw [e]; unfold rd_r1; omega)
    have r3 := h6 e
    have hlt : (m (p + 2) + rd_v (rg (m (p + 3)))) % 256 < n := by omega
    refine ⟨pk_in (p + 1) 253 (by omega) (nI_1 p), nm_r (rd_rd hI (p + 1) (by omega) (by omega) (nI_1 p)) ⟨pk_in (p + 2) 253 (by omega) (nI_add p 2), nm_r (rd_rd hI (p + 2) (by omega) (by omega) (nI_add p 2)) (br_f (by rw [e]; decide) (br_f (by rw [e]; decide) (br_f (by rw [e]; decide) (br_f (by rw [e]; decide) (br_t (by rw [e]; decide) ⟨pk_in (p + 3) 253 (by omega) (nI_add p 3), ?_⟩)))))⟩⟩
    refine xl_plus rfl (rd_rd hI (p + 3) (by omega) (by omega) (nI_add p 3)) (by omega) b2 hB ⟨pk_in ((m (p + 2) + rd_v (rg (m (p + 3)))) % 256) 253 (by omega), pk_in (m (p + 1)) 4 (by omega), nm_r (e' := upd rg (m (p + 1)) (nI (m ((m (p + 2) + rd_v (rg (m (p + 3)))) % 256)))) ?_ ?_⟩
    · rw [rd_rd hI _ hlt (by omega), nI_clamp (by omega)]
    exact xl_len h2 (nm_r (e' := nI (p + 4)) (by rw [nI_add, el]) (hp _ _ _ _ _ _ (by rw [e]; rfl)))
  · have el : rd_len (m p) = 2 := by rw [e]; rfl
    have r1 := h4 (by rw [e]; unfold rd_r1; omega)
    have hr := rd_rd hI (p + 1) (by omega) (by omega) (x := nI p + 1) (nI_1 p)
    refine ⟨pk_in (p + 1) 253 (by omega) (nI_1 p), pk_in (m (p + 1)) 4 (by omega) hr, pk_in c 16 (by omega), nm_r (e' := upd vl c (rg (m (p + 1)))) ?_ (nm_r (nI_1 c) (nm_r (nI_add p 2) (hp _ _ _ _ _ _ (by rw [e]; rfl))))⟩
    rw [hr, nI_clamp (by omega), nI_clamp (by omega)]
  · have el : rd_len (m p) = 2 := by rw [e]; rfl
    refine nm_r (nI_add p 2) ?_
    exact br_t (by rw [e]; decide) ⟨pk_in (p + 1) 253 (by omega) (nI_1 p), nm_r (rd_rd hI (p + 1) (by omega) (by omega) (nI_1 p)) (hp _ _ _ _ _ _ (by rw [e]; rfl))⟩
  · have el : rd_len (m p) = 4 := by rw [e]; rfl
    have r1 := h4 (by rw [e]; unfold rd_r1; omega)
    have hr := rd_rd hI (p + 1) (by omega) (by omega) (x := nI p + 1) (nI_1 p)
    have hv := (rd_By_v hB (m (p + 1))).1
    refine nm_r (nI_add p 4) (br_f (by rw [e]; decide) (br_f (by rw [e]; decide) (br_t (by rw [e]; decide) ⟨pk_in (p + 1) 253 (by omega) (nI_1 p), pk_in (m (p + 1)) 4 (by omega) hr, pk_in (p + 2) 253 (by omega) (nI_add p 2), ?_⟩)))
    refine pk_eq (rd_v (rg (m (p + 1)))) (m (p + 2)) (fun h => ⟨pk_in (p + 3) 253 (by omega) (nI_add p 3), nm_r (rd_rd hI (p + 3) (by omega) (by omega) (nI_add p 3)) (hp _ _ _ _ _ _ ?_)⟩) (fun h => hp _ _ _ _ _ _ ?_) (rd_rv hB hr (by omega)) (rd_rd hI (p + 2) (by omega) (by omega) (nI_add p 2))
    · rw [e]
      show (rd_if _ _ _, _) = _
      rw [rd_if_t h]
    · rw [e]
      show (rd_if _ _ _, _) = _
      rw [rd_if_f h]
  · have el : rd_len (m p) = 4 := by rw [e]; rfl
    have r1 := h4 (by rw [e]; unfold rd_r1; omega)
    have hr := rd_rd hI (p + 1) (by omega) (by omega) (x := nI p + 1) (nI_1 p)
    have hv := (rd_By_v hB (m (p + 1))).1
    refine nm_r (nI_add p 4) (br_f (by rw [e]; decide) (br_f (by rw [e]; decide) (br_f (by rw [e]; decide) (br_t (by rw [e]; decide) ⟨pk_in (p + 1) 253 (by omega) (nI_1 p), pk_in (m (p + 1)) 4 (by omega) hr, pk_in (p + 2) 253 (by omega) (nI_add p 2), ?_⟩))))
    refine pk_lt (rd_v (rg (m (p + 1)))) (m (p + 2)) (fun h => hp _ _ _ _ _ _ ?_) (fun h => ⟨pk_in (p + 3) 253 (by omega) (nI_add p 3), nm_r (rd_rd hI (p + 3) (by omega) (by omega) (nI_add p 3)) (hp _ _ _ _ _ _ ?_)⟩) (rd_rv hB hr (by omega)) (rd_rd hI (p + 2) (by omega) (by omega) (nI_add p 2))
    · rw [e]
      show (rd_if _ _ _, _) = _
      rw [rd_if_f (by omega)]
    · rw [e]
      show (rd_if _ _ _, _) = _
      rw [rd_if_t h]
  · have el : rd_len (m p) = 2 := by rw [e]; rfl
    refine nm_r (nI_add p 2) (br_f (by rw [e]; decide) (br_f (by rw [e]; decide) (br_f (by rw [e]; decide) (br_f (by rw [e]; decide) (br_t (by rw [e]; decide) ⟨pk_in d 8 (by omega), nm_r (e' := upd sk d (nI (p + 2))) (by rw [nI_clamp (by omega)]) (nm_r (nI_1 d) ⟨pk_in (p + 1) 253 (by omega) (nI_1 p), nm_r (rd_rd hI (p + 1) (by omega) (by omega) (nI_1 p)) (hp _ _ _ _ _ _ (by rw [e]; rfl))⟩)⟩)))))
  · have hsub : nI d - 1 = nI (d - 1) := pk_sub (b := 1) (by omega)
    refine nm_r (nI_add p 1) (br_f (by rw [e]; decide) (br_f (by rw [e]; decide) (br_f (by rw [e]; decide) (br_f (by rw [e]; decide) (br_f (by rw [e]; decide) (br_t (by rw [e]; decide) (nm_r hsub ⟨pk_in (d - 1) 8 (by omega), nm_r (rd_rv hK rfl (by omega)) (hp _ _ _ _ _ _ (by rw [e]; rfl))⟩)))))))
  · have el : rd_len (m p) = 3 := by rw [e]; rfl
    have r1 := h4 (by rw [e]; unfold rd_r1; omega)
    have hlt : (m (p + 2) + rd_v (rg (m (p + 1)))) % 256 < n := by omega
    refine nm_r (nI_add p 3) (br_f (by rw [e]; decide) (br_f (by rw [e]; decide) (br_f (by rw [e]; decide) (br_f (by rw [e]; decide) (br_f (by rw [e]; decide) (br_f (by rw [e]; decide) (br_t (by rw [e]; decide) ⟨pk_in (p + 2) 253 (by omega) (nI_add p 2), pk_in (p + 1) 253 (by omega) (nI_1 p), ?_⟩)))))))
    exact xl_plus (rd_rd hI (p + 2) (by omega) (by omega) (nI_add p 2)) (rd_rd hI (p + 1) (by omega) (by omega) (nI_1 p)) (by omega) b2 hB ⟨pk_in ((m (p + 2) + rd_v (rg (m (p + 1)))) % 256) 253 (by omega), nm_r (rd_rd hI _ hlt (by omega)) (hp _ _ _ _ _ _ (by rw [e]; rfl))⟩
  · have el : rd_len (m p) = 2 := by rw [e]; rfl
    have r1 := h4 (by rw [e]; unfold rd_r1; omega)
    have hr := rd_rd hI (p + 1) (by omega) (by omega) (x := nI p + 1) (nI_1 p)
    refine nm_r (nI_add p 2) (br_f (by rw [e]; decide) (br_f (by rw [e]; decide) (br_f (by rw [e]; decide) (br_f (by rw [e]; decide) (br_f (by rw [e]; decide) (br_f (by rw [e]; decide) (br_f (by rw [e]; decide) (br_t (by rw [e]; decide) ⟨pk_in (p + 1) 253 (by omega) (nI_1 p), pk_in (m (p + 1)) 4 (by omega) hr, nm_r (rd_rv hB hr (by omega)) (hp _ _ _ _ _ _ (by rw [e]; rfl))⟩))))))))
theorem xl_halt_output {post : SX → Prop} (hn : n ≤ 253) (hI : ∀ j, j < n → a_output j = nI (m j)) (ho : rd_ok m n p) (h0 : m p = 0) (hp : post (f_capacity, nI s, f_entryCount, f_analysed, f_outputSize, 1, f_steps, nI p, nI d, nI c, a_image, a_entry, a_reached, a_classes, a_symbolic, a_functionStart, a_newAddress, a_output, rg, sk, vl)) : wpX_perform__output post (f_capacity, nI s, f_entryCount, f_analysed, f_outputSize, f_status, f_steps, nI p, nI d, nI c, a_image, a_entry, a_reached, a_classes, a_symbolic, a_functionStart, a_newAddress, a_output, rg, sk, vl) := by
  have h1 := ho.1
  refine ⟨pk_in p 253 (by omega), nm_r (rd_rd hI p h1 (by omega)) ?_⟩
  exact br_f (by rw [h0]; decide) (br_f (by rw [h0]; decide) (br_t (by rw [h0]; decide) hp))
end
