/-! Y: what it answers of an analysis -/
section
variable {f_cap f_size f_nent f_analysed f_pad f_changed f_status f_steps f_pc f_outCount f_depth : Int32} {a_img a_ent a_inS a_reg a_outs a_stack a_mem : Nat → Int32} {im : Nat → Nat} {s : Nat} {E : Nat → Prop} {post : Int32 → Prop}
theorem yr_vS {p : Nat} (hps : p < s) (hs : s ≤ 64) (hI : ∀ j, j < 64 → a_img j = nI (im j)) (hb : ∀ j, im j < 256) (hS : ∀ q, q < s → (rd_nz a_inS q ↔ rd_LR im s E q)) (hp : post (rd_b (rd_st im s E p))) : wpY_vS post (f_cap, nI s, f_nent, f_analysed, f_pad, f_changed, f_status, f_steps, f_pc, f_outCount, f_depth, a_img, a_ent, a_inS, a_reg, a_outs, a_stack, a_mem) (nI p) := by
  refine yl_vS hps hs hI hb ?_
  rw [rd_bc (Q := rd_st im s E p) ⟨fun h => ⟨(hS p hps).mp h.1, h.2⟩, fun h => ⟨(hS p hps).mpr h.1, h.2⟩⟩]; exact hp
theorem yr_bd {p : Nat} (hps : p < s) (hs : s ≤ 64) (hI : ∀ j, j < 64 → a_img j = nI (im j)) (hb : ∀ j, im j < 256) (hS : ∀ q, q < s → (rd_nz a_inS q ↔ rd_LR im s E q)) (hp : post (rd_b (rd_st im s E p ∧ 0 < rd_tl im s p))) : wpY_bounded post (f_cap, nI s, f_nent, f_analysed, f_pad, f_changed, f_status, f_steps, f_pc, f_outCount, f_depth, a_img, a_ent, a_inS, a_reg, a_outs, a_stack, a_mem) (nI p) := by
  refine yl_bd hps hs hI hb ?_
  rw [rd_bc (Q := rd_st im s E p ∧ 0 < rd_tl im s p) ⟨fun h => ⟨⟨(hS p hps).mp h.1.1, h.1.2⟩, h.2⟩, fun h => ⟨⟨(hS p hps).mpr h.1.1, h.1.2⟩, h.2⟩⟩]; exact hp
theorem yr_tab {q : Nat} (hq : q < 2 ^ 30) (hs : s ≤ 64) (hI : ∀ j, j < 64 → a_img j = nI (im j)) (hb : ∀ j, im j < 256) (hS : ∀ q, q < s → (rd_nz a_inS q ↔ rd_LR im s E q)) (hp : post (rd_b (rd_tab im s E s q))) : wpY_inTable post (f_cap, nI s, f_nent, f_analysed, f_pad, f_changed, f_status, f_steps, f_pc, f_outCount, f_depth, a_img, a_ent, a_inS, a_reg, a_outs, a_stack, a_mem) (nI q) := by
  refine pk_loop (fun n i (_ : Unit) => wY_inTable_2 post (nI q) f_cap (nI s) f_nent f_analysed f_pad f_changed f_status f_steps f_pc f_outCount f_depth a_img a_ent a_inS a_reg a_outs a_stack a_mem n (nI i)) (fun i _ => ¬ rd_tab im s E i q) s 0 () (by omega) rd_tab_0 ?_ ?_
  · intro n _ h
    exact pk_le s s (fun _ => rd_pf hp h) (fun z => absurd z (by omega))
  · intro n i _ hi h hn
    have N : ¬ (rd_st im s E i ∧ im (i + 2) ≤ q ∧ q < im (i + 2) + rd_tl im s i) → wY_inTable_2 post (nI q) f_cap (nI s) f_nent f_analysed f_pad f_changed f_status f_steps f_pc f_outCount f_depth a_img a_ent a_inS a_reg a_outs a_stack a_mem n (nI (i + 1)) := fun z => hn () fun y => (rd_tab_s.mp y).elim h z
    refine pk_le s i (fun z => absurd z (by omega)) (fun _ => ?_)
    refine yr_bd hi hs hI hb hS ?_
    refine rd_brb (fun z => nm_r (nI_1 i) (N fun y => z ⟨y.1, by omega⟩)) (fun z => ?_)
    have ht := rd_tl_le z.2
    have hle := z.1.2.2.2.1
    have el : rd_len (im i) = 3 := by rw [ht.1.1]; rfl
    have h4 := ht.1.2.1
    have c2 := hb (i + 2)
    have s2 : nI i - 2 = nI (i - 2) := pk_sub (b := 2) (by omega)
    refine ⟨pk_in (i + 2) 64 (by omega) (nI_add i 2), nm_r (rd_rd hI (i + 2) (by omega) (by omega) (nI_add i 2)) ⟨pk_in (i - 2) 64 (by omega) s2, nm_r (e' := nI (rd_tl im s i)) ?_ ?_⟩⟩
    · rw [rd_rd hI (i - 2) (by omega) (by omega) s2, ht.2.1]
    refine pk_lt q (im (i + 2)) (fun y => nm_r (nI_1 i) (N (by omega))) (fun y => pk_le (im (i + 2) + rd_tl im s i) q (fun y2 => nm_r (nI_1 i) (N (by omega))) (fun y2 => rd_pt hp ⟨i, hi, z.1, y, y2⟩) (nI_add _ _) rfl)
theorem rd_m1 {q : Nat} (hq : q < 2 ^ 31) : ¬ (-1 : Int32) = nI q := by
  intro h
  have h2 := congrArg Int32.toInt h
  rw [nI_toInt hq] at h2
  have h3 : (-1 : Int32).toInt = -1 := by decide
  omega
theorem yr_slot {q : Nat} (hq : q < 2 ^ 30) (hs : s ≤ 64) (hI : ∀ j, j < 64 → a_img j = nI (im j)) (hb : ∀ j, im j < 256) (hS : ∀ q, q < s → (rd_nz a_inS q ↔ rd_LR im s E q)) (hp : post (rd_b (rd_slot im s E s q))) : wpY_isSlot post (f_cap, nI s, f_nent, f_analysed, f_pad, f_changed, f_status, f_steps, f_pc, f_outCount, f_depth, a_img, a_ent, a_inS, a_reg, a_outs, a_stack, a_mem) (nI q) := by
  refine pk_loop (fun n i (_ : Unit) => wY_isSlot_2 post (nI q) f_cap (nI s) f_nent f_analysed f_pad f_changed f_status f_steps f_pc f_outCount f_depth a_img a_ent a_inS a_reg a_outs a_stack a_mem n (nI i)) (fun i _ => ¬ rd_slot im s E i q) s 0 () (by omega) rd_slot_0 ?_ ?_
  · intro n _ h
    exact pk_le s s (fun _ => rd_pf hp h) (fun z => absurd z (by omega))
  · intro n i _ hi h hn
    have N : ¬ (rd_st im s E i ∧ 0 < rd_slo (im i) ∧ q = i + rd_slo (im i)) → wY_isSlot_2 post (nI q) f_cap (nI s) f_nent f_analysed f_pad f_changed f_status f_steps f_pc f_outCount f_depth a_img a_ent a_inS a_reg a_outs a_stack a_mem n (nI (i + 1)) := fun z => hn () fun y => (rd_slot_s.mp y).elim h z
    refine pk_le s i (fun z => absurd z (by omega)) (fun _ => ?_)
    refine yr_vS hi hs hI hb hS ?_
    refine rd_brb (fun z => nm_r (nI_1 i) (N fun y => z y.1)) (fun z => ⟨pk_in i 64 (by omega), nm_r (rd_rd hI i (by omega) (by omega)) ?_⟩)
    have K : ∀ t, 0 < t → t ≤ 3 → rd_slo (im i) = t → wY_isSlot_87 post (wY_isSlot_2 post (nI q) f_cap (nI s) f_nent f_analysed f_pad f_changed f_status f_steps f_pc f_outCount f_depth a_img a_ent a_inS a_reg a_outs a_stack a_mem n) (nI q) (nI i) (nI (i + t)) f_cap (nI s) f_nent f_analysed f_pad f_changed f_status f_steps f_pc f_outCount f_depth a_img a_ent a_inS a_reg a_outs a_stack a_mem := by
      intro t ht0 ht3 e
      exact pk_eq (i + t) q (fun y => rd_pt hp ⟨i, hi, z, by omega, by omega⟩) (fun y => nm_r (nI_1 i) (N (by omega)))
    have K0 : rd_slo (im i) = 0 → wY_isSlot_87 post (wY_isSlot_2 post (nI q) f_cap (nI s) f_nent f_analysed f_pad f_changed f_status f_steps f_pc f_outCount f_depth a_img a_ent a_inS a_reg a_outs a_stack a_mem n) (nI q) (nI i) (-1) f_cap (nI s) f_nent f_analysed f_pad f_changed f_status f_steps f_pc f_outCount f_depth a_img a_ent a_inS a_reg a_outs a_stack a_mem := fun e => br_f (rd_m1 (by omega)) (nm_r (nI_1 i) (N (by omega)))
    rcases rd_op15 z.2.2.1 with e | e | e | e | e | e | e | e | e | e | e | e | e | e | e
    all_goals (repeat (first | refine br_t (by rw [e]; decide) ?_ | refine br_f (by rw [e]; decide) ?_ | refine nm_r (nI_add i 2) ?_ | refine nm_r (nI_add i 1) ?_ | refine nm_r (nI_add i 3) ?_))
    · exact K0 (by rw [e]; rfl)
    · exact K0 (by rw [e]; rfl)
    · exact K0 (by rw [e]; rfl)
    · exact K 2 (by omega) (by omega) (by rw [e]; rfl)
    · exact K0 (by rw [e]; rfl)
    · exact K0 (by rw [e]; rfl)
    · exact K 2 (by omega) (by omega) (by rw [e]; rfl)
    · exact K0 (by rw [e]; rfl)
    · exact K 1 (by omega) (by omega) (by rw [e]; rfl)
    · exact K 3 (by omega) (by omega) (by rw [e]; rfl)
    · exact K 3 (by omega) (by omega) (by rw [e]; rfl)
    · exact K 1 (by omega) (by omega) (by rw [e]; rfl)
    · exact K0 (by rw [e]; rfl)
    · exact K 2 (by omega) (by omega) (by rw [e]; rfl)
    · exact K0 (by rw [e]; rfl)
theorem yr_sym {q : Nat} (hq : q < s) (hs : s ≤ 64) (hI : ∀ j, j < 64 → a_img j = nI (im j)) (hb : ∀ j, im j < 256) (hS : ∀ q, q < s → (rd_nz a_inS q ↔ rd_LR im s E q)) (hp : post (rd_b (rd_sym im s E s q))) : wpY_sym post (f_cap, nI s, f_nent, f_analysed, f_pad, f_changed, f_status, f_steps, f_pc, f_outCount, f_depth, a_img, a_ent, a_inS, a_reg, a_outs, a_stack, a_mem) (nI q) := by
  have bq := hb q
  refine ⟨pk_in q 64 (by omega), pk_le s (im q) (fun h => rd_pf hp fun z => absurd z.1 (by omega)) (fun h => ?_) rfl (rd_rd hI q (by omega) (by omega))⟩
  refine yr_slot (by omega) hs hI hb hS ?_
  refine rd_brb (fun h1 => ?_) (fun h1 => rd_pt hp ⟨h, Or.inl h1⟩)
  refine yr_tab (by omega) hs hI hb hS ?_
  exact rd_brb (fun h2 => rd_pf hp fun z => z.2.elim h1 h2) (fun h2 => rd_pt hp ⟨h, Or.inr h2⟩)
theorem yr_cls {q : Nat} (hq : q < s) (hs : s ≤ 64) (hI : ∀ j, j < 64 → a_img j = nI (im j)) (hb : ∀ j, im j < 256) (hS : ∀ q, q < s → (rd_nz a_inS q ↔ rd_LR im s E q)) (hp : post (rd_cls im s E q)) : wpY_cls post (f_cap, nI s, f_nent, f_analysed, f_pad, f_changed, f_status, f_steps, f_pc, f_outCount, f_depth, a_img, a_ent, a_inS, a_reg, a_outs, a_stack, a_mem) (nI q) := by
  refine ⟨pk_in q 64 (by omega), rd_br0 (by omega) (fun z => ?_) (fun z => ?_)⟩
  · have hL : ¬ rd_LR im s E q := fun h => (hS q hq).mpr h z
    refine pk_loop (fun n i (_ : Unit) => wY_cls_30 post (nI q) f_cap (nI s) f_nent f_analysed f_pad f_changed f_status f_steps f_pc f_outCount f_depth a_img a_ent a_inS a_reg a_outs a_stack a_mem n (nI i)) (fun i _ => ¬ rd_opd im s E i q) s 0 () (by omega) rd_opd_0 ?_ ?_
    · intro n _ h
      refine pk_le s s (fun _ => ?_) (fun z => absurd z (by omega))
      refine yr_tab (by omega) hs hI hb hS ?_
      refine rd_brb (fun ht => ?_) (fun ht => ?_)
      · have e : rd_cls im s E q = 0 := rd_c2_0.mpr ⟨hL, h, ht⟩
        rw [e] at hp; exact hp
      · have e : rd_cls im s E q = 3 := by unfold rd_cls rd_c2; rw [rd_if_f hL, rd_if_f h, rd_if_t ht]
        rw [e] at hp; exact hp
    · intro n i _ hi h hn
      have N : ¬ (rd_st im s E i ∧ i < q ∧ q < i + rd_len (im i)) → wY_cls_30 post (nI q) f_cap (nI s) f_nent f_analysed f_pad f_changed f_status f_steps f_pc f_outCount f_depth a_img a_ent a_inS a_reg a_outs a_stack a_mem n (nI (i + 1)) := fun z => hn () fun y => (rd_opd_s.mp y).elim h z
      have hl := rd_len_r (im i)
      refine pk_le s i (fun z => absurd z (by omega)) (fun _ => ?_)
      refine yr_vS hi hs hI hb hS ?_
      refine rd_brb (fun z => nm_r (nI_1 i) (N fun y => z y.1)) (fun z => pk_le q i (fun y => nm_r (nI_1 i) (N (by omega))) (fun y => ⟨pk_in i 64 (by omega), ?_⟩))
      refine yl_len (rd_rd hI i (by omega) (by omega)) z.2.2.1 ?_
      refine pk_le (i + rd_len (im i)) q (fun y2 => nm_r (nI_1 i) (N (by omega))) (fun y2 => ?_) (nI_add _ _) rfl
      have e : rd_cls im s E q = 2 := by unfold rd_cls rd_c2; rw [rd_if_f hL, rd_if_t ⟨i, hi, z, y, y2⟩]
      rw [e] at hp; exact hp
  · have hL : rd_LR im s E q := (hS q hq).mp z
    refine yl_valid (m := im) (by omega) (by omega) (fun i hi x hx post hp => yl_get0 hs hI hi hx hp) hb ?_
    refine rd_brb (fun h => ?_) (fun h => ?_)
    · have e : rd_cls im s E q = 4 := by unfold rd_cls rd_c2; rw [rd_if_t hL, rd_if_f h]
      rw [e] at hp; exact hp
    · have e : rd_cls im s E q = 1 := by unfold rd_cls rd_c2; rw [rd_if_t hL, rd_if_t h]
      rw [e] at hp; exact hp
theorem yr_fs {ne : Nat} {en : Nat → Nat} {q : Nat} (hq : q < 2 ^ 30) (hs : s ≤ 64) (hI : ∀ j, j < 64 → a_img j = nI (im j)) (hb : ∀ j, im j < 256) (hS : ∀ q, q < s → (rd_nz a_inS q ↔ rd_LR im s E q)) (hne8 : ne ≤ 8) (hEn : ∀ e, e < ne → a_ent e = nI (en e) ∧ en e < s) (hEE : ∀ q, E q ↔ ∃ e, e < ne ∧ en e = q) (hp : post (rd_b (rd_fs im s E q))) : wpY_isF0 post (f_cap, nI s, nI ne, f_analysed, f_pad, f_changed, f_status, f_steps, f_pc, f_outCount, f_depth, a_img, a_ent, a_inS, a_reg, a_outs, a_stack, a_mem) (nI q) := by
  refine pk_loop (fun n i (_ : Unit) => wY_isF0_2 post (nI q) f_cap (nI s) (nI ne) f_analysed f_pad f_changed f_status f_steps f_pc f_outCount f_depth a_img a_ent a_inS a_reg a_outs a_stack a_mem n (nI i)) (fun i _ => ∀ e, e < i → en e ≠ q) ne 0 () (by omega) (fun e he => absurd he (by omega)) ?_ ?_
  · intro n _ h
    have hE : ¬ E q := fun z => by
      obtain ⟨e, he, hh⟩ := (hEE q).mp z
      exact h e he hh
    refine pk_le ne ne (fun _ => ?_) (fun z => absurd z (by omega))
    refine pk_loop (fun n i (_ : Unit) => wY_isF0_30 post (nI q) f_cap (nI s) (nI ne) f_analysed f_pad f_changed f_status f_steps f_pc f_outCount f_depth a_img a_ent a_inS a_reg a_outs a_stack a_mem n (nI i)) (fun i _ => ¬ rd_cal im s E i q) s 0 () (by omega) rd_cal_0 ?_ ?_
    · intro n _ h
      exact pk_le s s (fun _ => rd_pf hp fun z => z.elim hE h) (fun z => absurd z (by omega))
    · intro n i _ hi h hn
      have N : ¬ (rd_st im s E i ∧ im i = 11 ∧ im (i + 1) = q) → wY_isF0_30 post (nI q) f_cap (nI s) (nI ne) f_analysed f_pad f_changed f_status f_steps f_pc f_outCount f_depth a_img a_ent a_inS a_reg a_outs a_stack a_mem n (nI (i + 1)) := fun z => hn () fun y => (rd_cal_s.mp y).elim h z
      have bi := hb i
      have bi1 := hb (i + 1)
      refine pk_le s i (fun z => absurd z (by omega)) (fun _ => ?_)
      refine yr_vS hi hs hI hb hS ?_
      refine rd_brb (fun z => nm_r (nI_1 i) (N fun y => z y.1)) (fun z => ⟨pk_in i 64 (by omega), pk_eq (im i) 11 (fun e => ?_) (fun e => nm_r (nI_1 i) (N fun y => e y.2.1)) (rd_rd hI i (by omega) (by omega)) rfl⟩)
      have hle := z.2.2.2.1
      have el : rd_len (im i) = 2 := by rw [e]; rfl
      exact ⟨pk_in (i + 1) 64 (by omega) (nI_1 i), pk_eq (im (i + 1)) q (fun y => rd_pt hp (Or.inr ⟨i, hi, z, e, y⟩)) (fun y => nm_r (nI_1 i) (N fun w => y w.2.2)) (rd_rd hI (i + 1) (by omega) (by omega) (nI_1 i)) rfl⟩
  · intro n i _ hi h hn
    obtain ⟨h1, h2⟩ := hEn i hi
    refine pk_le ne i (fun z => absurd z (by omega)) (fun _ => ⟨pk_in i 8 (by omega), pk_eq (en i) q (fun e => rd_pt hp (Or.inl ((hEE q).mpr ⟨i, hi, e⟩))) (fun e => nm_r (nI_1 i) (hn () fun e' he' => ?_)) ?_ rfl⟩)
    · by_cases ee : e' = i
      · rw [ee]; exact e
      · exact h e' (by omega)
    · rw [nI_clamp (by omega)]; exact h1
theorem yr_m0 {ne pd : Nat} {en : Nat → Nat} {a : Nat} {x : Int32} (hx : x = nI a) (ha : a < s) (hs : s ≤ 64) (hI : ∀ j, j < 64 → a_img j = nI (im j)) (hb : ∀ j, im j < 256) (hS : ∀ q, q < s → (rd_nz a_inS q ↔ rd_LR im s E q)) (hne8 : ne ≤ 8) (hEn : ∀ e, e < ne → a_ent e = nI (en e) ∧ en e < s) (hEE : ∀ q, E q ↔ ∃ e, e < ne ∧ en e = q) (hp : post (nI (rd_na im s E pd a))) : wpY_m0 post (f_cap, nI s, nI ne, f_analysed, nI pd, f_changed, f_status, f_steps, f_pc, f_outCount, f_depth, a_img, a_ent, a_inS, a_reg, a_outs, a_stack, a_mem) x := by
  subst hx
  have e1 : rd_cnt (rd_G im s E) 1 = 0 := Nat.le_zero.mp (rd_G_le im s E 0)
  suffices L : ∃ n, wY_m0_4 post (nI a) f_cap (nI s) (nI ne) f_analysed (nI pd) f_changed f_status f_steps f_pc f_outCount f_depth a_img a_ent a_inS a_reg a_outs a_stack a_mem n (nI (rd_cnt (rd_G im s E) 1)) (nI 1) by
    rw [e1] at L; exact L
  refine pk_loop (fun n i (_ : Unit) => wY_m0_4 post (nI a) f_cap (nI s) (nI ne) f_analysed (nI pd) f_changed f_status f_steps f_pc f_outCount f_depth a_img a_ent a_inS a_reg a_outs a_stack a_mem n (nI (rd_cnt (rd_G im s E) i)) (nI i)) (fun i _ => 1 ≤ i) (a + 1) 1 () (by omega) (Nat.le_refl 1) ?_ ?_
  · intro n _ _
    refine pk_lt a (a + 1) (fun _ => ?_) (fun z => absurd z (by omega))
    rw [pk_mul, nI_add]; exact hp
  · intro n i _ hi h1 hn
    have h := hn () (by omega)
    refine pk_lt a i (fun z => absurd z (by omega)) (fun _ => ?_)
    refine yr_fs (by omega) hs hI hb hS hne8 hEn hEE ?_
    refine rd_brb (fun z => nm_r (nI_1 i) ?_) (fun z => nm_r (nI_1 _) (nm_r (nI_1 i) ?_))
    · rw [rd_cnt_f (fun y : rd_G im s E i => z y.2)] at h; exact h
    · rw [rd_cnt_t (P := rd_G im s E) ⟨h1, z⟩] at h; exact h
theorem yr_os {ne pd : Nat} {en : Nat → Nat} (h0 : 0 < s) (hs : s ≤ 64) (hI : ∀ j, j < 64 → a_img j = nI (im j)) (hb : ∀ j, im j < 256) (hS : ∀ q, q < s → (rd_nz a_inS q ↔ rd_LR im s E q)) (hne8 : ne ≤ 8) (hEn : ∀ e, e < ne → a_ent e = nI (en e) ∧ en e < s) (hEE : ∀ q, E q ↔ ∃ e, e < ne ∧ en e = q) (hp : post (nI (rd_os im s E pd))) : wpY_outSize0 post (f_cap, nI s, nI ne, f_analysed, nI pd, f_changed, f_status, f_steps, f_pc, f_outCount, f_depth, a_img, a_ent, a_inS, a_reg, a_outs, a_stack, a_mem) := by
  have e1 : rd_cnt (rd_G im s E) 1 = 0 := Nat.le_zero.mp (rd_G_le im s E 0)
  suffices L : ∃ n, wY_outSize0_4 post f_cap (nI s) (nI ne) f_analysed (nI pd) f_changed f_status f_steps f_pc f_outCount f_depth a_img a_ent a_inS a_reg a_outs a_stack a_mem n (nI (rd_cnt (rd_G im s E) 1)) (nI 1) by
    rw [e1] at L; exact L
  refine pk_loop (fun n i (_ : Unit) => wY_outSize0_4 post f_cap (nI s) (nI ne) f_analysed (nI pd) f_changed f_status f_steps f_pc f_outCount f_depth a_img a_ent a_inS a_reg a_outs a_stack a_mem n (nI (rd_cnt (rd_G im s E) i)) (nI i)) (fun i _ => 1 ≤ i) s 1 () (by omega) (Nat.le_refl 1) ?_ ?_
  · intro n _ _
    refine pk_le s s (fun _ => ?_) (fun z => absurd z (by omega))
    rw [pk_mul, nI_add]; exact hp
  · intro n i _ hi h1 hn
    have h := hn () (by omega)
    refine pk_le s i (fun z => absurd z (by omega)) (fun _ => ?_)
    refine yr_fs (by omega) hs hI hb hS hne8 hEn hEE ?_
    refine rd_brb (fun z => nm_r (nI_1 i) ?_) (fun z => nm_r (nI_1 _) (nm_r (nI_1 i) ?_))
    · rw [rd_cnt_f (fun y : rd_G im s E i => z y.2)] at h; exact h
    · rw [rd_cnt_t (P := rd_G im s E) ⟨h1, z⟩] at h; exact h
theorem yr_out {ne pd : Nat} {en : Nat → Nat} {i : Nat} (hi30 : i < 2 ^ 30) (h0 : 0 < s) (hpd : pd ≤ 3) (hs : s ≤ 64) (hI : ∀ j, j < 64 → a_img j = nI (im j)) (hb : ∀ j, im j < 256) (hS : ∀ q, q < s → (rd_nz a_inS q ↔ rd_LR im s E q)) (hne8 : ne ≤ 8) (hEn : ∀ e, e < ne → a_ent e = nI (en e) ∧ en e < s) (hEE : ∀ q, E q ↔ ∃ e, e < ne ∧ en e = q) (hp : post (nI (rd_ob im s E pd i))) : wpY_out0 post (f_cap, nI s, nI ne, f_analysed, nI pd, f_changed, f_status, f_steps, f_pc, f_outCount, f_depth, a_img, a_ent, a_inS, a_reg, a_outs, a_stack, a_mem) (nI i) := by
  have hos := rd_os_le im E h0 hs hpd
  refine pk_loop (fun n q (_ : Unit) => wY_out0_2 post (nI i) f_cap (nI s) (nI ne) f_analysed (nI pd) f_changed f_status f_steps f_pc f_outCount f_depth a_img a_ent a_inS a_reg a_outs a_stack a_mem n (nI q)) (fun q _ => ∀ q', q' < q → rd_na im s E pd q' ≠ i) s 0 () (by omega) (fun e he => absurd he (by omega)) ?_ ?_
  · intro n _ h
    refine pk_le s s (fun _ => ?_) (fun z => absurd z (by omega))
    rw [rd_ob_f h] at hp; exact hp
  · intro n q _ hq h hn
    have hna := rd_na_os im E pd hq
    refine pk_le s q (fun z => absurd z (by omega)) (fun _ => ?_)
    refine yr_m0 rfl hq hs hI hb hS hne8 hEn hEE ?_
    refine pk_eq (rd_na im s E pd q) i (fun e => ?_) (fun e => nm_r (nI_1 q) (hn () fun q' hq' => ?_))
    · rw [← e, rd_ob_t hq] at hp
      refine yr_sym hq hs hI hb hS ?_
      refine rd_brb (fun z => ⟨pk_in q 64 (by omega), ?_⟩) (fun z => ⟨pk_in q 64 (by omega), ?_⟩)
      · rw [nI_clamp (by omega), hI q (by omega)]
        unfold rd_val at hp
        rw [rd_if_f z] at hp; exact hp
      · refine yr_m0 (rd_rd hI q (by omega) (by omega)) z.1 hs hI hb hS hne8 hEn hEE ?_
        unfold rd_val at hp
        rw [rd_if_t z] at hp; exact hp
    · by_cases ee : q' = q
      · rw [ee]; exact e
      · exact h q' (by omega)
theorem yr_count {ne pd : Nat} {en : Nat → Nat} {j : Nat} (hj : j ≤ 8) (hs : s ≤ 64) (hI : ∀ j, j < 64 → a_img j = nI (im j)) (hb : ∀ j, im j < 256) (hS : ∀ q, q < s → (rd_nz a_inS q ↔ rd_LR im s E q)) (hne8 : ne ≤ 8) (hEn : ∀ e, e < ne → a_ent e = nI (en e) ∧ en e < s) (hEE : ∀ q, E q ↔ ∃ e, e < ne ∧ en e = q) (hp : post (nI (rd_cnt (rd_ck im s E j) s))) : wpY_count post (f_cap, nI s, nI ne, 1, nI pd, f_changed, f_status, f_steps, f_pc, f_outCount, f_depth, a_img, a_ent, a_inS, a_reg, a_outs, a_stack, a_mem) (nI j) := by
  refine pk_eq j 9 (fun z => absurd z (by omega)) (fun _ => pk_eq j 10 (fun z => absurd z (by omega)) (fun _ => br_f (rd_lt0 (by omega)) (pk_lt 8 j (fun z => absurd z (by omega)) (fun _ => br_f (by decide) ?_))))
  refine pk_loop (fun n i (_ : Unit) => wY_count_45 post (nI j) f_cap (nI s) (nI ne) 1 (nI pd) f_changed f_status f_steps f_pc f_outCount f_depth a_img a_ent a_inS a_reg a_outs a_stack a_mem n (nI (rd_cnt (rd_ck im s E j) i)) (nI i)) (fun _ _ => True) s 0 () (by omega) trivial ?_ ?_
  · intro n _ _
    exact pk_le s s (fun _ => hp) (fun z => absurd z (by omega))
  · intro n i _ hi _ hn
    have h := hn () trivial
    have Ht : rd_ck im s E j i → wY_count_45 post (nI j) f_cap (nI s) (nI ne) 1 (nI pd) f_changed f_status f_steps f_pc f_outCount f_depth a_img a_ent a_inS a_reg a_outs a_stack a_mem n (nI (rd_cnt (rd_ck im s E j) i + 1)) (nI (i + 1)) := fun z => by
      rw [rd_cnt_t z] at h; exact h
    have Hf : ¬ rd_ck im s E j i → wY_count_45 post (nI j) f_cap (nI s) (nI ne) 1 (nI pd) f_changed f_status f_steps f_pc f_outCount f_depth a_img a_ent a_inS a_reg a_outs a_stack a_mem n (nI (rd_cnt (rd_ck im s E j) i)) (nI (i + 1)) := fun z => by
      rw [rd_cnt_f z] at h; exact h
    generalize rd_cnt (rd_ck im s E j) i = c at Ht Hf ⊢
    refine pk_le s i (fun z => absurd z (by omega)) (fun _ => ?_)
    by_cases h4 : j ≤ 4
    · have K : ∀ c : Nat, (wY_count_45 post (nI j) f_cap (nI s) (nI ne) 1 (nI pd) f_changed f_status f_steps f_pc f_outCount f_depth a_img a_ent a_inS a_reg a_outs a_stack a_mem n) (nI c) (nI (i + 1)) → wY_count_70 post (wY_count_45 post (nI j) f_cap (nI s) (nI ne) 1 (nI pd) f_changed f_status f_steps f_pc f_outCount f_depth a_img a_ent a_inS a_reg a_outs a_stack a_mem n) (nI j) (nI c) (nI i) f_cap (nI s) (nI ne) 1 (nI pd) f_changed f_status f_steps f_pc f_outCount f_depth a_img a_ent a_inS a_reg a_outs a_stack a_mem := by
        intro c hc
        exact pk_eq j 5 (fun z => absurd z (by omega)) (fun _ => pk_eq j 6 (fun z => absurd z (by omega)) (fun _ => pk_eq j 7 (fun z => absurd z (by omega)) (fun _ => pk_eq j 8 (fun z => absurd z (by omega)) (fun _ => nm_r (nI_1 i) hc))))
      refine pk_lt 4 j (fun z => absurd z (by omega)) (fun _ => ?_)
      refine yr_cls hi hs hI hb hS ?_
      exact br_c (fun z => nm_r (nI_1 _) (K _ (Ht ((rd_ck_c h4).mpr z)))) (fun z => K _ (Hf fun y => z ((rd_ck_c h4).mp y)))
    · refine pk_lt 4 j (fun _ => ?_) (fun z => absurd z (by omega))
      refine pk_eq j 5 (fun e => ?_) (fun e5 => ?_)
      · subst e
        have K : ∀ c : Nat, (wY_count_45 post (nI 5) f_cap (nI s) (nI ne) 1 (nI pd) f_changed f_status f_steps f_pc f_outCount f_depth a_img a_ent a_inS a_reg a_outs a_stack a_mem n) (nI c) (nI (i + 1)) → wY_count_86 post (wY_count_45 post (nI 5) f_cap (nI s) (nI ne) 1 (nI pd) f_changed f_status f_steps f_pc f_outCount f_depth a_img a_ent a_inS a_reg a_outs a_stack a_mem n) (nI 5) (nI c) (nI i) f_cap (nI s) (nI ne) 1 (nI pd) f_changed f_status f_steps f_pc f_outCount f_depth a_img a_ent a_inS a_reg a_outs a_stack a_mem := fun c hc => br_f (by decide) (br_f (by decide) (br_f (by decide) (nm_r (nI_1 i) hc)))
        refine yr_fs (by omega) hs hI hb hS hne8 hEn hEE ?_
        exact rd_brb (fun z => K _ (Hf fun y => z (rd_ck_5.mp y))) (fun z => nm_r (nI_1 _) (K _ (Ht (rd_ck_5.mpr z))))
      refine pk_eq j 6 (fun e => ?_) (fun e6 => ?_)
      · subst e
        have K : ∀ c : Nat, (wY_count_45 post (nI 6) f_cap (nI s) (nI ne) 1 (nI pd) f_changed f_status f_steps f_pc f_outCount f_depth a_img a_ent a_inS a_reg a_outs a_stack a_mem n) (nI c) (nI (i + 1)) → wY_count_103 post (wY_count_45 post (nI 6) f_cap (nI s) (nI ne) 1 (nI pd) f_changed f_status f_steps f_pc f_outCount f_depth a_img a_ent a_inS a_reg a_outs a_stack a_mem n) (nI 6) (nI c) (nI i) f_cap (nI s) (nI ne) 1 (nI pd) f_changed f_status f_steps f_pc f_outCount f_depth a_img a_ent a_inS a_reg a_outs a_stack a_mem := fun c hc => br_f (by decide) (br_f (by decide) (nm_r (nI_1 i) hc))
        refine yr_sym hi hs hI hb hS ?_
        exact rd_brb (fun z => K _ (Hf fun y => z (rd_ck_6.mp y))) (fun z => nm_r (nI_1 _) (K _ (Ht (rd_ck_6.mpr z))))
      refine pk_eq j 7 (fun e => ?_) (fun e7 => ?_)
      · subst e
        have K : ∀ c : Nat, (wY_count_45 post (nI 7) f_cap (nI s) (nI ne) 1 (nI pd) f_changed f_status f_steps f_pc f_outCount f_depth a_img a_ent a_inS a_reg a_outs a_stack a_mem n) (nI c) (nI (i + 1)) → wY_count_120 post (wY_count_45 post (nI 7) f_cap (nI s) (nI ne) 1 (nI pd) f_changed f_status f_steps f_pc f_outCount f_depth a_img a_ent a_inS a_reg a_outs a_stack a_mem n) (nI 7) (nI c) (nI i) f_cap (nI s) (nI ne) 1 (nI pd) f_changed f_status f_steps f_pc f_outCount f_depth a_img a_ent a_inS a_reg a_outs a_stack a_mem := fun c hc => br_f (by decide) (nm_r (nI_1 i) hc)
        refine yr_bd hi hs hI hb hS ?_
        exact rd_brb (fun z => K _ (Hf fun y => z (rd_ck_7.mp y))) (fun z => nm_r (nI_1 _) (K _ (Ht (rd_ck_7.mpr z))))
      have e8 : j = 8 := by omega
      subst e8
      refine br_t (by decide) ?_
      have bi := hb i
      have hr := rd_rd hI i (by omega) (by omega) (x := nI i)
      have K : rd_st im s E i → ¬ (im i = 13 ∧ rd_tl im s i = 0) → wY_count_153 post (wY_count_45 post (nI 8) f_cap (nI s) (nI ne) 1 (nI pd) f_changed f_status f_steps f_pc f_outCount f_depth a_img a_ent a_inS a_reg a_outs a_stack a_mem n) (nI 8) (nI c) (nI i) f_cap (nI s) (nI ne) 1 (nI pd) f_changed f_status f_steps f_pc f_outCount f_depth a_img a_ent a_inS a_reg a_outs a_stack a_mem := by
        intro z hz
        exact ⟨pk_in i 64 (by omega), pk_eq (im i) 14 (fun e => nm_r (nI_1 _) (nm_r (nI_1 i) (Ht (rd_ck_8.mpr ⟨z, Or.inl e⟩)))) (fun e => nm_r (nI_1 i) (Hf fun y => (rd_ck_8.mp y).2.elim e hz)) hr rfl⟩
      refine yr_vS hi hs hI hb hS ?_
      refine rd_brb (fun z => nm_r (nI_1 i) (Hf fun y => z (rd_ck_8.mp y).1)) (fun z => ⟨pk_in i 64 (by omega), pk_eq (im i) 13 (fun e => ?_) (fun e => K z fun y => e y.1) hr rfl⟩)
      refine yr_bd hi hs hI hb hS ?_
      refine rd_brb (fun y => nm_r (nI_1 _) (nm_r (nI_1 i) (Ht (rd_ck_8.mpr ⟨z, Or.inr ⟨e, ?_⟩⟩)))) (fun y => K z fun w => ?_)
      · have : ¬ 0 < rd_tl im s i := fun w => y ⟨z, w⟩
        omega
      · have := y.2; omega
end
