/-! Y: the reached set, and analyse -/
section
variable {f_cap f_size f_nent f_analysed f_pad f_changed f_status f_steps f_pc f_outCount f_depth : Int32} {a_img a_ent a_inS a_reg a_outs a_stack a_mem : Nat → Int32} {im : Nat → Nat} {s : Nat} {E R0 : Nat → Prop} {post : SY → Prop}
/-- what the flag says of a pass that began at R0 -/
def rd_Ch (s : Nat) (R0 : Nat → Prop) (c : Int32) (S : Nat → Int32) : Prop :=
  (c = 0 → ∀ q, q < s → rd_nz S q → R0 q) ∧ (¬ c = 0 → ∃ q, q < s ∧ rd_nz S q ∧ ¬ R0 q) ∧ (∀ q, q < s → R0 q → rd_nz S q)
theorem yl_mark {a : Nat} {x : Int32} (hx : x = nI a) (hs : s ≤ 64) (ha : a < 2 ^ 31) (hp : ∀ c S, (∀ q, q < s → (rd_nz S q ↔ (rd_nz a_inS q ∨ q = a))) → (rd_Ch s R0 f_changed a_inS → rd_Ch s R0 c S) → post (f_cap, nI s, f_nent, f_analysed, f_pad, c, f_status, f_steps, f_pc, f_outCount, f_depth, a_img, a_ent, S, a_reg, a_outs, a_stack, a_mem)) : wpY_mark post (f_cap, nI s, f_nent, f_analysed, f_pad, f_changed, f_status, f_steps, f_pc, f_outCount, f_depth, a_img, a_ent, a_inS, a_reg, a_outs, a_stack, a_mem) x := by
  subst hx
  refine br_f (rd_lt0 (by omega)) (pk_le s a (fun h => hp _ _ (fun q hq => ⟨Or.inl, fun z => z.resolve_right (by omega)⟩) id) (fun h => ⟨pk_in a 64 (by omega), rd_br0 (by omega) (fun z => ⟨pk_in a 64 (by omega), nm_r (e' := upd a_inS a 1) ?_ (hp _ _ (fun q _ => rd_nz_u) fun hC => ?_)⟩) (fun z => hp _ _ (fun q hq => ⟨Or.inl, fun y => y.elim id fun e => by rw [e]; exact z⟩) id)⟩))
  · rw [rd_nb1, nI_clamp ha]
  · refine ⟨fun e => absurd e (by decide), fun _ => ⟨a, h, rd_nz_u.mpr (Or.inr rfl), fun hr => hC.2.2 a h hr z⟩, fun q hq hr => rd_nz_u.mpr (Or.inl (hC.2.2 q hq hr))⟩
theorem yl_succ {p : Nat} (hs : s ≤ 64) (hI : ∀ j, j < 64 → a_img j = nI (im j)) (hb : ∀ j, im j < 256) (hz : rd_nz a_inS p) (ho : rd_ok im s p) (hp : ∀ c S, (∀ q, q < s → (rd_nz S q ↔ (rd_nz a_inS q ∨ rd_sc im s p q))) → (rd_Ch s R0 f_changed a_inS → rd_Ch s R0 c S) → post (f_cap, nI s, f_nent, f_analysed, f_pad, c, f_status, f_steps, f_pc, f_outCount, f_depth, a_img, a_ent, S, a_reg, a_outs, a_stack, a_mem)) : wpY_addSucc post (f_cap, nI s, f_nent, f_analysed, f_pad, f_changed, f_status, f_steps, f_pc, f_outCount, f_depth, a_img, a_ent, a_inS, a_reg, a_outs, a_stack, a_mem) (nI p) := by
  have hps := ho.1
  have hle := ho.2.2.1
  have hl := rd_len_r (im p)
  have b1 := hb (p + 1)
  have b2 := hb (p + 2)
  have b3 := hb (p + 3)
  have H0 : (∀ q, ¬ rd_sc im s p q) → post (f_cap, nI s, f_nent, f_analysed, f_pad, f_changed, f_status, f_steps, f_pc, f_outCount, f_depth, a_img, a_ent, a_inS, a_reg, a_outs, a_stack, a_mem) := fun h => hp _ _ (fun q _ => ⟨Or.inl, fun z => z.resolve_right (h q)⟩) id
  have H2 : rd_len (im p) = 4 → (∀ q, rd_sc im s p q ↔ (q = im (p + 3) ∨ q = p + 4)) → wY_addSucc_81 post (nI p) f_cap (nI s) f_nent f_analysed f_pad f_changed f_status f_steps f_pc f_outCount f_depth a_img a_ent a_inS a_reg a_outs a_stack a_mem := by
    intro h4 h
    refine ⟨pk_in (p + 3) 64 (by omega) (nI_add p 3), ?_⟩
    refine yl_mark (R0 := R0) (rd_rd hI (p + 3) (by omega) (by omega) (nI_add p 3)) hs (by omega) (fun c S hS hC => ?_)
    exact yl_mark (R0 := R0) (nI_add p 4) hs (by omega) fun c2 S2 hS2 hC2 => hp c2 S2 (fun q hq => by rw [hS2 q hq, hS q hq, h q, or_assoc]) (fun z => hC2 (hC z))
  refine ⟨pk_in p 64 (by omega), nm_r (rd_rd hI p (by omega) (by omega)) ?_⟩
  rcases rd_op15 ho.2.1 with e | e | e | e | e | e | e | e | e | e | e | e | e | e | e
  all_goals (repeat (first | refine br_t (by rw [e]; decide) ?_ | refine br_f (by rw [e]; decide) ?_))
  · exact H0 fun q => rd_sc_n (by omega)
  · exact yl_mark (R0 := R0) (nI_add p 1) hs (by omega) fun c S hS hC => hp c S (fun q hq => by rw [hS q hq, rd_sc_q (by omega), e]; exact Iff.rfl) hC
  · exact yl_mark (R0 := R0) (nI_add p 3) hs (by omega) fun c S hS hC => hp c S (fun q hq => by rw [hS q hq, rd_sc_q (by omega), e]; exact Iff.rfl) hC
  · exact yl_mark (R0 := R0) (nI_add p 3) hs (by omega) fun c S hS hC => hp c S (fun q hq => by rw [hS q hq, rd_sc_q (by omega), e]; exact Iff.rfl) hC
  · exact yl_mark (R0 := R0) (nI_add p 3) hs (by omega) fun c S hS hC => hp c S (fun q hq => by rw [hS q hq, rd_sc_q (by omega), e]; exact Iff.rfl) hC
  · exact yl_mark (R0 := R0) (nI_add p 3) hs (by omega) fun c S hS hC => hp c S (fun q hq => by rw [hS q hq, rd_sc_q (by omega), e]; exact Iff.rfl) hC
  · exact yl_mark (R0 := R0) (nI_add p 4) hs (by omega) fun c S hS hC => hp c S (fun q hq => by rw [hS q hq, rd_sc_q (by omega), e]; exact Iff.rfl) hC
  · exact yl_mark (R0 := R0) (nI_add p 2) hs (by omega) fun c S hS hC => hp c S (fun q hq => by rw [hS q hq, rd_sc_q (by omega), e]; exact Iff.rfl) hC
  · have el : rd_len (im p) = 2 := by rw [e]; rfl
    refine ⟨pk_in (p + 1) 64 (by omega) (nI_1 p), ?_⟩
    exact yl_mark (R0 := R0) (rd_rd hI (p + 1) (by omega) (by omega) (nI_1 p)) hs (by omega) fun c S hS hC => hp c S (fun q hq => by rw [hS q hq, rd_sc_8 e]) hC
  · have el : rd_len (im p) = 4 := by rw [e]; rfl
    exact H2 el fun q => rd_sc_9 (by omega)
  · have el : rd_len (im p) = 4 := by rw [e]; rfl
    exact H2 el fun q => rd_sc_9 (by omega)
  · have el : rd_len (im p) = 2 := by rw [e]; rfl
    refine ⟨pk_in (p + 1) 64 (by omega) (nI_1 p), ?_⟩
    refine yl_mark (R0 := R0) (rd_rd hI (p + 1) (by omega) (by omega) (nI_1 p)) hs (by omega) fun c S hS hC => ?_
    exact yl_mark (R0 := R0) (nI_add p 2) hs (by omega) fun c2 S2 hS2 hC2 => hp c2 S2 (fun q hq => by rw [hS2 q hq, hS q hq, rd_sc_11 e, or_assoc]) (fun z => hC2 (hC z))
  · exact H0 fun q => rd_sc_n (by omega)
  · refine yl_bd hps hs hI hb ?_
    refine rd_brb (fun h => H0 fun q hq => ?_) (fun h => ?_)
    · obtain ⟨j, hj, -⟩ := (rd_sc_13 e).mp hq
      exact h ⟨⟨hz, ho⟩, by omega⟩
    · have ht := rd_tl_le h.2
      have el : rd_len (im p) = 3 := by rw [e]; rfl
      have h4 := ht.1.2.1
      have s2 : nI p - 2 = nI (p - 2) := pk_sub (b := 2) (by omega)
      refine ⟨pk_in (p + 2) 64 (by omega) (nI_add p 2), nm_r (rd_rd hI (p + 2) (by omega) (by omega) (nI_add p 2)) ⟨pk_in (p - 2) 64 (by omega) s2, nm_r (e' := nI (rd_tl im s p)) ?_ ?_⟩⟩
      · rw [rd_rd hI (p - 2) (by omega) (by omega) s2, ht.2.1]
      refine pk_loop (fun n i (σ : Int32 × (Nat → Int32)) => wY_addSucc_137 post (nI (im (p + 2))) (nI (rd_tl im s p)) n (nI i) f_cap (nI s) f_nent f_analysed f_pad σ.1 f_status f_steps f_pc f_outCount f_depth a_img a_ent σ.2 a_reg a_outs a_stack a_mem)
        (fun i σ => (∀ q, q < s → (rd_nz σ.2 q ↔ (rd_nz a_inS q ∨ ∃ j, j < i ∧ q = im (im (p + 2) + j)))) ∧ (rd_Ch s R0 f_changed a_inS → rd_Ch s R0 σ.1 σ.2)) (rd_tl im s p) 0 (f_changed, a_inS) (by omega) ?_ ?_ ?_
      · exact ⟨fun q _ => ⟨Or.inl, fun z => z.elim id fun ⟨j, hj, _⟩ => absurd hj (by omega)⟩, id⟩
      · rintro n ⟨c, S⟩ ⟨hS, hC⟩
        exact pk_le (rd_tl im s p) (rd_tl im s p) (fun _ => hp c S (fun q hq => by rw [hS q hq, rd_sc_13 e]) hC) (fun z => absurd z (by omega))
      · rintro n i ⟨c, S⟩ hi ⟨hS, hC⟩ hn
        have ci := hb (im (p + 2) + i)
        refine pk_le (rd_tl im s p) i (fun z => absurd z (by omega)) (fun _ => ⟨pk_in (im (p + 2) + i) 64 (by omega) (nI_add _ _), ?_⟩)
        refine yl_mark (R0 := R0) (rd_rd hI (im (p + 2) + i) (by omega) (by omega) (nI_add _ _)) hs (by omega) (fun c2 S2 hS2 hC2 => nm_r (nI_1 i) (hn (c2, S2) ⟨fun q hq => ?_, fun z => hC2 (hC z)⟩))
        show rd_nz S2 q ↔ _
        rw [hS2 q hq]
        have h1 := hS q hq
        dsimp only at h1
        rw [h1]
        constructor
        · rintro ((z | ⟨j, hj, e⟩) | z)
          · exact Or.inl z
          · exact Or.inr ⟨j, by omega, e⟩
          · exact Or.inr ⟨i, by omega, z⟩
        · rintro (z | ⟨j, hj, e⟩)
          · exact Or.inl (Or.inl z)
          · by_cases ej : j = i
            · exact Or.inr (by rw [e, ej])
            · exact Or.inl (Or.inr ⟨j, by omega, e⟩)
  · exact H0 fun q => rd_sc_n (by omega)
theorem yl_analyse {post : Int32 → SY → Prop} {ne pd : Nat} {en : Nat → Nat} (h0 : 0 < s) (hne : 0 < ne) (hne8 : ne ≤ 8) (hpd : pd ≤ 3) (hs : s ≤ 64) (hI : ∀ j, j < 64 → a_img j = nI (im j)) (hb : ∀ j, im j < 256) (hEn : ∀ e, e < ne → a_ent e = nI (en e) ∧ en e < s) (hEE : ∀ q, E q ↔ ∃ e, e < ne ∧ en e = q)
    (hp : ∀ c S, (∀ q, q < s → (rd_nz S q ↔ rd_LR im s E q)) → post 1 (f_cap, nI s, nI ne, 1, nI pd, c, f_status, f_steps, f_pc, f_outCount, f_depth, a_img, a_ent, S, a_reg, a_outs, a_stack, a_mem)) : wpY_analyse post (f_cap, nI s, nI ne, f_analysed, f_pad, f_changed, f_status, f_steps, f_pc, f_outCount, f_depth, a_img, a_ent, a_inS, a_reg, a_outs, a_stack, a_mem) (nI pd) := by
  refine br_f (rd_lt0 (by omega)) (pk_lt 3 pd (fun z => absurd z (by omega)) (fun _ => pk_eq s 0 (fun z => absurd z (by omega)) (fun _ => pk_eq ne 0 (fun z => absurd z (by omega)) (fun _ => ?_))))
  refine pk_loop (fun n i S => wY_analyse_32 post f_cap (nI s) (nI ne) f_analysed (nI pd) f_changed f_status f_steps f_pc f_outCount f_depth n (nI i) a_img a_ent S a_reg a_outs a_stack a_mem) (fun i S => ∀ q, q < i → S q = 0) 64 0 a_inS (by omega) (fun q hq => absurd hq (by omega)) ?_ ?_
  · intro n S hS
    refine pk_le 64 64 (fun _ => ?_) (fun z => absurd z (by omega))
    refine pk_loop (fun n i S => wY_analyse_53 post f_cap (nI s) (nI ne) f_analysed (nI pd) f_changed f_status f_steps f_pc f_outCount f_depth n (nI i) a_img a_ent S a_reg a_outs a_stack a_mem) (fun i S => ∀ q, q < 64 → (rd_nz S q ↔ ∃ e, e < i ∧ en e = q)) ne 0 S (by omega) ?_ ?_ ?_
    · exact fun q hq => ⟨fun z => absurd (hS q hq) z, fun ⟨e, he, _⟩ => absurd he (by omega)⟩
    · intro n S hS
      refine pk_le ne ne (fun _ => ?_) (fun z => absurd z (by omega))
      refine pk_loop (fun n k (σ : Int32 × (Nat → Int32)) => wY_analyse_81 post n (nI k) f_cap (nI s) (nI ne) f_analysed (nI pd) σ.1 f_status f_steps f_pc f_outCount f_depth a_img a_ent σ.2 a_reg a_outs a_stack a_mem)
        (fun k σ => (∀ q, q < s → E q → rd_nz σ.2 q) ∧ (∀ q, q < s → rd_nz σ.2 q → rd_LR im s E q) ∧ k ≤ rd_cnt (rd_nz σ.2) s) 70 0 (f_changed, S) (by omega) ?_ ?_ ?_
      · exact ⟨fun q hq he => (hS q (by omega)).mpr ((hEE q).mp he), fun q hq hr => rd_LR_e hq ((hEE q).mpr ((hS q (by omega)).mp hr)), Nat.zero_le _⟩
      · rintro n ⟨c, S⟩ ⟨-, -, h⟩
        have := rd_cnt_le (rd_nz S) s
        dsimp only at h
        omega
      · rintro n k ⟨c, S⟩ hk ⟨hJ1, hJ2, hJ3⟩ hn
        dsimp only at hJ1 hJ2 hJ3
        have hks := rd_cnt_le (rd_nz S) s
        refine pk_le 70 k (fun z => absurd z (by omega)) (fun _ => ?_)
        refine pk_loop (fun n' i (σ : Int32 × (Nat → Int32)) => wY_analyse_94 post (wY_analyse_81 post n) (nI k) n' (nI i) f_cap (nI s) (nI ne) f_analysed (nI pd) σ.1 f_status f_steps f_pc f_outCount f_depth a_img a_ent σ.2 a_reg a_outs a_stack a_mem)
          (fun i σ => rd_Ps im s E (rd_nz S) (rd_nz σ.2) i ∧ rd_Ch s (rd_nz S) σ.1 σ.2) s 0 (0, S) (by omega) ?_ ?_ ?_
        · exact ⟨⟨fun _ _ h => h, hJ2, fun p' hp' => absurd hp' (by omega)⟩, fun _ _ _ h => h, fun z => absurd rfl z, fun _ _ h => h⟩
        · rintro n' ⟨c', S'⟩ ⟨hP, hC⟩
          dsimp only at hP hC
          refine pk_le s s (fun _ => br_c (fun e => hp c' S' fun q hq => ?_) (fun e => nm_r (nI_1 k) (hn (c', S') ⟨fun q hq he => hP.1 q hq (hJ1 q hq he), hP.2.1, ?_⟩))) (fun z => absurd z (by omega))
          · refine ⟨hP.2.1 q hq, ?_⟩
            rcases rd_Ps_end hJ1 hP with h | ⟨x, hx, hx1, hx2⟩
            · exact h q hq
            · exact absurd (hC.1 e x hx hx1) hx2
          · obtain ⟨x, hx, hx1, hx2⟩ := hC.2.1 e
            have := rd_cnt_lt hP.1 x hx hx2 hx1
            show k + 1 ≤ rd_cnt (rd_nz S') s
            omega
        · rintro n' i ⟨c', S'⟩ hi ⟨hP, hC⟩ hn'
          dsimp only at hP hC
          refine pk_le s i (fun z => absurd z (by omega)) (fun _ => ?_)
          refine yl_vS hi hs hI hb ?_
          refine rd_brb (fun h => nm_r (nI_1 i) (hn' (c', S') ⟨rd_Ps_skip hP fun h0 ho => h ⟨hP.1 i hi h0, ho⟩, hC⟩)) (fun h => ?_)
          exact yl_succ (R0 := rd_nz S) hs hI hb h.1 h.2 fun c2 S2 hS2 hC2 => nm_r (nI_1 i) (hn' (c2, S2) ⟨rd_Ps_add hP h.1 h.2 hS2, hC2 hC⟩)
    · intro n i S hi hS hn
      obtain ⟨h1, h2⟩ := hEn i hi
      have h1' : a_ent (nI i).toNatClampNeg = nI (en i) := by rw [nI_clamp (by omega)]; exact h1
      refine pk_le ne i (fun z => absurd z (by omega)) (fun _ => ⟨pk_in i 8 (by omega), pk_in (en i) 64 (by omega) h1', nm_r (e' := upd S (en i) 1) ?_ (nm_r (nI_1 i) (hn _ fun q hq => ?_))⟩)
      · rw [h1', nI_clamp (by omega), rd_nb1]
      · rw [rd_nz_u, hS q hq]
        constructor
        · rintro (⟨e, he, h⟩ | h)
          · exact ⟨e, by omega, h⟩
          · exact ⟨i, by omega, h.symm⟩
        · rintro ⟨e, he, h⟩
          by_cases ee : e = i
          · exact Or.inr (by rw [← h, ee])
          · exact Or.inl ⟨e, by omega, h⟩
  · intro n i S hi hS hn
    refine pk_le 64 i (fun z => absurd z (by omega)) (fun _ => ⟨pk_in i 64 (by omega), nm_r (e' := upd S i 0) ?_ (nm_r (nI_1 i) (hn _ fun q hq => ?_))⟩)
    · rw [nI_clamp (by omega), rd_nb0]
    · by_cases e : q = i
      · subst e; exact pk_us
      · rw [pk_un e]; exact hS q (by omega)
end
