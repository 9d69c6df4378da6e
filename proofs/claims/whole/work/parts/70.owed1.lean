/-! what is owed: the start and the calls that change the image -/
theorem i_up {k : Nat} {u : SX} {v : SY} (h : i_Rel k u v) : i_Rel (k + 4) u v := h
theorem rd_bF : rd_b False = 0 := rd_b_f fun h => h
theorem rd_z4_0 : rd_z4 (fun _ => 0) = fun _ => 0 := by
  funext j
  unfold rd_z4 upd
  split
  · rfl
  · split
    · rfl
    · split
      · rfl
      · split <;> rfl
theorem rd_start {c : Nat} (h8 : 8 ≤ c) (h64 : c ≤ 64) : wY_init_84 (fun v => i_Rel 1 (nI c, 0, 0, 0, 0, 0, 0, 0, 0, 0, (fun _ => 0), (fun _ => 0), (fun _ => 0), (fun _ => 0), (fun _ => 0), (fun _ => 0), (fun _ => 0), (fun _ => 0), (fun _ => 0), (fun _ => 0), (fun _ => 0)) v) (nI c) 0 0 0 0 0 0 0 0 0 0 0 (fun _ => 0) (fun _ => 0) (fun _ => 0) (fun _ => 0) (fun _ => 0) (fun _ => 0) (fun _ => 0) := by
  unfold wY_init_84 wpY_reset
  refine yl_clear ?_
  show i_Rel 1 _ _
  rw [rd_z4_0]
  refine ⟨c, 0, 0, 0, fun _ => 0, fun _ => False, False, 0, 0, (0, fun _ => 0, fun _ => 0, 0, fun _ => 0, 0), ?_, ?_, ?_⟩
  · exact ⟨h8, h64, by omega, by omega, fun _ => (by show 0 < 256; omega), fun _ h => h.elim, ⟨by show 0 < 256; omega, rd_By_0, rd_By_0, by show 0 ≤ 8; omega, by show 0 ≤ 16; omega⟩, fun h => h.elim⟩
  · refine ⟨0, fun _ => 0, fun _ => 0, fun _ => 0, fun _ => 0, fun _ => 0, fun _ => 0, fun _ => 0, fun _ => 0, ?_, fun _ => rfl, fun _ => rd_bF.symm, fun h => h.elim⟩
    rw [rd_bF]; rfl
  · refine ⟨0, 0, fun _ => 0, fun _ => 0, fun _ => 0, fun _ => 0, fun _ => 0, ?_, fun _ => rfl, fun e he => absurd he (by omega), fun q => ⟨fun h => h.elim, fun ⟨e, he, _⟩ => absurd he (by omega)⟩, fun h => h.elim⟩
    rw [rd_bF]; rfl
theorem i_vc0 (k0 : Int32) : wpX_init (fun u => wpY_init (fun v => i_Rel 1 u v) k0) k0 := by
  by_cases h8 : 8 ≤ k0
  · by_cases h64 : k0 ≤ 64
    · obtain ⟨c, hc, rfl⟩ := nI_of2 (x := k0) (M := 64) (n := 64) (by decide) (Int32.not_lt.mpr (Int32.le_trans (by decide) h8)) h64
      have hc8 : 8 ≤ c := (nI_leI (a := 8) (by omega) (by omega)).mp h8
      exact br_t h8 (br_t h64 (br_t h8 (br_t h64 (rd_start hc8 hc))))
    · exact br_t h8 (br_f h64 (br_t h8 (br_f h64 (rd_start (c := 64) (by omega) (by omega)))))
  · exact br_f h8 (br_f h8 (rd_start (c := 8) (by omega) (by omega)))
theorem i_vc_reset {k : Nat} {u : SX} {v : SY} (I : i_Rel k u v) (hk : k + 4 ≤ 2049) : wpX_reset (fun u' => wpY_reset (fun v' => i_Rel (k + 4) u' v') v) u := by
  obtain ⟨c, s, ne, pd, im, E, an, st, sp, ms, B, HX, HY⟩ := I; obtain ⟨f_outputSize, a_image, a_entry, a_reached, a_classes, a_symbolic, a_functionStart, a_newAddress, a_output, rfl, hXI, hXE, hXA⟩ := HX; obtain ⟨f_pad, f_changed, a_img, a_ent, a_inS, a_mem, en, rfl, hYI, hYe, hYE, hYA⟩ := HY; obtain ⟨c8, c64, hsc, hne8, hb, hEs, hM, han⟩ := B; have hs : s ≤ 64 := (by omega); have hXI' : ∀ j, j < 64 → a_image j = nI (im j) := (fun j _ => hXI j); have hYI' : ∀ j, j < 64 → a_img j = nI (im j) := (fun j _ => hYI j)
  refine pk_loop (fun n i En => wX_reset_7 _ (nI c) 0 (nI ne) (rd_b an) f_outputSize st sp (nI ms.1) (nI ms.2.2.2.1) (nI ms.2.2.2.2.2) n (nI i) a_image En a_reached a_classes a_symbolic a_functionStart a_newAddress a_output ms.2.1 ms.2.2.1 ms.2.2.2.2.1) (fun i En => ∀ q, (q < i ∨ 64 ≤ q) → En q = 0) 64 0 a_entry (by omega) ?_ ?_ ?_
  · intro q hq
    rw [hXE q]
    exact rd_b_f fun z => by have := hEs q z; omega
  · intro n En hEn
    refine pk_le 64 64 (fun _ => ?_) (fun z => absurd z (by omega))
    refine xl_clear ?_
    show wpY_reset _ _
    unfold wpY_reset
    refine yl_clear ?_
    show i_Rel _ _ _
    refine ⟨c, 0, 0, 0, im, fun _ => False, False, 0, 0, (0, rd_z4 ms.2.1, ms.2.2.1, 0, ms.2.2.2.2.1, 0), ?_, ?_, ?_⟩
    · exact ⟨c8, c64, by omega, by omega, hb, fun _ h => h.elim, ⟨by show 0 < 256; omega, rd_By_z4 hM.2.1, hM.2.2.1, by show 0 ≤ 8; omega, by show 0 ≤ 16; omega⟩, fun h => h.elim⟩
    · refine ⟨f_outputSize, a_image, En, a_reached, a_classes, a_symbolic, a_functionStart, a_newAddress, a_output, ?_, hXI, fun j => ?_, fun h => h.elim⟩
      · rw [rd_bF]; rfl
      · rw [rd_bF]; exact hEn j (by omega)
    · refine ⟨f_pad, f_changed, a_img, a_ent, a_inS, a_mem, en, ?_, hYI, fun e he => absurd he (by omega), fun q => ⟨fun h => h.elim, fun ⟨e, he, _⟩ => absurd he (by omega)⟩, fun h => h.elim⟩
      rw [rd_bF]; rfl
  · intro n i En hi hEn hn
    refine pk_le 64 i (fun z => absurd z (by omega)) (fun _ => ⟨pk_in i 64 (by omega), nm_r (e' := upd En i 0) ?_ (nm_r (nI_1 i) (hn _ fun q hq => ?_))⟩)
    · rw [nI_clamp (by omega), rd_nb0]
    · by_cases e : q = i
      · subst e; exact pk_us
      · rw [pk_un e]; exact hEn q (by omega)
theorem i_vc_putByte {k : Nat} {u : SX} {v : SY} (I : i_Rel k u v) (hk : k + 4 ≤ 2049) (v1 : Int32) : wpX_putByte (fun r u' => wpY_putByte (fun r' v' => r' = r ∧ i_Rel (k + 4) u' v') v v1) u v1 := by
  have I' := i_up I
  obtain ⟨c, s, ne, pd, im, E, an, st, sp, ms, B, HX, HY⟩ := I; obtain ⟨f_outputSize, a_image, a_entry, a_reached, a_classes, a_symbolic, a_functionStart, a_newAddress, a_output, rfl, hXI, hXE, hXA⟩ := HX; obtain ⟨f_pad, f_changed, a_img, a_ent, a_inS, a_mem, en, rfl, hYI, hYe, hYE, hYA⟩ := HY; obtain ⟨c8, c64, hsc, hne8, hb, hEs, hM, han⟩ := B; have hs : s ≤ 64 := (by omega); have hXI' : ∀ j, j < 64 → a_image j = nI (im j) := (fun j _ => hXI j); have hYI' : ∀ j, j < 64 → a_img j = nI (im j) := (fun j _ => hYI j)
  by_cases h0 : v1 < 0
  · exact br_t h0 (br_t h0 ⟨rfl, I'⟩)
  by_cases h255 : 255 < v1
  · exact br_f h0 (br_t h255 (br_f h0 (br_t h255 ⟨rfl, I'⟩)))
  obtain ⟨b, hbb, rfl⟩ := nI_of2 (x := v1) (M := 255) (n := 255) (by decide) h0 (Int32.not_lt.mp h255)
  refine br_f h0 (br_f h255 (pk_lt s c (fun hlt => ⟨pk_in s 64 (by omega), nm_r (e' := upd a_image s (nI b)) (by rw [nI_clamp (by omega)]) (nm_r (nI_1 s) ?_)⟩) (fun hge => br_f h0 (br_f h255 (pk_lt s c (fun z => absurd z (by omega)) (fun _ => ⟨rfl, I'⟩))))))
  refine br_f h0 (br_f h255 (pk_lt s c (fun _ => ⟨pk_in s 64 (by omega), nm_r (e' := upd a_img s (nI b)) (by rw [nI_clamp (by omega)]) (nm_r (nI_1 s) ⟨rfl, ?_⟩)⟩) (fun z => absurd z (by omega))))
  have U : ∀ a : Nat → Int32, (∀ j, a j = nI (im j)) → ∀ j, upd a s (nI b) j = nI (if j = s then b else im j) := by
    intro a ha j
    unfold upd
    split
    · rfl
    · exact ha j
  refine ⟨c, s + 1, ne, pd, fun j => if j = s then b else im j, E, False, st, sp, ms, ?_, ?_, ?_⟩
  · refine ⟨c8, c64, hlt, hne8, fun j => ?_, fun q hq => ?_, hM, fun h => h.elim⟩
    · show (if j = s then b else im j) < 256
      split
      · omega
      · exact hb j
    · have := hEs q hq; omega
  · refine ⟨f_outputSize, upd a_image s (nI b), a_entry, a_reached, a_classes, a_symbolic, a_functionStart, a_newAddress, a_output, ?_, U _ hXI, hXE, fun h => h.elim⟩
    rw [rd_bF]
  · refine ⟨f_pad, f_changed, upd a_img s (nI b), a_ent, a_inS, a_mem, en, ?_, U _ hYI, fun e he => ⟨(hYe e he).1, by have := (hYe e he).2; omega⟩, hYE, fun h => h.elim⟩
    rw [rd_bF]
theorem i_vc_addEntry {k : Nat} {u : SX} {v : SY} (I : i_Rel k u v) (hk : k + 4 ≤ 2049) (v1 : Int32) : wpX_addEntry (fun r u' => wpY_addEntry (fun r' v' => r' = r ∧ i_Rel (k + 4) u' v') v v1) u v1 := by
  have I' := i_up I
  obtain ⟨c, s, ne, pd, im, E, an, st, sp, ms, B, HX, HY⟩ := I; obtain ⟨f_outputSize, a_image, a_entry, a_reached, a_classes, a_symbolic, a_functionStart, a_newAddress, a_output, rfl, hXI, hXE, hXA⟩ := HX; obtain ⟨f_pad, f_changed, a_img, a_ent, a_inS, a_mem, en, rfl, hYI, hYe, hYE, hYA⟩ := HY; obtain ⟨c8, c64, hsc, hne8, hb, hEs, hM, han⟩ := B; have hs : s ≤ 64 := (by omega); have hXI' : ∀ j, j < 64 → a_image j = nI (im j) := (fun j _ => hXI j); have hYI' : ∀ j, j < 64 → a_img j = nI (im j) := (fun j _ => hYI j)
  unfold wpX_addEntry
  by_cases h0 : v1 < 0
  · exact xl_inI_f (Or.inl h0) (br_t rfl (br_t h0 ⟨rfl, I'⟩))
  by_cases h1 : nI s ≤ v1
  · exact xl_inI_f (Or.inr h1) (br_t rfl (br_f h0 (br_t h1 ⟨rfl, I'⟩)))
  obtain ⟨j, hj, rfl⟩ : ∃ j : Nat, j < s ∧ v1 = nI j := by
    rcases pk_ix v1 (n := s) (by omega) with z | z | z
    · exact absurd z h0
    · exact absurd z h1
    · exact z
  have L : ∀ post : Int32 → SY → Prop, (E j → post 0 (nI c, nI s, nI ne, rd_b an, f_pad, f_changed, st, sp, nI ms.1, nI ms.2.2.2.2.2, nI ms.2.2.2.1, a_img, a_ent, a_inS, ms.2.1, ms.2.2.2.2.1, ms.2.2.1, a_mem)) →
      (¬ E j → post 1 (nI c, nI s, nI (ne + 1), 0, f_pad, f_changed, st, sp, nI ms.1, nI ms.2.2.2.2.2, nI ms.2.2.2.1, a_img, upd a_ent ne (nI j), a_inS, ms.2.1, ms.2.2.2.2.1, ms.2.2.1, a_mem)) → ne < 8 →
      ∃ n25 : Nat, wY_addEntry_25 post (nI j) (nI c) (nI s) (nI ne) (rd_b an) f_pad f_changed st sp (nI ms.1) (nI ms.2.2.2.2.2) (nI ms.2.2.2.1) a_img a_ent a_inS ms.2.1 ms.2.2.2.2.1 ms.2.2.1 a_mem n25 0 := by
    intro post hA hN hne
    refine pk_loop (fun n i (_ : Unit) => wY_addEntry_25 post (nI j) (nI c) (nI s) (nI ne) (rd_b an) f_pad f_changed st sp (nI ms.1) (nI ms.2.2.2.2.2) (nI ms.2.2.2.1) a_img a_ent a_inS ms.2.1 ms.2.2.2.2.1 ms.2.2.1 a_mem n (nI i)) (fun i _ => ∀ e, e < i → en e ≠ j) ne 0 () (by omega) (fun e he => absurd he (by omega)) ?_ ?_
    · intro n _ h
      refine pk_le ne ne (fun _ => ⟨pk_in ne 8 (by omega), nm_r (e' := upd a_ent ne (nI j)) (by rw [nI_clamp (by omega)]) (nm_r (nI_1 ne) (hN fun z => ?_))⟩) (fun z => absurd z (by omega))
      obtain ⟨e, he, hh⟩ := (hYE j).mp z
      exact h e he hh
    · intro n i _ hi h hn
      obtain ⟨e1, e2⟩ := hYe i hi
      refine pk_le ne i (fun z => absurd z (by omega)) (fun _ => ⟨pk_in i 8 (by omega), pk_eq (en i) j (fun e => hA ((hYE j).mpr ⟨i, hi, e⟩)) (fun e => nm_r (nI_1 i) (hn () fun e' he' => ?_)) ?_ rfl⟩)
      · by_cases ee : e' = i
        · rw [ee]; exact e
        · exact h e' (by omega)
      · rw [nI_clamp (by omega)]; exact e1
  have hej : a_entry (nI j).toNatClampNeg = rd_b (E j) := by rw [nI_clamp (by omega)]; exact hXE j
  refine xl_inI_t hj hs (br_f (by decide) ⟨pk_in j 64 (by omega), ?_⟩)
  rw [hej]
  refine rd_brb (fun hE => pk_lt ne 8 (fun hne => ⟨pk_in j 64 (by omega), nm_r (e' := upd a_entry j 1) (by rw [nI_clamp (by omega), rd_nb1]) (nm_r (nI_1 ne) ?_)⟩) (fun hne => br_f h0 (br_f h1 (pk_lt ne 8 (fun z => absurd z (by omega)) (fun _ => ⟨rfl, I'⟩))))) (fun hE => br_f h0 (br_f h1 (pk_lt ne 8 (fun hne => L _ (fun _ => ⟨rfl, I'⟩) (fun z => absurd hE z) hne) (fun _ => ⟨rfl, I'⟩))))
  refine br_f h0 (br_f h1 (pk_lt ne 8 (fun _ => L _ (fun z => absurd z hE) (fun _ => ⟨rfl, ?_⟩) hne) (fun z => absurd z (by omega))))
  refine ⟨c, s, ne + 1, pd, im, fun q => E q ∨ q = j, False, st, sp, ms, ?_, ?_, ?_⟩
  · exact ⟨c8, c64, hsc, hne, hb, fun q hq => hq.elim (hEs q) (fun e => by omega), hM, fun h => h.elim⟩
  · refine ⟨f_outputSize, a_image, upd a_entry j 1, a_reached, a_classes, a_symbolic, a_functionStart, a_newAddress, a_output, ?_, hXI, fun q => ?_, fun h => h.elim⟩
    · rw [rd_bF]
    · by_cases e : q = j
      · subst e; rw [pk_us]; exact (rd_b_t (Or.inr rfl)).symm
      · rw [pk_un e, hXE q]
        exact rd_bc ⟨Or.inl, fun z => z.resolve_right e⟩
  · refine ⟨f_pad, f_changed, a_img, upd a_ent ne (nI j), a_inS, a_mem, fun e => if e = ne then j else en e, ?_, hYI, fun e he => ?_, fun q => ?_, fun h => h.elim⟩
    · rw [rd_bF]
    · by_cases ee : e = ne
      · subst ee
        rw [pk_us]
        show nI j = nI (if e = e then j else en e) ∧ (if e = e then j else en e) < s
        rw [if_pos rfl]; exact ⟨rfl, hj⟩
      · rw [pk_un ee]
        show a_ent e = nI (if e = ne then j else en e) ∧ (if e = ne then j else en e) < s
        rw [if_neg ee]; exact hYe e (by omega)
    · constructor
      · rintro (h | h)
        · obtain ⟨e, he, hh⟩ := (hYE q).mp h
          refine ⟨e, by omega, ?_⟩
          show (if e = ne then j else en e) = q
          rw [if_neg (by omega)]; exact hh
        · refine ⟨ne, by omega, ?_⟩
          show (if ne = ne then j else en ne) = q
          rw [if_pos rfl]; exact h.symm
      · rintro ⟨e, he, hh⟩
        have hh' : (if e = ne then j else en e) = q := hh
        by_cases ee : e = ne
        · rw [if_pos ee] at hh'; exact Or.inr hh'.symm
        · rw [if_neg ee] at hh'; exact Or.inl ((hYE q).mpr ⟨e, by omega, hh'⟩)
theorem i_vc_analyse {k : Nat} {u : SX} {v : SY} (I : i_Rel k u v) (hk : k + 4 ≤ 2049) (v1 : Int32) : wpX_analyse (fun r u' => wpY_analyse (fun r' v' => r' = r ∧ i_Rel (k + 4) u' v') v v1) u v1 := by
  have I' := i_up I
  obtain ⟨c, s, ne, pd, im, E, an, st, sp, ms, B, HX, HY⟩ := I; obtain ⟨f_outputSize, a_image, a_entry, a_reached, a_classes, a_symbolic, a_functionStart, a_newAddress, a_output, rfl, hXI, hXE, hXA⟩ := HX; obtain ⟨f_pad, f_changed, a_img, a_ent, a_inS, a_mem, en, rfl, hYI, hYe, hYE, hYA⟩ := HY; obtain ⟨c8, c64, hsc, hne8, hb, hEs, hM, han⟩ := B; have hs : s ≤ 64 := (by omega); have hXI' : ∀ j, j < 64 → a_image j = nI (im j) := (fun j _ => hXI j); have hYI' : ∀ j, j < 64 → a_img j = nI (im j) := (fun j _ => hYI j)
  by_cases h0 : v1 < 0
  · exact br_t h0 (br_t h0 ⟨rfl, I'⟩)
  by_cases h3 : 3 < v1
  · exact br_f h0 (br_t h3 (br_f h0 (br_t h3 ⟨rfl, I'⟩)))
  obtain ⟨pd', hpd, rfl⟩ := nI_of2 (x := v1) (M := 3) (n := 3) (by decide) h0 (Int32.not_lt.mp h3)
  by_cases hs0 : nI s = 0
  · exact br_f h0 (br_f h3 (br_t hs0 (br_f h0 (br_f h3 (br_t hs0 ⟨rfl, I'⟩)))))
  by_cases hn0 : nI ne = 0
  · exact br_f h0 (br_f h3 (br_f hs0 (br_t hn0 (br_f h0 (br_f h3 (br_f hs0 (br_t hn0 ⟨rfl, I'⟩)))))))
  have hs1 : 0 < s := by
    rcases Nat.eq_zero_or_pos s with z | z
    · exact absurd (by rw [z]; rfl) hs0
    · exact z
  have hn1 : 0 < ne := by
    rcases Nat.eq_zero_or_pos ne with z | z
    · exact absurd (by rw [z]; rfl) hn0
    · exact z
  refine xl_analyse hs1 hn1 hne8 hpd hs hXI' hb (fun j _ => hXE j) fun os R C S F A O hA => ?_
  refine yl_analyse hs1 hn1 hne8 hpd hs hYI' hb hYe hYE fun ch T hT => ⟨rfl, ?_⟩
  refine ⟨c, s, ne, pd', im, E, True, st, sp, ms, ?_, ?_, ?_⟩
  · exact ⟨c8, c64, hsc, hne8, hb, hEs, hM, fun _ => ⟨hs1, hpd⟩⟩
  · refine ⟨os, a_image, a_entry, R, C, S, F, A, O, ?_, hXI, hXE, fun _ => hA⟩
    rw [rd_b_t trivial]
  · refine ⟨nI pd', ch, a_img, a_ent, T, a_mem, en, ?_, hYI, hYe, hYE, fun _ => ⟨rfl, hT⟩⟩
    rw [rd_b_t trivial]
