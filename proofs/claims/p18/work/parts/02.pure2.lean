/-! Pure facts: kinds of bytes, symbols, function starts, layout -/
def rd_st (m : Nat → Nat) (s : Nat) (E : Nat → Prop) (p : Nat) : Prop := rd_LR m s E p ∧ rd_ok m s p
def rd_opd (m : Nat → Nat) (s : Nat) (E : Nat → Prop) (k q : Nat) : Prop := ∃ p, p < k ∧ rd_st m s E p ∧ p < q ∧ q < p + rd_len (m p)
def rd_tab (m : Nat → Nat) (s : Nat) (E : Nat → Prop) (k q : Nat) : Prop := ∃ p, p < k ∧ rd_st m s E p ∧ m (p + 2) ≤ q ∧ q < m (p + 2) + rd_tl m s p
/-- the kind of q, where P are the operands so far and T the table bytes so far -/
noncomputable def rd_c2 (m : Nat → Nat) (s : Nat) (E P T : Nat → Prop) (q : Nat) : Int32 :=
  rd_if (rd_LR m s E q) (rd_if (rd_ok m s q) 1 4) (rd_if (P q) 2 (rd_if (T q) 3 0))
noncomputable def rd_cls (m : Nat → Nat) (s : Nat) (E : Nat → Prop) (q : Nat) : Int32 := rd_c2 m s E (rd_opd m s E s) (rd_tab m s E s) q
theorem rd_c2_st {m : Nat → Nat} {s : Nat} {E P T : Nat → Prop} {q : Nat} : rd_c2 m s E P T q = 1 ↔ rd_st m s E q := by
  unfold rd_c2 rd_st
  by_cases h1 : rd_LR m s E q
  · rw [rd_if_t h1]
    by_cases h2 : rd_ok m s q
    · rw [rd_if_t h2]; exact ⟨fun _ => ⟨h1, h2⟩, fun _ => rfl⟩
    · rw [rd_if_f h2]; exact ⟨fun h => absurd h (by decide), fun h => absurd h.2 h2⟩
  · rw [rd_if_f h1]
    refine ⟨fun h => ?_, fun h => absurd h.1 h1⟩
    by_cases h3 : P q
    · rw [rd_if_t h3] at h; exact absurd h (by decide)
    · rw [rd_if_f h3] at h
      by_cases h4 : T q
      · rw [rd_if_t h4] at h; exact absurd h (by decide)
      · rw [rd_if_f h4] at h; exact absurd h (by decide)
theorem rd_c2_0 {m : Nat → Nat} {s : Nat} {E P T : Nat → Prop} {q : Nat} : rd_c2 m s E P T q = 0 ↔ ¬ rd_LR m s E q ∧ ¬ P q ∧ ¬ T q := by
  unfold rd_c2
  by_cases h1 : rd_LR m s E q
  · rw [rd_if_t h1]
    refine ⟨fun h => ?_, fun h => absurd h1 h.1⟩
    by_cases h2 : rd_ok m s q
    · rw [rd_if_t h2] at h; exact absurd h (by decide)
    · rw [rd_if_f h2] at h; exact absurd h (by decide)
  · rw [rd_if_f h1]
    by_cases h3 : P q
    · rw [rd_if_t h3]; exact ⟨fun h => absurd h (by decide), fun h => absurd h3 h.2.1⟩
    · rw [rd_if_f h3]
      by_cases h4 : T q
      · rw [rd_if_t h4]; exact ⟨fun h => absurd h (by decide), fun h => absurd h4 h.2.2⟩
      · rw [rd_if_f h4]; exact ⟨fun _ => ⟨h1, h3, h4⟩, fun _ => rfl⟩
theorem rd_c2_c {m : Nat → Nat} {s : Nat} {E P T P' T' : Nat → Prop} {q : Nat} (hP : P q ↔ P' q) (hT : T q ↔ T' q) : rd_c2 m s E P T q = rd_c2 m s E P' T' q := by
  unfold rd_c2; rw [propext hP, propext hT]
/-- what claiming the range from f to e for kind c makes of the kinds a -/
noncomputable def rd_clm (a : Nat → Int32) (f e : Nat) (c : Int32) : Nat → Int32 := fun j => rd_if (f ≤ j ∧ j < e ∧ a j = 0) c (a j)
theorem rd_clm_0 (a : Nat → Int32) (f : Nat) {e : Nat} (h : e ≤ f) (c : Int32) : rd_clm a f e c = a := by
  funext j; exact rd_if_f (by omega)
theorem rd_clm_t {a : Nat → Int32} {f e : Nat} {c : Int32} (h : f ≤ e) (hz : rd_clm a f e c e = 0) : upd (rd_clm a f e c) e c = rd_clm a f (e + 1) c := by
  have ha : rd_clm a f e c e = a e := rd_if_f (by omega)
  rw [ha] at hz
  funext j
  unfold upd
  by_cases ej : j = e
  · rw [if_pos ej]; subst ej; exact (rd_if_t ⟨h, by omega, hz⟩).symm
  · rw [if_neg ej]
    exact rd_if_c ⟨fun hh => ⟨hh.1, by omega, hh.2.2⟩, fun hh => ⟨hh.1, by omega, hh.2.2⟩⟩ _ _
theorem rd_clm_f {a : Nat → Int32} {f e : Nat} {c : Int32} (hz : ¬ rd_clm a f e c e = 0) : rd_clm a f e c = rd_clm a f (e + 1) c := by
  have ha : rd_clm a f e c e = a e := rd_if_f (by omega)
  rw [ha] at hz
  funext j
  refine rd_if_c ⟨fun hh => ⟨hh.1, by omega, hh.2.2⟩, fun hh => ⟨hh.1, ?_, hh.2.2⟩⟩ _ _
  by_cases ej : j = e
  · subst ej; exact absurd hh.2.2 hz
  · omega
theorem rd_clm_opd {m : Nat → Nat} {s : Nat} {E P : Nat → Prop} {a : Nat → Int32} {f e j : Nat} (h : a j = rd_c2 m s E P (fun _ => False) j) : rd_clm a f e 2 j = rd_c2 m s E (fun q => P q ∨ (f ≤ q ∧ q < e)) (fun _ => False) j := by
  unfold rd_clm
  by_cases hr : f ≤ j ∧ j < e ∧ a j = 0
  · rw [rd_if_t hr]
    have h0 := hr.2.2
    rw [h, rd_c2_0] at h0
    unfold rd_c2
    rw [rd_if_f h0.1, rd_if_t (Or.inr ⟨hr.1, hr.2.1⟩)]
  · rw [rd_if_f hr, h]
    unfold rd_c2
    by_cases h1 : rd_LR m s E j
    · rw [rd_if_t h1, rd_if_t h1]
    · rw [rd_if_f h1, rd_if_f h1]
      by_cases h3 : P j
      · rw [rd_if_t h3, rd_if_t (Or.inl h3)]
      · have : ¬ (P j ∨ (f ≤ j ∧ j < e)) := by
          intro hh
          rcases hh with hh | hh
          · exact h3 hh
          · exact hr ⟨hh.1, hh.2, by rw [h, rd_c2_0]; exact ⟨h1, h3, fun z => z⟩⟩
        rw [rd_if_f h3, rd_if_f this]
theorem rd_clm_tab {m : Nat → Nat} {s : Nat} {E P T : Nat → Prop} {a : Nat → Int32} {f e j : Nat} (h : a j = rd_c2 m s E P T j) : rd_clm a f e 3 j = rd_c2 m s E P (fun q => T q ∨ (f ≤ q ∧ q < e)) j := by
  unfold rd_clm
  by_cases hr : f ≤ j ∧ j < e ∧ a j = 0
  · rw [rd_if_t hr]
    have h0 := hr.2.2
    rw [h, rd_c2_0] at h0
    unfold rd_c2
    rw [rd_if_f h0.1, rd_if_f h0.2.1, rd_if_t (Or.inr ⟨hr.1, hr.2.1⟩)]
  · rw [rd_if_f hr, h]
    unfold rd_c2
    by_cases h1 : rd_LR m s E j
    · rw [rd_if_t h1, rd_if_t h1]
    · rw [rd_if_f h1, rd_if_f h1]
      by_cases h3 : P j
      · rw [rd_if_t h3, rd_if_t h3]
      · rw [rd_if_f h3, rd_if_f h3]
        by_cases h4 : T j
        · rw [rd_if_t h4, rd_if_t (Or.inl h4)]
        · have : ¬ (T j ∨ (f ≤ j ∧ j < e)) := by
            intro hh
            rcases hh with hh | hh
            · exact h4 hh
            · exact hr ⟨hh.1, hh.2, by rw [h, rd_c2_0]; exact ⟨h1, h3, h4⟩⟩
          rw [rd_if_f h4, rd_if_f this]
theorem rd_opd_s {m : Nat → Nat} {s : Nat} {E : Nat → Prop} {k q : Nat} : rd_opd m s E (k + 1) q ↔ (rd_opd m s E k q ∨ (rd_st m s E k ∧ k < q ∧ q < k + rd_len (m k))) := by
  constructor
  · rintro ⟨p, hp, h⟩
    by_cases e : p = k
    · subst e; exact Or.inr h
    · exact Or.inl ⟨p, by omega, h⟩
  · rintro (⟨p, hp, h⟩ | h)
    · exact ⟨p, by omega, h⟩
    · exact ⟨k, by omega, h⟩
theorem rd_tab_s {m : Nat → Nat} {s : Nat} {E : Nat → Prop} {k q : Nat} : rd_tab m s E (k + 1) q ↔ (rd_tab m s E k q ∨ (rd_st m s E k ∧ m (k + 2) ≤ q ∧ q < m (k + 2) + rd_tl m s k)) := by
  constructor
  · rintro ⟨p, hp, h⟩
    by_cases e : p = k
    · subst e; exact Or.inr h
    · exact Or.inl ⟨p, by omega, h⟩
  · rintro (⟨p, hp, h⟩ | h)
    · exact ⟨p, by omega, h⟩
    · exact ⟨k, by omega, h⟩
theorem rd_opd_0 {m : Nat → Nat} {s : Nat} {E : Nat → Prop} {q : Nat} : ¬ rd_opd m s E 0 q := by
  rintro ⟨p, hp, _⟩; omega
theorem rd_tab_0 {m : Nat → Nat} {s : Nat} {E : Nat → Prop} {q : Nat} : ¬ rd_tab m s E 0 q := by
  rintro ⟨p, hp, _⟩; omega
/-- the offset of the address slot, 0 where there is none -/
def rd_slo (op : Nat) : Nat := if op = 8 ∨ op = 11 then 1 else if op = 3 ∨ op = 6 ∨ op = 13 then 2 else if op = 9 ∨ op = 10 then 3 else 0
theorem rd_slo_len : ∀ op, op ≤ 14 → 0 < rd_slo op → rd_slo op < rd_len op := by decide
def rd_slot (m : Nat → Nat) (s : Nat) (E : Nat → Prop) (k q : Nat) : Prop := ∃ p, p < k ∧ rd_st m s E p ∧ 0 < rd_slo (m p) ∧ q = p + rd_slo (m p)
theorem rd_slot_s {m : Nat → Nat} {s : Nat} {E : Nat → Prop} {k q : Nat} : rd_slot m s E (k + 1) q ↔ (rd_slot m s E k q ∨ (rd_st m s E k ∧ 0 < rd_slo (m k) ∧ q = k + rd_slo (m k))) := by
  constructor
  · rintro ⟨p, hp, h⟩
    by_cases e : p = k
    · subst e; exact Or.inr h
    · exact Or.inl ⟨p, by omega, h⟩
  · rintro (⟨p, hp, h⟩ | h)
    · exact ⟨p, by omega, h⟩
    · exact ⟨k, by omega, h⟩
theorem rd_slot_0 {m : Nat → Nat} {s : Nat} {E : Nat → Prop} {q : Nat} : ¬ rd_slot m s E 0 q := by
  rintro ⟨p, hp, _⟩; omega
def rd_sym (m : Nat → Nat) (s : Nat) (E : Nat → Prop) (k q : Nat) : Prop := m q < s ∧ (rd_slot m s E k q ∨ rd_tab m s E k q)
def rd_cal (m : Nat → Nat) (s : Nat) (E : Nat → Prop) (k q : Nat) : Prop := ∃ p, p < k ∧ rd_st m s E p ∧ m p = 11 ∧ m (p + 1) = q
theorem rd_cal_s {m : Nat → Nat} {s : Nat} {E : Nat → Prop} {k q : Nat} : rd_cal m s E (k + 1) q ↔ (rd_cal m s E k q ∨ (rd_st m s E k ∧ m k = 11 ∧ m (k + 1) = q)) := by
  constructor
  · rintro ⟨p, hp, h⟩
    by_cases e : p = k
    · subst e; exact Or.inr h
    · exact Or.inl ⟨p, by omega, h⟩
  · rintro (⟨p, hp, h⟩ | h)
    · exact ⟨p, by omega, h⟩
    · exact ⟨k, by omega, h⟩
theorem rd_cal_0 {m : Nat → Nat} {s : Nat} {E : Nat → Prop} {q : Nat} : ¬ rd_cal m s E 0 q := by
  rintro ⟨p, hp, _⟩; omega
def rd_fs (m : Nat → Nat) (s : Nat) (E : Nat → Prop) (q : Nat) : Prop := E q ∨ rd_cal m s E s q
def rd_G (m : Nat → Nat) (s : Nat) (E : Nat → Prop) (q : Nat) : Prop := 0 < q ∧ rd_fs m s E q
noncomputable def rd_na (m : Nat → Nat) (s : Nat) (E : Nat → Prop) (pd q : Nat) : Nat := q + pd * rd_cnt (rd_G m s E) (q + 1)
noncomputable def rd_os (m : Nat → Nat) (s : Nat) (E : Nat → Prop) (pd : Nat) : Nat := s + pd * rd_cnt (rd_G m s E) s
theorem rd_G_le (m : Nat → Nat) (s : Nat) (E : Nat → Prop) : ∀ n, rd_cnt (rd_G m s E) (n + 1) ≤ n := by
  intro n
  induction n with
  | zero => rw [rd_cnt_f (fun h : rd_G m s E 0 => absurd h.1 (by omega))]; exact Nat.le_refl 0
  | succ n ih =>
    by_cases h : rd_G m s E (n + 1)
    · rw [rd_cnt_t h]; omega
    · rw [rd_cnt_f h]; omega
theorem rd_cnt_up (P : Nat → Prop) {a b : Nat} (h : a ≤ b) : rd_cnt P a ≤ rd_cnt P b := by
  induction h with
  | refl => exact Nat.le_refl _
  | step _ ih =>
    rename_i k _
    by_cases hp : P k
    · have := rd_cnt_t hp; simp only [Nat.succ_eq_add_one]; omega
    · have := rd_cnt_f hp; simp only [Nat.succ_eq_add_one]; omega
theorem rd_na_lt (m : Nat → Nat) (s : Nat) (E : Nat → Prop) (pd : Nat) {a b : Nat} (h : a < b) : rd_na m s E pd a < rd_na m s E pd b := by
  unfold rd_na
  have := Nat.mul_le_mul_left pd (rd_cnt_up (rd_G m s E) (show a + 1 ≤ b + 1 by omega))
  omega
theorem rd_na_inj {m : Nat → Nat} {s : Nat} {E : Nat → Prop} {pd a b : Nat} (h : rd_na m s E pd a = rd_na m s E pd b) : a = b := by
  rcases Nat.lt_trichotomy a b with hl | he | hg
  · have := rd_na_lt m s E pd hl; omega
  · exact he
  · have := rd_na_lt m s E pd hg; omega
theorem rd_na_os (m : Nat → Nat) {s : Nat} (E : Nat → Prop) (pd : Nat) {q : Nat} (h : q < s) : rd_na m s E pd q < rd_os m s E pd := by
  unfold rd_na rd_os
  have := Nat.mul_le_mul_left pd (rd_cnt_up (rd_G m s E) (show q + 1 ≤ s by omega))
  omega
theorem rd_os_le (m : Nat → Nat) {s : Nat} (E : Nat → Prop) {pd : Nat} (h0 : 0 < s) (hs : s ≤ 64) (hp : pd ≤ 3) : rd_os m s E pd ≤ 253 := by
  unfold rd_os
  obtain ⟨k, rfl⟩ : ∃ k, s = k + 1 := ⟨s - 1, by omega⟩
  have h1 := rd_G_le m (k + 1) E k
  have h2 := Nat.mul_le_mul hp h1
  omega
/-- the byte that q brings into the output -/
noncomputable def rd_val (m : Nat → Nat) (s : Nat) (E : Nat → Prop) (pd q : Nat) : Nat := rd_if (rd_sym m s E s q) (rd_na m s E pd (m q)) (m q)
noncomputable def rd_ob (m : Nat → Nat) (s : Nat) (E : Nat → Prop) (pd i : Nat) : Nat :=
  @dite Nat (∃ q, q < s ∧ rd_na m s E pd q = i) (Classical.propDecidable _) (fun h => rd_val m s E pd h.choose) (fun _ => 1)
theorem rd_ob_t {m : Nat → Nat} {s : Nat} {E : Nat → Prop} {pd q : Nat} (h : q < s) : rd_ob m s E pd (rd_na m s E pd q) = rd_val m s E pd q := by
  unfold rd_ob
  have hx : ∃ q', q' < s ∧ rd_na m s E pd q' = rd_na m s E pd q := ⟨q, h, rfl⟩
  rw [dif_pos hx]
  have := hx.choose_spec
  rw [rd_na_inj this.2]
theorem rd_ob_f {m : Nat → Nat} {s : Nat} {E : Nat → Prop} {pd i : Nat} (h : ∀ q, q < s → rd_na m s E pd q ≠ i) : rd_ob m s E pd i = 1 := by
  unfold rd_ob
  rw [dif_neg]
  rintro ⟨q, hq, e⟩
  exact h q hq e
theorem rd_val_lt {m : Nat → Nat} {s : Nat} {E : Nat → Prop} {pd q : Nat} (hm : m q < 256) (h0 : 0 < s) (hs : s ≤ 64) (hp : pd ≤ 3) : rd_val m s E pd q < 256 := by
  unfold rd_val
  by_cases h : rd_sym m s E s q
  · rw [rd_if_t h]
    have h1 := rd_na_os m E pd h.1
    have h2 := rd_os_le m E h0 hs hp
    omega
  · rw [rd_if_f h]; exact hm
theorem rd_ob_lt {m : Nat → Nat} {s : Nat} {E : Nat → Prop} {pd i : Nat} (hm : ∀ q, m q < 256) (h0 : 0 < s) (hs : s ≤ 64) (hp : pd ≤ 3) : rd_ob m s E pd i < 256 := by
  by_cases h : ∃ q, q < s ∧ rd_na m s E pd q = i
  · obtain ⟨q, hq, rfl⟩ := h
    rw [rd_ob_t hq]; exact rd_val_lt (hm q) h0 hs hp
  · rw [rd_ob_f (fun q hq e => h ⟨q, hq, e⟩)]; omega
