section
/-! numbers: literals as nI, bounds, stores of truth values -/
theorem rd_l0 : (0 : Int32) = nI 0 := rfl
theorem rd_l1 : (1 : Int32) = nI 1 := rfl
theorem rd_l2 : (2 : Int32) = nI 2 := rfl
theorem rd_l3 : (3 : Int32) = nI 3 := rfl
theorem rd_l4 : (4 : Int32) = nI 4 := rfl
theorem rd_l5 : (5 : Int32) = nI 5 := rfl
theorem rd_l6 : (6 : Int32) = nI 6 := rfl
theorem rd_l7 : (7 : Int32) = nI 7 := rfl
theorem rd_l8 : (8 : Int32) = nI 8 := rfl
theorem rd_l9 : (9 : Int32) = nI 9 := rfl
theorem rd_l10 : (10 : Int32) = nI 10 := rfl
theorem rd_l11 : (11 : Int32) = nI 11 := rfl
theorem rd_l12 : (12 : Int32) = nI 12 := rfl
theorem rd_l13 : (13 : Int32) = nI 13 := rfl
theorem rd_l14 : (14 : Int32) = nI 14 := rfl
theorem rd_l15 : (15 : Int32) = nI 15 := rfl
theorem rd_l16 : (16 : Int32) = nI 16 := rfl
theorem rd_l64 : (64 : Int32) = nI 64 := rfl
theorem rd_l70 : (70 : Int32) = nI 70 := rfl
theorem rd_l255 : (255 : Int32) = nI 255 := rfl
theorem rd_l256 : (256 : Int32) = nI 256 := rfl
theorem rd_l2000 : (2000 : Int32) = nI 2000 := rfl
theorem rd_in {k N : Nat} (hk : k < 2 ^ 31) : vp_in (nI k) N ↔ k < N := by
  rw [vp_in_iff, nI_toInt hk]; omega
theorem rd_inr {x : Int32} {a : Nat → Int32} {p N : Nat} (e : x = nI p) (h : p < N) (hN : N < 2 ^ 31) : vp_in x N ∧ a x.toNatClampNeg = a p := by
  subst e
  exact ⟨vp_in_nI h hN, by rw [nI_clamp (by omega)]⟩
theorem rd_nb0 : vp_nar .boolean 0 = 0 := rfl
theorem rd_nb1 : vp_nar .boolean 1 = 1 := rfl
theorem rd_lt0 {k : Nat} (h : k < 2 ^ 31) : ¬ nI k < 0 := nI_pos h
theorem rd_ge0 {k : Nat} (h : k < 2 ^ 31) : 0 ≤ nI k := nI_pos' h
theorem rd_neg {x : Int32} (h : x < 0) : ¬ 0 ≤ x := Int32.not_le.mpr h
end
section
/-! Pure facts: choice by a proposition, counts, the instruction set, the reached set -/
noncomputable def rd_if {α : Type} (P : Prop) (a b : α) : α := @ite α P (Classical.propDecidable P) a b
theorem rd_if_t {α : Type} {P : Prop} {a b : α} (h : P) : rd_if P a b = a := by unfold rd_if; exact if_pos h
theorem rd_if_f {α : Type} {P : Prop} {a b : α} (h : ¬ P) : rd_if P a b = b := by unfold rd_if; exact if_neg h
theorem rd_if_c {α : Type} {P Q : Prop} (h : P ↔ Q) (a b : α) : rd_if P a b = rd_if Q a b := by rw [propext h]
noncomputable def rd_b (P : Prop) : Int32 := rd_if P 1 0
theorem rd_b_t {P : Prop} (h : P) : rd_b P = 1 := rd_if_t h
theorem rd_b_f {P : Prop} (h : ¬ P) : rd_b P = 0 := rd_if_f h
theorem rd_b0 {P : Prop} : rd_b P = 0 ↔ ¬ P := by
  constructor
  · intro h hp
    rw [rd_b_t hp] at h
    exact absurd h (by decide)
  · exact rd_b_f
theorem rd_bc {P Q : Prop} (h : P ↔ Q) : rd_b P = rd_b Q := by rw [propext h]
theorem rd_b01 (P : Prop) : rd_b P = 0 ∨ rd_b P = 1 := by
  by_cases h : P
  · exact Or.inr (rd_b_t h)
  · exact Or.inl (rd_b_f h)
/-- how many j below n have P -/
noncomputable def rd_cnt (P : Nat → Prop) : Nat → Nat
  | 0 => 0
  | n + 1 => rd_cnt P n + rd_if (P n) 1 0
theorem rd_cnt_0 (P : Nat → Prop) : rd_cnt P 0 = 0 := rfl
theorem rd_cnt_t {P : Nat → Prop} {n : Nat} (h : P n) : rd_cnt P (n + 1) = rd_cnt P n + 1 := by
  show rd_cnt P n + rd_if (P n) 1 0 = _
  rw [rd_if_t h]
theorem rd_cnt_f {P : Nat → Prop} {n : Nat} (h : ¬ P n) : rd_cnt P (n + 1) = rd_cnt P n := by
  show rd_cnt P n + rd_if (P n) 1 0 = _
  rw [rd_if_f h]; rfl
theorem rd_cnt_le (P : Nat → Prop) : ∀ n, rd_cnt P n ≤ n := by
  intro n
  induction n with
  | zero => exact Nat.le_refl 0
  | succ n ih =>
    by_cases h : P n
    · rw [rd_cnt_t h]; omega
    · rw [rd_cnt_f h]; omega
theorem rd_cnt_mono {P Q : Nat → Prop} : ∀ {n : Nat}, (∀ j, j < n → P j → Q j) → rd_cnt P n ≤ rd_cnt Q n := by
  intro n
  induction n with
  | zero => intro _; exact Nat.le_refl 0
  | succ n ih =>
    intro h
    have i := ih fun j hj => h j (by omega)
    by_cases hp : P n
    · rw [rd_cnt_t hp, rd_cnt_t (h n (by omega) hp)]; omega
    · rw [rd_cnt_f hp]
      by_cases hq : Q n
      · rw [rd_cnt_t hq]; omega
      · rw [rd_cnt_f hq]; omega
theorem rd_cnt_lt {P Q : Nat → Prop} : ∀ {n : Nat}, (∀ j, j < n → P j → Q j) → ∀ q, q < n → ¬ P q → Q q → rd_cnt P n < rd_cnt Q n := by
  intro n
  induction n with
  | zero => intro _ q hq; omega
  | succ n ih =>
    intro h q hq np qq
    by_cases e : q = n
    · subst e
      rw [rd_cnt_f np, rd_cnt_t qq]
      have := rd_cnt_mono (n := q) fun j hj => h j (by omega)
      omega
    · have i := ih (fun j hj => h j (by omega)) q (by omega) np qq
      by_cases hp : P n
      · rw [rd_cnt_t hp, rd_cnt_t (h n (by omega) hp)]; omega
      · rw [rd_cnt_f hp]
        by_cases hq : Q n
        · rw [rd_cnt_t hq]; omega
        · rw [rd_cnt_f hq]; omega
theorem rd_cnt_full {P : Nat → Prop} : ∀ {n : Nat}, n ≤ rd_cnt P n → ∀ j, j < n → P j := by
  intro n
  induction n with
  | zero => intro _ j hj; omega
  | succ n ih =>
    intro h j hj
    have hl := rd_cnt_le P n
    by_cases hp : P n
    · rw [rd_cnt_t hp] at h
      by_cases e : j = n
      · rw [e]; exact hp
      · exact ih (by omega) j (by omega)
    · rw [rd_cnt_f hp] at h; omega
theorem rd_cnt_c {P Q : Nat → Prop} {n : Nat} (h : ∀ j, j < n → (P j ↔ Q j)) : rd_cnt P n = rd_cnt Q n :=
  Nat.le_antisymm (rd_cnt_mono fun j hj => (h j hj).1) (rd_cnt_mono fun j hj => (h j hj).2)
/-! the instruction set -/
def rd_len (op : Nat) : Nat := if op = 0 ∨ op = 1 ∨ op = 12 then 1 else if op = 7 ∨ op = 8 ∨ op = 11 ∨ op = 14 then 2 else if op = 6 ∨ op = 9 ∨ op = 10 then 4 else 3
theorem rd_len_r (op : Nat) : 1 ≤ rd_len op ∧ rd_len op ≤ 4 := by
  unfold rd_len
  split
  · omega
  · split
    · omega
    · split <;> omega
def rd_r1 (op : Nat) : Prop := (2 ≤ op ∧ op ≤ 7) ∨ op = 9 ∨ op = 10 ∨ op = 13 ∨ op = 14
def rd_ok (m : Nat → Nat) (n p : Nat) : Prop := p < n ∧ m p ≤ 14 ∧ p + rd_len (m p) ≤ n ∧ (rd_r1 (m p) → m (p + 1) ≤ 3) ∧ (m p = 4 → m (p + 2) ≤ 3) ∧ (m p = 6 → m (p + 3) ≤ 3)
/-- the table's length of a JMPT at p, 0 where there is none -/
def rd_tb (m : Nat → Nat) (s p : Nat) : Prop := m p = 13 ∧ 4 ≤ p ∧ m (p - 4) = 10 ∧ m (p - 3) = m (p + 1) ∧ m (p - 2) ≤ 16 ∧ m (p + 2) + m (p - 2) ≤ s
noncomputable def rd_tl (m : Nat → Nat) (s p : Nat) : Nat := rd_if (rd_tb m s p) (m (p - 2)) 0
theorem rd_tl_le {m : Nat → Nat} {s p : Nat} (h : 0 < rd_tl m s p) : rd_tb m s p ∧ rd_tl m s p = m (p - 2) ∧ m (p + 2) + rd_tl m s p ≤ s ∧ rd_tl m s p ≤ 16 := by
  by_cases hb : rd_tb m s p
  · have e : rd_tl m s p = m (p - 2) := rd_if_t hb
    refine ⟨hb, e, ?_, ?_⟩
    · rw [e]; exact hb.2.2.2.2.2
    · rw [e]; exact hb.2.2.2.2.1
  · have e : rd_tl m s p = 0 := rd_if_f hb
    omega
/-- control may go on from p without a transfer -/
def rd_seq (op : Nat) : Prop := op ≠ 0 ∧ op ≠ 12 ∧ op ≠ 14 ∧ op ≠ 8 ∧ op ≠ 11 ∧ op ≠ 9 ∧ op ≠ 10 ∧ op ≠ 13
def rd_sc (m : Nat → Nat) (s p x : Nat) : Prop :=
  (m p = 8 ∧ x = m (p + 1)) ∨ (m p = 11 ∧ (x = m (p + 1) ∨ x = p + 2)) ∨ ((m p = 9 ∨ m p = 10) ∧ (x = m (p + 3) ∨ x = p + 4)) ∨ (m p = 13 ∧ ∃ j, j < rd_tl m s p ∧ x = m (m (p + 2) + j)) ∨ (rd_seq (m p) ∧ x = p + rd_len (m p))
/-- S is closed under the successors -/
def rd_cl (m : Nat → Nat) (s : Nat) (S : Nat → Prop) : Prop := ∀ p x, S p → rd_ok m s p → rd_sc m s p x → x < s → S x
/-- the least closed set over the entries E -/
def rd_LR (m : Nat → Nat) (s : Nat) (E : Nat → Prop) (q : Nat) : Prop := ∀ S : Nat → Prop, (∀ e, e < s → E e → S e) → rd_cl m s S → S q
theorem rd_LR_e {m : Nat → Nat} {s : Nat} {E : Nat → Prop} {q : Nat} (hq : q < s) (h : E q) : rd_LR m s E q := fun _ h1 _ => h1 q hq h
theorem rd_LR_s {m : Nat → Nat} {s : Nat} {E : Nat → Prop} {p x : Nat} (h : rd_LR m s E p) (ho : rd_ok m s p) (hs : rd_sc m s p x) (hx : x < s) : rd_LR m s E x := fun S h1 h2 => h2 p x (h S h1 h2) ho hs hx
/-- within a pass that began at R0 and has done the positions below p -/
def rd_Ps (m : Nat → Nat) (s : Nat) (E R0 R : Nat → Prop) (p : Nat) : Prop :=
  (∀ q, q < s → R0 q → R q) ∧ (∀ q, q < s → R q → rd_LR m s E q) ∧ (∀ p', p' < p → R0 p' → rd_ok m s p' → ∀ x, x < s → rd_sc m s p' x → R x)
/-- after k passes -/
def rd_J (m : Nat → Nat) (s : Nat) (E R : Nat → Prop) (k : Nat) : Prop :=
  (∀ q, q < s → E q → R q) ∧ (∀ q, q < s → R q → rd_LR m s E q) ∧ ((∀ q, q < s → rd_LR m s E q → R q) ∨ k ≤ rd_cnt R s)
theorem rd_Ps_end {m : Nat → Nat} {s : Nat} {E R0 R : Nat → Prop} (hE : ∀ q, q < s → E q → R0 q) (h : rd_Ps m s E R0 R s) : (∀ q, q < s → rd_LR m s E q → R q) ∨ ∃ q, q < s ∧ R q ∧ ¬ R0 q := by
  by_cases hc : ∃ q, q < s ∧ R q ∧ ¬ R0 q
  · exact Or.inr hc
  · refine Or.inl fun q hq hl => ?_
    have back : ∀ x, x < s → R x → R0 x := fun x hx hr => Classical.byContradiction fun hn => hc ⟨x, hx, hr, hn⟩
    have := hl (fun x => x < s → R x) (fun e he hee _ => h.1 e he (hE e he hee)) (fun p x hp ho hsc hx _ => h.2.2 p ho.1 (back p ho.1 (hp ho.1)) ho x hx hsc)
    exact this hq
theorem rd_J_next {m : Nat → Nat} {s k : Nat} {E R0 R : Nat → Prop} (hJ : rd_J m s E R0 k) (h : rd_Ps m s E R0 R s) : rd_J m s E R (k + 1) := by
  refine ⟨fun q hq he => h.1 q hq (hJ.1 q hq he), h.2.1, ?_⟩
  rcases rd_Ps_end hJ.1 h with hl | ⟨q, hq, hr, hn⟩
  · exact Or.inl hl
  · rcases hJ.2.2 with hl | hk
    · exact Or.inl fun q hq hh => h.1 q hq (hl q hq hh)
    · have := rd_cnt_lt h.1 q hq hn hr
      exact Or.inr (by omega)
theorem rd_J_fin {m : Nat → Nat} {s : Nat} {E R : Nat → Prop} (hJ : rd_J m s E R s) {q : Nat} (hq : q < s) : R q ↔ rd_LR m s E q := by
  refine ⟨hJ.2.1 q hq, fun hl => ?_⟩
  rcases hJ.2.2 with h | h
  · exact h q hq hl
  · exact rd_cnt_full h q hq
theorem rd_nbb (P : Prop) : vp_nar .boolean (rd_b P) = rd_b P := by
  rcases rd_b01 P with h | h <;> rw [h]
  · exact rd_nb0
  · exact rd_nb1
theorem rd_nrb (P : Prop) : narrow .boolean (.int (rd_b P)) = .int (rd_b P) := by
  rcases rd_b01 P with h | h <;> rw [h] <;> rfl
end
section
/-! Pure facts: kinds of bytes, symbols, function starts, layout -/
def rd_st (m : Nat → Nat) (s : Nat) (E : Nat → Prop) (p : Nat) : Prop := rd_LR m s E p ∧ rd_ok m s p
def rd_opd (m : Nat → Nat) (s : Nat) (E : Nat → Prop) (k q : Nat) : Prop := ∃ p, p < k ∧ rd_st m s E p ∧ p < q ∧ q < p + rd_len (m p)
def rd_tab (m : Nat → Nat) (s : Nat) (E : Nat → Prop) (k q : Nat) : Prop := ∃ p, p < k ∧ rd_st m s E p ∧ m (p + 2) ≤ q ∧ q < m (p + 2) + rd_tl m s p
/-- the kind of q, where P are the operands so far and T the table bytes so far -/
noncomputable def rd_c2 (m : Nat → Nat) (s : Nat) (E P T : Nat → Prop) (q : Nat) : Int32 :=
  rd_if (rd_LR m s E q) (rd_if (rd_ok m s q) 1 4) (rd_if (P q) 2 (rd_if (T q) 3 0))
noncomputable def rd_cls (m : Nat → Nat) (s : Nat) (E : Nat → Prop) (q : Nat) : Int32 := rd_c2 m s E (rd_opd m s E s) (rd_tab m s E s) q
theorem rd_c2_st {m : Nat → Nat} {s : Nat} {E P T : Nat → Prop} {q : Nat} : rd_c2 m s E P T q = 1 ↔ rd_st m s E q := by
  unfold rd_c2 rd_st
  by_cases h1 : rd_LR m s E q
  · rw [rd_if_t h1]
    by_cases h2 : rd_ok m s q
    · rw [rd_if_t h2]; exact ⟨fun _ => ⟨h1, h2⟩, fun _ => rfl⟩
    · rw [rd_if_f h2]; exact ⟨fun h => absurd h (by decide), fun h => absurd h.2 h2⟩
  · rw [rd_if_f h1]
    refine ⟨fun h => ?_, fun h => absurd h.1 h1⟩
    by_cases h3 : P q
    · rw [rd_if_t h3] at h; exact absurd h (by decide)
    · rw [rd_if_f h3] at h
      by_cases h4 : T q
      · rw [rd_if_t h4] at h; exact absurd h (by decide)
      · rw [rd_if_f h4] at h; exact absurd h (by decide)
theorem rd_c2_0 {m : Nat → Nat} {s : Nat} {E P T : Nat → Prop} {q : Nat} : rd_c2 m s E P T q = 0 ↔ ¬ rd_LR m s E q ∧ ¬ P q ∧ ¬ T q := by
  unfold rd_c2
  by_cases h1 : rd_LR m s E q
  · rw [rd_if_t h1]
    refine ⟨fun h => ?_, fun h => absurd h1 h.1⟩
    by_cases h2 : rd_ok m s q
    · rw [rd_if_t h2] at h; exact absurd h (by decide)
    · rw [rd_if_f h2] at h; exact absurd h (by decide)
  · rw [rd_if_f h1]
    by_cases h3 : P q
    · rw [rd_if_t h3]; exact ⟨fun h => absurd h (by decide), fun h => absurd h3 h.2.1⟩
    · rw [rd_if_f h3]
      by_cases h4 : T q
      · rw [rd_if_t h4]; exact ⟨fun h => absurd h (by decide), fun h => absurd h4 h.2.2⟩
      · rw [rd_if_f h4]; exact ⟨fun _ => ⟨h1, h3, h4⟩, fun _ => rfl⟩
theorem rd_c2_c {m : Nat → Nat} {s : Nat} {E P T P' T' : Nat → Prop} {q : Nat} (hP : P q ↔ P' q) (hT : T q ↔ T' q) : rd_c2 m s E P T q = rd_c2 m s E P' T' q := by
  unfold rd_c2; rw [propext hP, propext hT]
/-- what claiming the range from f to e for kind c makes of the kinds a -/
noncomputable def rd_clm (a : Nat → Int32) (f e : Nat) (c : Int32) : Nat → Int32 := fun j => rd_if (f ≤ j ∧ j < e ∧ a j = 0) c (a j)
theorem rd_clm_0 (a : Nat → Int32) (f : Nat) {e : Nat} (h : e ≤ f) (c : Int32) : rd_clm a f e c = a := by
  funext j; exact rd_if_f (by omega)
theorem rd_clm_t {a : Nat → Int32} {f e : Nat} {c : Int32} (h : f ≤ e) (hz : rd_clm a f e c e = 0) : upd (rd_clm a f e c) e c = rd_clm a f (e + 1) c := by
  have ha : rd_clm a f e c e = a e := rd_if_f (by omega)
  rw [ha] at hz
  funext j
  unfold upd
  by_cases ej : j = e
  · rw [if_pos ej]; subst ej; exact (rd_if_t ⟨h, by omega, hz⟩).symm
  · rw [if_neg ej]
    exact rd_if_c ⟨fun hh => ⟨hh.1, by omega, hh.2.2⟩, fun hh => ⟨hh.1, by omega, hh.2.2⟩⟩ _ _
theorem rd_clm_f {a : Nat → Int32} {f e : Nat} {c : Int32} (hz : ¬ rd_clm a f e c e = 0) : rd_clm a f e c = rd_clm a f (e + 1) c := by
  have ha : rd_clm a f e c e = a e := rd_if_f (by omega)
  rw [ha] at hz
  funext j
  refine rd_if_c ⟨fun hh => ⟨hh.1, by omega, hh.2.2⟩, fun hh => ⟨hh.1, ?_, hh.2.2⟩⟩ _ _
  by_cases ej : j = e
  · subst ej; exact absurd hh.2.2 hz
  · omega
theorem rd_clm_opd {m : Nat → Nat} {s : Nat} {E P : Nat → Prop} {a : Nat → Int32} {f e j : Nat} (h : a j = rd_c2 m s E P (fun _ => False) j) : rd_clm a f e 2 j = rd_c2 m s E (fun q => P q ∨ (f ≤ q ∧ q < e)) (fun _ => False) j := by
  unfold rd_clm
  by_cases hr : f ≤ j ∧ j < e ∧ a j = 0
  · rw [rd_if_t hr]
    have h0 := hr.2.2
    rw [h, rd_c2_0] at h0
    unfold rd_c2
    rw [rd_if_f h0.1, rd_if_t (Or.inr ⟨hr.1, hr.2.1⟩)]
  · rw [rd_if_f hr, h]
    unfold rd_c2
    by_cases h1 : rd_LR m s E j
    · rw [rd_if_t h1, rd_if_t h1]
    · rw [rd_if_f h1, rd_if_f h1]
      by_cases h3 : P j
      · rw [rd_if_t h3, rd_if_t (Or.inl h3)]
      · have : ¬ (P j ∨ (f ≤ j ∧ j < e)) := by
          intro hh
          rcases hh with hh | hh
          · exact h3 hh
          · exact hr ⟨hh.1, hh.2, by rw [h, rd_c2_0]; exact ⟨h1, h3, fun z => z⟩⟩
        rw [rd_if_f h3, rd_if_f this]
theorem rd_clm_tab {m : Nat → Nat} {s : Nat} {E P T : Nat → Prop} {a : Nat → Int32} {f e j : Nat} (h : a j = rd_c2 m s E P T j) : rd_clm a f e 3 j = rd_c2 m s E P (fun q => T q ∨ (f ≤ q ∧ q < e)) j := by
  unfold rd_clm
  by_cases hr : f ≤ j ∧ j < e ∧ a j = 0
  · rw [rd_if_t hr]
    have h0 := hr.2.2
    rw [h, rd_c2_0] at h0
    unfold rd_c2
    rw [rd_if_f h0.1, rd_if_f h0.2.1, rd_if_t (Or.inr ⟨hr.1, hr.2.1⟩)]
  · rw [rd_if_f hr, h]
    unfold rd_c2
    by_cases h1 : rd_LR m s E j
    · rw [rd_if_t h1, rd_if_t h1]
    · rw [rd_if_f h1, rd_if_f h1]
      by_cases h3 : P j
      · rw [rd_if_t h3, rd_if_t h3]
      · rw [rd_if_f h3, rd_if_f h3]
        by_cases h4 : T j
        · rw [rd_if_t h4, rd_if_t (Or.inl h4)]
        · have : ¬ (T j ∨ (f ≤ j ∧ j < e)) := by
            intro hh
            rcases hh with hh | hh
            · exact h4 hh
            · exact hr ⟨hh.1, hh.2, by rw [h, rd_c2_0]; exact ⟨h1, h3, h4⟩⟩
          rw [rd_if_f h4, rd_if_f this]
theorem rd_opd_s {m : Nat → Nat} {s : Nat} {E : Nat → Prop} {k q : Nat} : rd_opd m s E (k + 1) q ↔ (rd_opd m s E k q ∨ (rd_st m s E k ∧ k < q ∧ q < k + rd_len (m k))) := by
  constructor
  · rintro ⟨p, hp, h⟩
    by_cases e : p = k
    · subst e; exact Or.inr h
    · exact Or.inl ⟨p, by omega, h⟩
  · rintro (⟨p, hp, h⟩ | h)
    · exact ⟨p, by omega, h⟩
    · exact ⟨k, by omega, h⟩
theorem rd_tab_s {m : Nat → Nat} {s : Nat} {E : Nat → Prop} {k q : Nat} : rd_tab m s E (k + 1) q ↔ (rd_tab m s E k q ∨ (rd_st m s E k ∧ m (k + 2) ≤ q ∧ q < m (k + 2) + rd_tl m s k)) := by
  constructor
  · rintro ⟨p, hp, h⟩
    by_cases e : p = k
    · subst e; exact Or.inr h
    · exact Or.inl ⟨p, by omega, h⟩
  · rintro (⟨p, hp, h⟩ | h)
    · exact ⟨p, by omega, h⟩
    · exact ⟨k, by omega, h⟩
theorem rd_opd_0 {m : Nat → Nat} {s : Nat} {E : Nat → Prop} {q : Nat} : ¬ rd_opd m s E 0 q := by
  rintro ⟨p, hp, _⟩; omega
theorem rd_tab_0 {m : Nat → Nat} {s : Nat} {E : Nat → Prop} {q : Nat} : ¬ rd_tab m s E 0 q := by
  rintro ⟨p, hp, _⟩; omega
/-- the offset of the address slot, 0 where there is none -/
def rd_slo (op : Nat) : Nat := if op = 8 ∨ op = 11 then 1 else if op = 3 ∨ op = 6 ∨ op = 13 then 2 else if op = 9 ∨ op = 10 then 3 else 0
theorem rd_slo_len : ∀ op, op ≤ 14 → 0 < rd_slo op → rd_slo op < rd_len op := by decide
def rd_slot (m : Nat → Nat) (s : Nat) (E : Nat → Prop) (k q : Nat) : Prop := ∃ p, p < k ∧ rd_st m s E p ∧ 0 < rd_slo (m p) ∧ q = p + rd_slo (m p)
theorem rd_slot_s {m : Nat → Nat} {s : Nat} {E : Nat → Prop} {k q : Nat} : rd_slot m s E (k + 1) q ↔ (rd_slot m s E k q ∨ (rd_st m s E k ∧ 0 < rd_slo (m k) ∧ q = k + rd_slo (m k))) := by
  constructor
  · rintro ⟨p, hp, h⟩
    by_cases e : p = k
    · subst e; exact Or.inr h
    · exact Or.inl ⟨p, by omega, h⟩
  · rintro (⟨p, hp, h⟩ | h)
    · exact ⟨p, by omega, h⟩
    · exact ⟨k, by omega, h⟩
theorem rd_slot_0 {m : Nat → Nat} {s : Nat} {E : Nat → Prop} {q : Nat} : ¬ rd_slot m s E 0 q := by
  rintro ⟨p, hp, _⟩; omega
def rd_sym (m : Nat → Nat) (s : Nat) (E : Nat → Prop) (k q : Nat) : Prop := m q < s ∧ (rd_slot m s E k q ∨ rd_tab m s E k q)
def rd_cal (m : Nat → Nat) (s : Nat) (E : Nat → Prop) (k q : Nat) : Prop := ∃ p, p < k ∧ rd_st m s E p ∧ m p = 11 ∧ m (p + 1) = q
theorem rd_cal_s {m : Nat → Nat} {s : Nat} {E : Nat → Prop} {k q : Nat} : rd_cal m s E (k + 1) q ↔ (rd_cal m s E k q ∨ (rd_st m s E k ∧ m k = 11 ∧ m (k + 1) = q)) := by
  constructor
  · rintro ⟨p, hp, h⟩
    by_cases e : p = k
    · subst e; exact Or.inr h
    · exact Or.inl ⟨p, by omega, h⟩
  · rintro (⟨p, hp, h⟩ | h)
    · exact ⟨p, by omega, h⟩
    · exact ⟨k, by omega, h⟩
theorem rd_cal_0 {m : Nat → Nat} {s : Nat} {E : Nat → Prop} {q : Nat} : ¬ rd_cal m s E 0 q := by
  rintro ⟨p, hp, _⟩; omega
def rd_fs (m : Nat → Nat) (s : Nat) (E : Nat → Prop) (q : Nat) : Prop := E q ∨ rd_cal m s E s q
def rd_G (m : Nat → Nat) (s : Nat) (E : Nat → Prop) (q : Nat) : Prop := 0 < q ∧ rd_fs m s E q
noncomputable def rd_na (m : Nat → Nat) (s : Nat) (E : Nat → Prop) (pd q : Nat) : Nat := q + pd * rd_cnt (rd_G m s E) (q + 1)
noncomputable def rd_os (m : Nat → Nat) (s : Nat) (E : Nat → Prop) (pd : Nat) : Nat := s + pd * rd_cnt (rd_G m s E) s
theorem rd_G_le (m : Nat → Nat) (s : Nat) (E : Nat → Prop) : ∀ n, rd_cnt (rd_G m s E) (n + 1) ≤ n := by
  intro n
  induction n with
  | zero => rw [rd_cnt_f (fun h : rd_G m s E 0 => absurd h.1 (by omega))]; exact Nat.le_refl 0
  | succ n ih =>
    by_cases h : rd_G m s E (n + 1)
    · rw [rd_cnt_t h]; omega
    · rw [rd_cnt_f h]; omega
theorem rd_cnt_up (P : Nat → Prop) {a b : Nat} (h : a ≤ b) : rd_cnt P a ≤ rd_cnt P b := by
  induction h with
  | refl => exact Nat.le_refl _
  | step _ ih =>
    rename_i k _
    by_cases hp : P k
    · have := rd_cnt_t hp; simp only [Nat.succ_eq_add_one]; omega
    · have := rd_cnt_f hp; simp only [Nat.succ_eq_add_one]; omega
theorem rd_na_lt (m : Nat → Nat) (s : Nat) (E : Nat → Prop) (pd : Nat) {a b : Nat} (h : a < b) : rd_na m s E pd a < rd_na m s E pd b := by
  unfold rd_na
  have := Nat.mul_le_mul_left pd (rd_cnt_up (rd_G m s E) (show a + 1 ≤ b + 1 by omega))
  omega
theorem rd_na_inj {m : Nat → Nat} {s : Nat} {E : Nat → Prop} {pd a b : Nat} (h : rd_na m s E pd a = rd_na m s E pd b) : a = b := by
  rcases Nat.lt_trichotomy a b with hl | he | hg
  · have := rd_na_lt m s E pd hl; omega
  · exact he
  · have := rd_na_lt m s E pd hg; omega
theorem rd_na_os (m : Nat → Nat) {s : Nat} (E : Nat → Prop) (pd : Nat) {q : Nat} (h : q < s) : rd_na m s E pd q < rd_os m s E pd := by
  unfold rd_na rd_os
  have := Nat.mul_le_mul_left pd (rd_cnt_up (rd_G m s E) (show q + 1 ≤ s by omega))
  omega
theorem rd_os_le (m : Nat → Nat) {s : Nat} (E : Nat → Prop) {pd : Nat} (h0 : 0 < s) (hs : s ≤ 64) (hp : pd ≤ 3) : rd_os m s E pd ≤ 253 := by
  unfold rd_os
  obtain ⟨k, rfl⟩ : ∃ k, s = k + 1 := ⟨s - 1, by omega⟩
  have h1 := rd_G_le m (k + 1) E k
  have h2 := Nat.mul_le_mul hp h1
  omega
/-- the byte that q brings into the output -/
noncomputable def rd_val (m : Nat → Nat) (s : Nat) (E : Nat → Prop) (pd q : Nat) : Nat := rd_if (rd_sym m s E s q) (rd_na m s E pd (m q)) (m q)
noncomputable def rd_ob (m : Nat → Nat) (s : Nat) (E : Nat → Prop) (pd i : Nat) : Nat :=
  @dite Nat (∃ q, q < s ∧ rd_na m s E pd q = i) (Classical.propDecidable _) (fun h => rd_val m s E pd h.choose) (fun _ => 1)
theorem rd_ob_t {m : Nat → Nat} {s : Nat} {E : Nat → Prop} {pd q : Nat} (h : q < s) : rd_ob m s E pd (rd_na m s E pd q) = rd_val m s E pd q := by
  unfold rd_ob
  have hx : ∃ q', q' < s ∧ rd_na m s E pd q' = rd_na m s E pd q := ⟨q, h, rfl⟩
  rw [dif_pos hx]
  have := hx.choose_spec
  rw [rd_na_inj this.2]
theorem rd_ob_f {m : Nat → Nat} {s : Nat} {E : Nat → Prop} {pd i : Nat} (h : ∀ q, q < s → rd_na m s E pd q ≠ i) : rd_ob m s E pd i = 1 := by
  unfold rd_ob
  rw [dif_neg]
  rintro ⟨q, hq, e⟩
  exact h q hq e
theorem rd_val_lt {m : Nat → Nat} {s : Nat} {E : Nat → Prop} {pd q : Nat} (hm : m q < 256) (h0 : 0 < s) (hs : s ≤ 64) (hp : pd ≤ 3) : rd_val m s E pd q < 256 := by
  unfold rd_val
  by_cases h : rd_sym m s E s q
  · rw [rd_if_t h]
    have h1 := rd_na_os m E pd h.1
    have h2 := rd_os_le m E h0 hs hp
    omega
  · rw [rd_if_f h]; exact hm
theorem rd_ob_lt {m : Nat → Nat} {s : Nat} {E : Nat → Prop} {pd i : Nat} (hm : ∀ q, m q < 256) (h0 : 0 < s) (hs : s ≤ 64) (hp : pd ≤ 3) : rd_ob m s E pd i < 256 := by
  by_cases h : ∃ q, q < s ∧ rd_na m s E pd q = i
  · obtain ⟨q, hq, rfl⟩ := h
    rw [rd_ob_t hq]; exact rd_val_lt (hm q) h0 hs hp
  · rw [rd_ob_f (fun q hq e => h ⟨q, hq, e⟩)]; omega
end
section
/-! X: the small methods -/
section
variable {f_capacity f_size f_entryCount f_analysed f_outputSize f_status f_steps f_pc f_depth f_valueCount : Int32} {a_image a_entry a_reached a_classes a_symbolic a_functionStart a_newAddress a_output a_registers a_stack a_values : Nat → Int32} {im m : Nat → Nat} {s : Nat} {post : Int32 → Prop}
theorem rd_pt {P : Prop} (hp : post (rd_b P)) (h : P) : post 1 := by rw [rd_b_t h] at hp; exact hp
theorem rd_pf {P : Prop} (hp : post (rd_b P)) (h : ¬ P) : post 0 := by rw [rd_b_f h] at hp; exact hp
theorem rd_brb {P A B : Prop} (f : ¬ P → A) (g : P → B) : (rd_b P = 0 → A) ∧ (¬ rd_b P = 0 → B) :=
  ⟨fun h => f (rd_b0.mp h), fun h => g (Classical.byContradiction fun z => h (rd_b_f z))⟩
theorem rd_rd {a : Nat → Int32} {n : Nat} (hI : ∀ j, j < n → a j = nI (m j)) {x : Int32} (p : Nat) (h : p < n) (hn : n ≤ 256) (hx : x = nI p := by rfl) : a x.toNatClampNeg = nI (m p) := by
  subst hx
  rw [nI_clamp (by omega)]
  exact hI p h
theorem xl_inI_t {q : Nat} (hq : q < s) (hs : s ≤ 64) (hp : post 1) : wpX_inImage post (f_capacity, nI s, f_entryCount, f_analysed, f_outputSize, f_status, f_steps, f_pc, f_depth, f_valueCount, a_image, a_entry, a_reached, a_classes, a_symbolic, a_functionStart, a_newAddress, a_output, a_registers, a_stack, a_values) (nI q) :=
  br_f (rd_lt0 (by omega)) (pk_le s q (fun h => absurd h (by omega)) (fun _ => hp))
theorem xl_inI_f {v : Int32} (h : v < 0 ∨ nI s ≤ v) (hp : post 0) : wpX_inImage post (f_capacity, nI s, f_entryCount, f_analysed, f_outputSize, f_status, f_steps, f_pc, f_depth, f_valueCount, a_image, a_entry, a_reached, a_classes, a_symbolic, a_functionStart, a_newAddress, a_output, a_registers, a_stack, a_values) v := by
  by_cases h0 : v < 0
  · exact br_t h0 hp
  · exact br_f h0 (br_t (h.resolve_left h0) hp)
theorem rd_op15 {op : Nat} (h : op ≤ 14) : op = 0 ∨ op = 1 ∨ op = 2 ∨ op = 3 ∨ op = 4 ∨ op = 5 ∨ op = 6 ∨ op = 7 ∨ op = 8 ∨ op = 9 ∨ op = 10 ∨ op = 11 ∨ op = 12 ∨ op = 13 ∨ op = 14 := by omega
theorem xl_len {op : Nat} (h : op ≤ 14) (hp : post (nI (rd_len op))) : wpX_lengthOf post (f_capacity, nI s, f_entryCount, f_analysed, f_outputSize, f_status, f_steps, f_pc, f_depth, f_valueCount, a_image, a_entry, a_reached, a_classes, a_symbolic, a_functionStart, a_newAddress, a_output, a_registers, a_stack, a_values) (nI op) := by
  rcases rd_op15 h with e | e | e | e | e | e | e | e | e | e | e | e | e | e | e <;> subst e <;>
    (refine br_f (by decide) (br_f (by decide) ?_)
     repeat (first | exact br_t (by decide) hp | refine br_f (by decide) ?_))
theorem rd_r1_iff {op : Nat} (h : op ≤ 14) : rd_r1 op ↔ (¬ rd_len op ≤ 1 ∧ op ≠ 8 ∧ op ≠ 11) := by
  unfold rd_r1 rd_len
  split
  · omega
  · split
    · omega
    · split <;> omega
theorem xl_r1 {op : Nat} (h : op ≤ 14) (hp : post (rd_b (rd_r1 op))) : wpX_firstOperandIsRegister post (f_capacity, nI s, f_entryCount, f_analysed, f_outputSize, f_status, f_steps, f_pc, f_depth, f_valueCount, a_image, a_entry, a_reached, a_classes, a_symbolic, a_functionStart, a_newAddress, a_output, a_registers, a_stack, a_values) (nI op) := by
  unfold wpX_firstOperandIsRegister
  refine xl_len h ?_
  have hl := rd_len_r op
  have hi := rd_r1_iff h
  exact pk_le (rd_len op) 1 (fun h1 => rd_pf hp fun z => (hi.mp z).1 h1) (fun h1 => pk_eq op 8 (fun e => rd_pf hp fun z => (hi.mp z).2.1 e) (fun e8 => pk_eq op 11 (fun e => rd_pf hp fun z => (hi.mp z).2.2 e) (fun e11 => rd_pt hp (hi.mpr ⟨by omega, e8, e11⟩))))
theorem xl_sr {op : Nat} (h : op ≤ 14) (h4 : op = 4 → post 2) (h6 : op = 6 → post 3) (h0 : op ≠ 4 → op ≠ 6 → post 0) : wpX_secondRegisterOffset post (f_capacity, nI s, f_entryCount, f_analysed, f_outputSize, f_status, f_steps, f_pc, f_depth, f_valueCount, a_image, a_entry, a_reached, a_classes, a_symbolic, a_functionStart, a_newAddress, a_output, a_registers, a_stack, a_values) (nI op) :=
  pk_eq op 4 h4 (fun a => pk_eq op 6 h6 (fun b => h0 a b))
theorem xl_dec_image {n p : Nat} (hn : n ≤ 64) (hI : ∀ j, j < n → a_image j = nI (m j)) (hb : ∀ j, m j < 256) (hpp : p < 2 ^ 30) (hp : post (rd_b (rd_ok m n p))) : wpX_decodes post (f_capacity, nI s, f_entryCount, f_analysed, f_outputSize, f_status, f_steps, f_pc, f_depth, f_valueCount, a_image, a_entry, a_reached, a_classes, a_symbolic, a_functionStart, a_newAddress, a_output, a_registers, a_stack, a_values) (nI n) (nI p) := by
  have K : p < n → m p ≤ 14 → p + rd_len (m p) ≤ n → (rd_r1 (m p) → m (p + 1) ≤ 3) → wX_decodes_57 post (nI p) (nI (m p)) f_capacity (nI s) f_entryCount f_analysed f_outputSize f_status f_steps f_pc f_depth f_valueCount a_image a_entry a_reached a_classes a_symbolic a_functionStart a_newAddress a_output a_registers a_stack a_values := by
    intro h1 h2 h3 h4
    unfold wX_decodes_57
    refine xl_sr h2 (fun e => ?_) (fun e => ?_) (fun e4 e6 => ?_)
    · have el : rd_len (m p) = 3 := by rw [e]; rfl
      have hr := rd_rd hI (p + 2) (by omega) (by omega) (x := nI p + 2) (nI_add p 2)
      have hbb := hb (p + 2)
      refine br_f (by decide) ⟨pk_in (p + 2) 64 (by omega) (nI_add p 2), pk_le 4 (m (p + 2)) (fun z => rd_pf hp fun y => ?_) (fun z => rd_pt hp ?_) rfl hr⟩
      · have := y.2.2.2.2.1 e; omega
      · exact ⟨h1, h2, h3, h4, fun _ => by omega, fun e6 => by omega⟩
    · have el : rd_len (m p) = 4 := by rw [e]; rfl
      have hr := rd_rd hI (p + 3) (by omega) (by omega) (x := nI p + 3) (nI_add p 3)
      have hbb := hb (p + 3)
      refine br_f (by decide) ⟨pk_in (p + 3) 64 (by omega) (nI_add p 3), pk_le 4 (m (p + 3)) (fun z => rd_pf hp fun y => ?_) (fun z => rd_pt hp ?_) rfl hr⟩
      · have := y.2.2.2.2.2 e; omega
      · exact ⟨h1, h2, h3, h4, fun e4 => by omega, fun _ => by omega⟩
    · exact br_t rfl (rd_pt hp ⟨h1, h2, h3, h4, fun z => absurd z e4, fun z => absurd z e6⟩)
  unfold wpX_decodes
  refine br_f (rd_lt0 (by omega)) (pk_lt p n (fun h => ⟨pk_in p 64 (by omega), ?_⟩) (fun h => rd_pf hp fun z => absurd z.1 (by omega)))
  have hbp := hb p
  have hl := rd_len_r (m p)
  refine nm_r (rd_rd hI p h (by omega)) ?_
  refine pk_lt 14 (m p) (fun z => rd_pf hp fun y => absurd y.2.1 (by omega)) (fun h14 => ?_)
  refine xl_len h14 ?_
  refine pk_le (p + rd_len (m p)) n (fun hle => ?_) (fun z => rd_pf hp fun y => absurd y.2.2.1 (by omega)) (nI_add _ _) rfl
  refine xl_r1 h14 ?_
  refine rd_brb (fun hr => K h h14 hle (fun z => absurd z hr)) (fun hr => ?_)
  have h2 : 2 ≤ rd_len (m p) := by have := ((rd_r1_iff h14).mp hr).1; omega
  have hr1 := rd_rd hI (p + 1) (by omega) (by omega) (x := nI p + 1) (nI_1 p)
  have hb1 := hb (p + 1)
  exact ⟨pk_in (p + 1) 64 (by omega) (nI_1 p), pk_lt (m (p + 1)) 4 (fun z => K h h14 hle (fun _ => by omega)) (fun z => rd_pf hp fun y => absurd (y.2.2.2.1 hr) (by omega)) hr1 rfl⟩
theorem rd_tl_0 {p : Nat} (hp : post (nI (rd_tl im s p))) (h : ¬ rd_tb im s p) : post 0 := by
  have e : rd_tl im s p = 0 := rd_if_f h
  rw [e] at hp; exact hp
theorem xl_tl {p : Nat} (hs : s ≤ 64) (hI : ∀ j, j < 64 → a_image j = nI (im j)) (hb : ∀ j, im j < 256) (ho : rd_ok im s p) (hp : post (nI (rd_tl im s p))) : wpX_tableLength post (f_capacity, nI s, f_entryCount, f_analysed, f_outputSize, f_status, f_steps, f_pc, f_depth, f_valueCount, a_image, a_entry, a_reached, a_classes, a_symbolic, a_functionStart, a_newAddress, a_output, a_registers, a_stack, a_values) (nI p) := by
  have hps := ho.1
  have hle := ho.2.2.1
  have hbp := hb p
  refine ⟨pk_in p 64 (by omega), pk_eq (im p) 13 (fun e => ?_) (fun e => rd_tl_0 hp fun z => e z.1) (rd_rd hI p (by omega) (by omega)) rfl⟩
  have el : rd_len (im p) = 3 := by rw [e]; rfl
  refine pk_le 4 p (fun h4 => ?_) (fun h4 => rd_tl_0 hp fun z => absurd z.2.1 (by omega))
  have s4 : nI p - 4 = nI (p - 4) := pk_sub h4
  have s3 : nI p - 3 = nI (p - 3) := pk_sub (b := 3) (by omega)
  have s2 : nI p - 2 = nI (p - 2) := pk_sub (b := 2) (by omega)
  have b4 := hb (p - 4)
  have b3 := hb (p - 3)
  have b2 := hb (p - 2)
  have c1 := hb (p + 1)
  have c2 := hb (p + 2)
  refine ⟨pk_in (p - 4) 64 (by omega) s4, pk_eq (im (p - 4)) 10 (fun e10 => ?_) (fun e10 => rd_tl_0 hp fun z => e10 z.2.2.1) (rd_rd hI (p - 4) (by omega) (by omega) s4) rfl⟩
  refine ⟨pk_in (p - 3) 64 (by omega) s3, pk_in (p + 1) 64 (by omega) (nI_1 p), pk_eq (im (p - 3)) (im (p + 1)) (fun e3 => ?_) (fun e3 => rd_tl_0 hp fun z => e3 z.2.2.2.1) (rd_rd hI (p - 3) (by omega) (by omega) s3) (rd_rd hI (p + 1) (by omega) (by omega) (nI_1 p))⟩
  refine ⟨pk_in (p - 2) 64 (by omega) s2, nm_r (rd_rd hI (p - 2) (by omega) (by omega) s2) ?_⟩
  refine pk_lt 16 (im (p - 2)) (fun h16 => br_t rfl (rd_tl_0 hp fun z => absurd z.2.2.2.2.1 (by omega))) (fun h16 => ?_)
  refine ⟨pk_in (p + 2) 64 (by omega) (nI_add p 2), pk_lt s (im (p + 2) + im (p - 2)) (fun hz => br_t rfl (rd_tl_0 hp fun z => absurd z.2.2.2.2.2 (by omega))) (fun hz => br_f (by decide) ?_) rfl ?_⟩
  · have et : rd_tl im s p = im (p - 2) := rd_if_t ⟨e, h4, e10, e3, h16, hz⟩
    rw [et] at hp; exact hp
  · rw [rd_rd hI (p + 2) (by omega) (by omega) (x := nI p + 2) (nI_add p 2), nI_add]
theorem rd_slo_r (op : Nat) : rd_slo op ≤ 3 := by
  unfold rd_slo
  split
  · omega
  · split
    · omega
    · split <;> omega
theorem xl_slo {op : Nat} (h : op ≤ 14) (hp : post (nI (rd_slo op))) : wpX_slotOffset post (f_capacity, nI s, f_entryCount, f_analysed, f_outputSize, f_status, f_steps, f_pc, f_depth, f_valueCount, a_image, a_entry, a_reached, a_classes, a_symbolic, a_functionStart, a_newAddress, a_output, a_registers, a_stack, a_values) (nI op) := by
  rcases rd_op15 h with e | e | e | e | e | e | e | e | e | e | e | e | e | e | e <;> subst e <;>
    repeat (first | exact br_t (by decide) hp | refine br_f (by decide) ?_)
end
end
section
/-! X: the reached set -/
section
variable {f_capacity f_size f_entryCount f_analysed f_outputSize f_status f_steps f_pc f_depth f_valueCount : Int32} {a_image a_entry a_reached a_classes a_symbolic a_functionStart a_newAddress a_output a_registers a_stack a_values : Nat → Int32} {im : Nat → Nat} {s : Nat} {E : Nat → Prop} {post : St2 → Prop}
def rd_nz (a : Nat → Int32) (q : Nat) : Prop := ¬ a q = 0
theorem rd_nz_u {a : Nat → Int32} {k q : Nat} : rd_nz (upd a k 1) q ↔ (rd_nz a q ∨ q = k) := by
  unfold rd_nz
  by_cases e : q = k
  · subst e
    rw [pk_us]
    exact ⟨fun _ => Or.inr rfl, fun _ => by decide⟩
  · rw [pk_un e]
    exact ⟨Or.inl, fun h => h.resolve_right e⟩
theorem xl_reach {a : Nat} {x : Int32} (hx : x = nI a) (hs : s ≤ 64) (ha : a < 2 ^ 31) (hp : ∀ R, (∀ q, q < s → (rd_nz R q ↔ (rd_nz a_reached q ∨ q = a))) → post (f_capacity, nI s, f_entryCount, f_analysed, f_outputSize, f_status, f_steps, f_pc, f_depth, f_valueCount, a_image, a_entry, R, a_classes, a_symbolic, a_functionStart, a_newAddress, a_output, a_registers, a_stack, a_values)) : wpX_reach post (f_capacity, nI s, f_entryCount, f_analysed, f_outputSize, f_status, f_steps, f_pc, f_depth, f_valueCount, a_image, a_entry, a_reached, a_classes, a_symbolic, a_functionStart, a_newAddress, a_output, a_registers, a_stack, a_values) x := by
  subst hx
  refine pk_le s a (fun h => hp _ fun q hq => ⟨Or.inl, fun z => z.resolve_right (by omega)⟩) (fun h => ⟨pk_in a 64 (by omega), nm_r (e' := upd a_reached a 1) ?_ (hp _ fun q _ => rd_nz_u)⟩)
  rw [nI_clamp ha]
theorem xl_reachTable {p : Nat} (hs : s ≤ 64) (hI : ∀ j, j < 64 → a_image j = nI (im j)) (hb : ∀ j, im j < 256) (ho : rd_ok im s p) (h13 : im p = 13) (hp : ∀ R, (∀ q, q < s → (rd_nz R q ↔ (rd_nz a_reached q ∨ ∃ j, j < rd_tl im s p ∧ q = im (im (p + 2) + j)))) → post (f_capacity, nI s, f_entryCount, f_analysed, f_outputSize, f_status, f_steps, f_pc, f_depth, f_valueCount, a_image, a_entry, R, a_classes, a_symbolic, a_functionStart, a_newAddress, a_output, a_registers, a_stack, a_values)) : wpX_reachTable post (f_capacity, nI s, f_entryCount, f_analysed, f_outputSize, f_status, f_steps, f_pc, f_depth, f_valueCount, a_image, a_entry, a_reached, a_classes, a_symbolic, a_functionStart, a_newAddress, a_output, a_registers, a_stack, a_values) (nI p) := by
  have hle := ho.2.2.1
  have el : rd_len (im p) = 3 := by rw [h13]; rfl
  have c2 := hb (p + 2)
  have ht : rd_tl im s p ≤ 16 ∧ (0 < rd_tl im s p → im (p + 2) + rd_tl im s p ≤ s) := by
    by_cases h0 : 0 < rd_tl im s p
    · have := rd_tl_le h0; omega
    · omega
  refine ⟨pk_in (p + 2) 64 (by omega) (nI_add p 2), nm_r (rd_rd hI (p + 2) (by omega) (by omega) (nI_add p 2)) ?_⟩
  refine xl_tl hs hI hb ho ?_
  refine nm_r (nI_add _ _) ?_
  refine pk_loop (fun n i R => wX_reachTable_20 post (nI (im (p + 2) + rd_tl im s p)) n (nI i) f_capacity (nI s) f_entryCount f_analysed f_outputSize f_status f_steps f_pc f_depth f_valueCount a_image a_entry R a_classes a_symbolic a_functionStart a_newAddress a_output a_registers a_stack a_values)
    (fun i R => im (p + 2) ≤ i ∧ ∀ q, q < s → (rd_nz R q ↔ (rd_nz a_reached q ∨ ∃ j, im (p + 2) + j < i ∧ q = im (im (p + 2) + j)))) (im (p + 2) + rd_tl im s p) (im (p + 2)) a_reached (by omega) ?_ ?_ ?_
  · exact ⟨Nat.le_refl _, fun q _ => ⟨Or.inl, fun z => z.elim id fun ⟨j, hj, _⟩ => absurd hj (by omega)⟩⟩
  · rintro n R ⟨-, hR⟩
    refine pk_le (im (p + 2) + rd_tl im s p) (im (p + 2) + rd_tl im s p) (fun _ => hp R fun q hq => ?_) (fun z => absurd z (by omega))
    rw [hR q hq]
    exact ⟨fun z => z.imp id fun ⟨j, hj, e⟩ => ⟨j, by omega, e⟩, fun z => z.imp id fun ⟨j, hj, e⟩ => ⟨j, by omega, e⟩⟩
  · rintro n i R hi ⟨hlow, hR⟩ hn
    have hi64 : i < 64 := by
      have := ht.2 (by omega)
      omega
    have ci := hb i
    refine pk_le (im (p + 2) + rd_tl im s p) i (fun z => absurd z (by omega)) (fun _ => ⟨pk_in i 64 hi64, ?_⟩)
    refine xl_reach (rd_rd hI i hi64 (by omega)) hs (by omega) (fun R' hR' => nm_r (nI_1 i) (hn R' ⟨by omega, fun q hq => ?_⟩))
    rw [hR' q hq, hR q hq]
    constructor
    · rintro ((z | ⟨j, hj, e⟩) | z)
      · exact Or.inl z
      · exact Or.inr ⟨j, by omega, e⟩
      · exact Or.inr ⟨i - im (p + 2), by omega, by rw [z, show im (p + 2) + (i - im (p + 2)) = i by omega]⟩
    · rintro (z | ⟨j, hj, e⟩)
      · exact Or.inl (Or.inl z)
      · by_cases ej : im (p + 2) + j = i
        · exact Or.inr (by rw [e, ej])
        · exact Or.inl (Or.inr ⟨j, by omega, e⟩)
theorem rd_sc_n {m : Nat → Nat} {p q : Nat} (e : m p = 0 ∨ m p = 12 ∨ m p = 14) : ¬ rd_sc m s p q := by
  unfold rd_sc rd_seq
  rcases e with e | e | e <;> rw [e] <;> simp
theorem rd_sc_8 {m : Nat → Nat} {p q : Nat} (e : m p = 8) : rd_sc m s p q ↔ q = m (p + 1) := by
  unfold rd_sc rd_seq
  rw [e]; simp
theorem rd_sc_11 {m : Nat → Nat} {p q : Nat} (e : m p = 11) : rd_sc m s p q ↔ (q = m (p + 1) ∨ q = p + 2) := by
  unfold rd_sc rd_seq
  rw [e]; simp
theorem rd_sc_9 {m : Nat → Nat} {p q : Nat} (e : m p = 9 ∨ m p = 10) : rd_sc m s p q ↔ (q = m (p + 3) ∨ q = p + 4) := by
  unfold rd_sc rd_seq
  rcases e with e | e <;> rw [e] <;> simp
theorem rd_sc_13 {m : Nat → Nat} {p q : Nat} (e : m p = 13) : rd_sc m s p q ↔ ∃ j, j < rd_tl m s p ∧ q = m (m (p + 2) + j) := by
  unfold rd_sc rd_seq
  rw [e]; simp
theorem rd_sc_q {m : Nat → Nat} {p q : Nat} (e : m p = 1 ∨ m p = 2 ∨ m p = 3 ∨ m p = 4 ∨ m p = 5 ∨ m p = 6 ∨ m p = 7) : rd_sc m s p q ↔ q = p + rd_len (m p) := by
  unfold rd_sc rd_seq
  rcases e with e | e | e | e | e | e | e <;> rw [e] <;> simp
theorem xl_succ {p : Nat} (hs : s ≤ 64) (hI : ∀ j, j < 64 → a_image j = nI (im j)) (hb : ∀ j, im j < 256) (ho : rd_ok im s p) (hp : ∀ R, (∀ q, q < s → (rd_nz R q ↔ (rd_nz a_reached q ∨ rd_sc im s p q))) → post (f_capacity, nI s, f_entryCount, f_analysed, f_outputSize, f_status, f_steps, f_pc, f_depth, f_valueCount, a_image, a_entry, R, a_classes, a_symbolic, a_functionStart, a_newAddress, a_output, a_registers, a_stack, a_values)) : wpX_reachSuccessors post (f_capacity, nI s, f_entryCount, f_analysed, f_outputSize, f_status, f_steps, f_pc, f_depth, f_valueCount, a_image, a_entry, a_reached, a_classes, a_symbolic, a_functionStart, a_newAddress, a_output, a_registers, a_stack, a_values) (nI p) := by
  have hps := ho.1
  have hle := ho.2.2.1
  have hl := rd_len_r (im p)
  have b1 := hb (p + 1)
  have b3 := hb (p + 3)
  have H0 : (∀ q, ¬ rd_sc im s p q) → post (f_capacity, nI s, f_entryCount, f_analysed, f_outputSize, f_status, f_steps, f_pc, f_depth, f_valueCount, a_image, a_entry, a_reached, a_classes, a_symbolic, a_functionStart, a_newAddress, a_output, a_registers, a_stack, a_values) := fun h => hp a_reached fun q _ => ⟨Or.inl, fun z => z.resolve_right (h q)⟩
  have H1 : (∀ q, rd_sc im s p q ↔ q = p + rd_len (im p)) → wX_reachSuccessors_158 post (nI (p + rd_len (im p))) f_capacity (nI s) f_entryCount f_analysed f_outputSize f_status f_steps f_pc f_depth f_valueCount a_image a_entry a_reached a_classes a_symbolic a_functionStart a_newAddress a_output a_registers a_stack a_values := by
    intro h
    unfold wX_reachSuccessors_158
    exact xl_reach rfl hs (by omega) fun R hR => hp R fun q hq => by rw [hR q hq, h q]
  have H2 : rd_len (im p) = 4 → (∀ q, rd_sc im s p q ↔ (q = im (p + 3) ∨ q = p + rd_len (im p))) → wX_reachSuccessors_130 post (nI p) (nI (p + rd_len (im p))) f_capacity (nI s) f_entryCount f_analysed f_outputSize f_status f_steps f_pc f_depth f_valueCount a_image a_entry a_reached a_classes a_symbolic a_functionStart a_newAddress a_output a_registers a_stack a_values := by
    intro h4 h
    refine ⟨pk_in (p + 3) 64 (by omega) (nI_add p 3), ?_⟩
    refine xl_reach (rd_rd hI (p + 3) (by omega) (by omega) (nI_add p 3)) hs (by omega) (fun R hR => ?_)
    exact xl_reach rfl hs (by omega) fun R2 hR2 => hp R2 fun q hq => by rw [hR2 q hq, hR q hq, h q, or_assoc]
  refine ⟨pk_in p 64 (by omega), nm_r (rd_rd hI p (by omega) (by omega)) ?_⟩
  refine xl_len ho.2.1 ?_
  refine nm_r (nI_add _ _) ?_
  rcases rd_op15 ho.2.1 with e | e | e | e | e | e | e | e | e | e | e | e | e | e | e
  all_goals (repeat (first | refine br_t (by rw [e]; decide) ?_ | refine br_f (by rw [e]; decide) ?_))
  · exact H0 fun q => rd_sc_n (by omega)
  · exact H1 fun q => rd_sc_q (by omega)
  · exact H1 fun q => rd_sc_q (by omega)
  · exact H1 fun q => rd_sc_q (by omega)
  · exact H1 fun q => rd_sc_q (by omega)
  · exact H1 fun q => rd_sc_q (by omega)
  · exact H1 fun q => rd_sc_q (by omega)
  · exact H1 fun q => rd_sc_q (by omega)
  · have el : rd_len (im p) = 2 := by rw [e]; rfl
    refine ⟨pk_in (p + 1) 64 (by omega) (nI_1 p), ?_⟩
    exact xl_reach (rd_rd hI (p + 1) (by omega) (by omega) (nI_1 p)) hs (by omega) fun R hR => hp R fun q hq => by rw [hR q hq, rd_sc_8 e]
  · have el : rd_len (im p) = 4 := by rw [e]; rfl
    exact H2 el fun q => by rw [rd_sc_9 (by omega), el]
  · have el : rd_len (im p) = 4 := by rw [e]; rfl
    exact H2 el fun q => by rw [rd_sc_9 (by omega), el]
  · have el : rd_len (im p) = 2 := by rw [e]; rfl
    refine ⟨pk_in (p + 1) 64 (by omega) (nI_1 p), ?_⟩
    refine xl_reach (rd_rd hI (p + 1) (by omega) (by omega) (nI_1 p)) hs (by omega) fun R hR => ?_
    exact xl_reach rfl hs (by omega) fun R2 hR2 => hp R2 fun q hq => by rw [hR2 q hq, hR q hq, rd_sc_11 e, el, or_assoc]
  · exact H0 fun q => rd_sc_n (by omega)
  · exact xl_reachTable hs hI hb ho e fun R hR => hp R fun q hq => by rw [hR q hq, rd_sc_13 e]
  · exact H0 fun q => rd_sc_n (by omega)
theorem rd_Ps_skip {m : Nat → Nat} {R0 R : Nat → Prop} {p : Nat} (h : rd_Ps m s E R0 R p) (hn : R0 p → rd_ok m s p → False) : rd_Ps m s E R0 R (p + 1) := by
  refine ⟨h.1, h.2.1, fun p' hp' h0 ho x hx hsc => ?_⟩
  by_cases e : p' = p
  · subst e; exact (hn h0 ho).elim
  · exact h.2.2 p' (by omega) h0 ho x hx hsc
theorem rd_Ps_add {m : Nat → Nat} {R0 R R' : Nat → Prop} {p : Nat} (h : rd_Ps m s E R0 R p) (hR : R p) (ho : rd_ok m s p) (hR' : ∀ q, q < s → (R' q ↔ (R q ∨ rd_sc m s p q))) : rd_Ps m s E R0 R' (p + 1) := by
  refine ⟨fun q hq h0 => (hR' q hq).mpr (Or.inl (h.1 q hq h0)), fun q hq hr => ?_, fun p' hp' h0 hok x hx hsc => ?_⟩
  · rcases (hR' q hq).mp hr with z | z
    · exact h.2.1 q hq z
    · exact rd_LR_s (h.2.1 p ho.1 hR) ho z hq
  · by_cases e : p' = p
    · subst e; exact (hR' x hx).mpr (Or.inr hsc)
    · exact (hR' x hx).mpr (Or.inl (h.2.2 p' (by omega) h0 hok x hx hsc))
theorem rd_br0 {a : Nat → Int32} {i : Nat} {A B : Prop} (hi : i < 2 ^ 31) (f : a i = 0 → A) (g : ¬ a i = 0 → B) : (a (nI i).toNatClampNeg = 0 → A) ∧ (¬ a (nI i).toNatClampNeg = 0 → B) := by
  rw [nI_clamp hi]; exact ⟨f, g⟩
theorem xl_find (hs : s ≤ 64) (hI : ∀ j, j < 64 → a_image j = nI (im j)) (hb : ∀ j, im j < 256) (hE : ∀ j, j < 64 → a_entry j = rd_b (E j)) (hp : ∀ R, (∀ q, q < s → (rd_nz R q ↔ rd_LR im s E q)) → post (f_capacity, nI s, f_entryCount, f_analysed, f_outputSize, f_status, f_steps, f_pc, f_depth, f_valueCount, a_image, a_entry, R, a_classes, a_symbolic, a_functionStart, a_newAddress, a_output, a_registers, a_stack, a_values)) : wpX_findReached post (f_capacity, nI s, f_entryCount, f_analysed, f_outputSize, f_status, f_steps, f_pc, f_depth, f_valueCount, a_image, a_entry, a_reached, a_classes, a_symbolic, a_functionStart, a_newAddress, a_output, a_registers, a_stack, a_values) := by
  refine pk_loop (fun n i R => wX_findReached_2 post f_capacity (nI s) f_entryCount f_analysed f_outputSize f_status f_steps f_pc f_depth f_valueCount n (nI i) a_image a_entry R a_classes a_symbolic a_functionStart a_newAddress a_output a_registers a_stack a_values)
    (fun i R => ∀ q, q < i → (rd_nz R q ↔ E q)) s 0 a_reached (by omega) (fun q hq => absurd hq (by omega)) ?_ ?_
  · intro n R hR
    refine pk_le s s (fun _ => ?_) (fun z => absurd z (by omega))
    refine pk_loop (fun n k R => wX_findReached_30 post n (nI k) f_capacity (nI s) f_entryCount f_analysed f_outputSize f_status f_steps f_pc f_depth f_valueCount a_image a_entry R a_classes a_symbolic a_functionStart a_newAddress a_output a_registers a_stack a_values) (fun k R => rd_J im s E (rd_nz R) k) s 0 R (by omega) ?_ ?_ ?_
    · exact ⟨fun q hq he => (hR q hq).mpr he, fun q hq hr => rd_LR_e hq ((hR q hq).mp hr), Or.inr (Nat.zero_le _)⟩
    · intro n R hJ
      exact pk_le s s (fun _ => hp R fun q hq => rd_J_fin hJ hq) (fun z => absurd z (by omega))
    · intro n k R hk hJ hn
      refine pk_le s k (fun z => absurd z (by omega)) (fun _ => ?_)
      refine pk_loop (fun n' i R' => wX_findReached_40 post (wX_findReached_30 post n) (nI k) n' (nI i) f_capacity (nI s) f_entryCount f_analysed f_outputSize f_status f_steps f_pc f_depth f_valueCount a_image a_entry (R') a_classes a_symbolic a_functionStart a_newAddress a_output a_registers a_stack a_values) (fun i R' => rd_Ps im s E (rd_nz R) (rd_nz R') i) s 0 R (by omega) ?_ ?_ ?_
      · exact ⟨fun _ _ h => h, hJ.2.1, fun p' hp' => absurd hp' (by omega)⟩
      · intro n' R' hP
        exact pk_le s s (fun _ => nm_r (nI_1 k) (hn R' (rd_J_next hJ hP))) (fun z => absurd z (by omega))
      · intro n' i R' hi hP hn'
        refine pk_le s i (fun z => absurd z (by omega)) (fun _ => ⟨pk_in i 64 (by omega), rd_br0 (by omega) (fun z => nm_r (nI_1 i) (hn' R' (rd_Ps_skip hP fun h0 _ => hP.1 i hi h0 z))) (fun z => ?_)⟩)
        refine xl_dec_image (m := im) hs (fun j hj => hI j (by omega)) hb (by omega) ?_
        refine rd_brb (fun hno => nm_r (nI_1 i) (hn' R' (rd_Ps_skip hP fun _ ho => hno ho))) (fun ho => ?_)
        exact xl_succ hs hI hb ho fun R2 hR2 => nm_r (nI_1 i) (hn' R2 (rd_Ps_add hP z ho hR2))
  · intro n i R hi hR hn
    refine pk_le s i (fun z => absurd z (by omega)) (fun _ => ⟨pk_in i 64 (by omega), pk_in i 64 (by omega), nm_r (e' := upd R i (rd_b (E i))) ?_ (nm_r (nI_1 i) (hn _ fun q hq => ?_))⟩)
    · rw [nI_clamp (by omega), hE i (by omega), rd_nbb]
    · unfold rd_nz
      by_cases e : q = i
      · subst e
        rw [pk_us, rd_b0]; exact Classical.not_not
      · rw [pk_un e]; exact hR q (by omega)
end
end
section
/-! X: kinds, symbols, function starts -/
section
variable {f_capacity f_size f_entryCount f_analysed f_outputSize f_status f_steps f_pc f_depth f_valueCount : Int32} {a_image a_entry a_reached a_classes a_symbolic a_functionStart a_newAddress a_output a_registers a_stack a_values : Nat → Int32} {im : Nat → Nat} {s : Nat} {E : Nat → Prop} {post : St2 → Prop}
theorem rd_br1 {a : Nat → Int32} {i : Nat} {A B : Prop} (hi : i < 2 ^ 31) (f : a i = 1 → A) (g : ¬ a i = 1 → B) : (a (nI i).toNatClampNeg = 1 → A) ∧ (¬ a (nI i).toNatClampNeg = 1 → B) := by
  rw [nI_clamp hi]; exact ⟨f, g⟩
theorem xl_len' {post : Int32 → Prop} {op : Nat} {x : Int32} (hx : x = nI op) (h : op ≤ 14) (hp : post (nI (rd_len op))) : wpX_lengthOf post (f_capacity, nI s, f_entryCount, f_analysed, f_outputSize, f_status, f_steps, f_pc, f_depth, f_valueCount, a_image, a_entry, a_reached, a_classes, a_symbolic, a_functionStart, a_newAddress, a_output, a_registers, a_stack, a_values) x := by
  subst hx; exact xl_len h hp
theorem xl_slo' {post : Int32 → Prop} {op : Nat} {x : Int32} (hx : x = nI op) (h : op ≤ 14) (hp : post (nI (rd_slo op))) : wpX_slotOffset post (f_capacity, nI s, f_entryCount, f_analysed, f_outputSize, f_status, f_steps, f_pc, f_depth, f_valueCount, a_image, a_entry, a_reached, a_classes, a_symbolic, a_functionStart, a_newAddress, a_output, a_registers, a_stack, a_values) x := by
  subst hx; exact xl_slo h hp
theorem xl_claim {f e : Nat} {c x y : Int32} (hx : x = nI f) (hy : y = nI e) (hfe : f ≤ e) (he : e ≤ 64) (hp : post (f_capacity, nI s, f_entryCount, f_analysed, f_outputSize, f_status, f_steps, f_pc, f_depth, f_valueCount, a_image, a_entry, a_reached, rd_clm a_classes f e c, a_symbolic, a_functionStart, a_newAddress, a_output, a_registers, a_stack, a_values)) : wpX_claim post (f_capacity, nI s, f_entryCount, f_analysed, f_outputSize, f_status, f_steps, f_pc, f_depth, f_valueCount, a_image, a_entry, a_reached, a_classes, a_symbolic, a_functionStart, a_newAddress, a_output, a_registers, a_stack, a_values) x y c := by
  subst hx hy
  refine pk_loop (fun n i A => wX_claim_3 post (nI e) c f_capacity (nI s) f_entryCount f_analysed f_outputSize f_status f_steps f_pc f_depth f_valueCount n (nI i) a_image a_entry a_reached A a_symbolic a_functionStart a_newAddress a_output a_registers a_stack a_values) (fun i A => f ≤ i ∧ A = rd_clm a_classes f i c) e f a_classes hfe ?_ ?_ ?_
  · exact ⟨Nat.le_refl _, (rd_clm_0 _ _ (Nat.le_refl _) _).symm⟩
  · rintro n A ⟨-, rfl⟩
    exact pk_le e e (fun _ => hp) (fun z => absurd z (by omega))
  · rintro n i A hi ⟨hf, rfl⟩ hn
    refine pk_le e i (fun z => absurd z (by omega)) (fun _ => ⟨pk_in i 64 (by omega), rd_br0 (by omega) (fun z => ⟨pk_in i 64 (by omega), nm_r (e' := upd (rd_clm a_classes f i c) i c) ?_ (nm_r (nI_1 i) (hn _ ⟨by omega, rd_clm_t hf z⟩))⟩) (fun z => nm_r (nI_1 i) (hn _ ⟨by omega, rd_clm_f z⟩))⟩)
    rw [nI_clamp (by omega)]
theorem xl_claimTable {p : Nat} (hs : s ≤ 64) (hI : ∀ j, j < 64 → a_image j = nI (im j)) (hb : ∀ j, im j < 256) (ho : rd_ok im s p) (hp : post (f_capacity, nI s, f_entryCount, f_analysed, f_outputSize, f_status, f_steps, f_pc, f_depth, f_valueCount, a_image, a_entry, a_reached, rd_clm a_classes (im (p + 2)) (im (p + 2) + rd_tl im s p) 3, a_symbolic, a_functionStart, a_newAddress, a_output, a_registers, a_stack, a_values)) : wpX_claimTable post (f_capacity, nI s, f_entryCount, f_analysed, f_outputSize, f_status, f_steps, f_pc, f_depth, f_valueCount, a_image, a_entry, a_reached, a_classes, a_symbolic, a_functionStart, a_newAddress, a_output, a_registers, a_stack, a_values) (nI p) := by
  unfold wpX_claimTable
  refine xl_tl hs hI hb ho ?_
  by_cases h0 : 0 < rd_tl im s p
  · have ht := rd_tl_le h0
    have hle := ho.2.2.1
    have el : rd_len (im p) = 3 := by rw [ht.1.1]; rfl
    have c2 := hb (p + 2)
    refine pk_le (rd_tl im s p) 0 (fun z => absurd z (by omega)) (fun _ => ⟨pk_in (p + 2) 64 (by omega) (nI_add p 2), nm_r (rd_rd hI (p + 2) (by omega) (by omega) (nI_add p 2)) ?_⟩)
    exact xl_claim rfl (nI_add _ _) (by omega) (by omega) hp
  · have e0 : rd_tl im s p = 0 := by omega
    rw [e0]
    rw [e0, rd_clm_0 _ _ (by omega)] at hp
    exact br_t (by decide) hp
theorem xl_classify (hs : s ≤ 64) (hI : ∀ j, j < 64 → a_image j = nI (im j)) (hb : ∀ j, im j < 256) (hR : ∀ q, q < s → (rd_nz a_reached q ↔ rd_LR im s E q)) (hp : ∀ C, (∀ q, q < s → C q = rd_cls im s E q) → post (f_capacity, nI s, f_entryCount, f_analysed, f_outputSize, f_status, f_steps, f_pc, f_depth, f_valueCount, a_image, a_entry, a_reached, C, a_symbolic, a_functionStart, a_newAddress, a_output, a_registers, a_stack, a_values)) : wpX_classify post (f_capacity, nI s, f_entryCount, f_analysed, f_outputSize, f_status, f_steps, f_pc, f_depth, f_valueCount, a_image, a_entry, a_reached, a_classes, a_symbolic, a_functionStart, a_newAddress, a_output, a_registers, a_stack, a_values) := by
  refine pk_loop (fun n i A => wX_classify_2 post f_capacity (nI s) f_entryCount f_analysed f_outputSize f_status f_steps f_pc f_depth f_valueCount n (nI i) a_image a_entry a_reached A a_symbolic a_functionStart a_newAddress a_output a_registers a_stack a_values) (fun i A => ∀ q, q < i → A q = rd_c2 im s E (fun _ => False) (fun _ => False) q) s 0 a_classes (by omega) (fun q hq => absurd hq (by omega)) ?_ ?_
  · intro n A hA
    refine pk_le s s (fun _ => ?_) (fun z => absurd z (by omega))
    refine pk_loop (fun n i A => wX_classify_64 post n (nI i) f_capacity (nI s) f_entryCount f_analysed f_outputSize f_status f_steps f_pc f_depth f_valueCount a_image a_entry a_reached A a_symbolic a_functionStart a_newAddress a_output a_registers a_stack a_values) (fun i A => ∀ q, q < s → A q = rd_c2 im s E (rd_opd im s E i) (fun _ => False) q) s 0 A (by omega) ?_ ?_ ?_
    · intro q hq
      rw [hA q hq]
      exact rd_c2_c ⟨False.elim, rd_opd_0⟩ Iff.rfl
    · intro n A hA
      refine pk_le s s (fun _ => ?_) (fun z => absurd z (by omega))
      refine pk_loop (fun n i A => wX_classify_112 post n (nI i) f_capacity (nI s) f_entryCount f_analysed f_outputSize f_status f_steps f_pc f_depth f_valueCount a_image a_entry a_reached A a_symbolic a_functionStart a_newAddress a_output a_registers a_stack a_values) (fun i A => ∀ q, q < s → A q = rd_c2 im s E (rd_opd im s E s) (rd_tab im s E i) q) s 0 A (by omega) ?_ ?_ ?_
      · intro q hq
        rw [hA q hq]
        exact rd_c2_c Iff.rfl ⟨False.elim, rd_tab_0⟩
      · intro n A hA
        exact pk_le s s (fun _ => hp A hA) (fun z => absurd z (by omega))
      · intro n i A hi hA hn
        refine pk_le s i (fun z => absurd z (by omega)) (fun _ => ⟨pk_in i 64 (by omega), rd_br1 (by omega) (fun z => ?_) (fun z => nm_r (nI_1 i) (hn A fun q hq => ?_))⟩)
        · rw [hA i hi, rd_c2_st] at z
          refine xl_claimTable hs hI hb z.2 (nm_r (nI_1 i) (hn _ fun q hq => ?_))
          rw [rd_clm_tab (hA q hq)]
          exact rd_c2_c Iff.rfl ⟨fun h => rd_tab_s.mpr (h.imp id fun h => ⟨z, h⟩), fun h => (rd_tab_s.mp h).imp id fun h => h.2⟩
        · rw [hA i hi, rd_c2_st] at z
          rw [hA q hq]
          exact rd_c2_c Iff.rfl ⟨fun h => rd_tab_s.mpr (Or.inl h), fun h => (rd_tab_s.mp h).resolve_right fun h => z h.1⟩
    · intro n i A hi hA hn
      refine pk_le s i (fun z => absurd z (by omega)) (fun _ => ⟨pk_in i 64 (by omega), rd_br1 (by omega) (fun z => ⟨pk_in i 64 (by omega), ?_⟩) (fun z => nm_r (nI_1 i) (hn A fun q hq => ?_))⟩)
      · rw [hA i hi, rd_c2_st] at z
        have hl := rd_len_r (im i)
        have hle := z.2.2.2.1
        refine xl_len' (rd_rd hI i (by omega) (by omega)) z.2.2.1 (nm_r (nI_add _ _) ?_)
        refine xl_claim (nI_1 i) rfl (by omega) (by omega) (nm_r (nI_1 i) (hn _ fun q hq => ?_))
        rw [rd_clm_opd (hA q hq)]
        exact rd_c2_c ⟨fun h => rd_opd_s.mpr (h.imp id fun h => ⟨z, by omega, h.2⟩), fun h => (rd_opd_s.mp h).imp id fun h => ⟨by omega, h.2.2⟩⟩ Iff.rfl
      · rw [hA i hi, rd_c2_st] at z
        rw [hA q hq]
        exact rd_c2_c ⟨fun h => rd_opd_s.mpr (Or.inl h), fun h => (rd_opd_s.mp h).resolve_right fun h => z h.1⟩ Iff.rfl
  · intro n i A hi hA hn
    have T : ∀ x : Int32, x = rd_c2 im s E (fun _ => False) (fun _ => False) i → ∀ q, q < i + 1 → upd A i x q = rd_c2 im s E (fun _ => False) (fun _ => False) q := by
      intro x hx q hq
      by_cases e : q = i
      · subst e; rw [pk_us]; exact hx
      · rw [pk_un e]; exact hA q (by omega)
    refine pk_le s i (fun z => absurd z (by omega)) (fun _ => ⟨pk_in i 64 (by omega), rd_br0 (by omega) (fun z => ⟨pk_in i 64 (by omega), nm_r (e' := upd A i 0) ?_ (nm_r (nI_1 i) (hn _ (T _ ?_)))⟩) (fun z => ?_)⟩)
    · rw [nI_clamp (by omega)]
    · exact (rd_c2_0.mpr ⟨fun h => (hR i hi).mpr h z, fun h => h, fun h => h⟩).symm
    · have hL := (hR i hi).mp z
      refine xl_dec_image (m := im) hs (fun j hj => hI j (by omega)) hb (by omega) ?_
      refine rd_brb (fun hno => ⟨pk_in i 64 (by omega), nm_r (e' := upd A i 4) ?_ (nm_r (nI_1 i) (hn _ (T _ ?_)))⟩) (fun ho => ⟨pk_in i 64 (by omega), nm_r (e' := upd A i 1) ?_ (nm_r (nI_1 i) (hn _ (T _ ?_)))⟩)
      · rw [nI_clamp (by omega)]
      · unfold rd_c2; rw [rd_if_t hL, rd_if_f hno]
      · rw [nI_clamp (by omega)]
      · unfold rd_c2; rw [rd_if_t hL, rd_if_t ho]
theorem xl_markIf {a : Nat} {x : Int32} (hx : x = nI a) (ha : a < 64) (hs : s ≤ 64) (hI : ∀ j, j < 64 → a_image j = nI (im j)) (hb : ∀ j, im j < 256) (hp : ∀ S, (∀ q, q < s → ∀ P : Prop, a_symbolic q = rd_b P → S q = rd_b (P ∨ (im q < s ∧ q = a))) → post (f_capacity, nI s, f_entryCount, f_analysed, f_outputSize, f_status, f_steps, f_pc, f_depth, f_valueCount, a_image, a_entry, a_reached, a_classes, S, a_functionStart, a_newAddress, a_output, a_registers, a_stack, a_values)) : wpX_markIfAddress post (f_capacity, nI s, f_entryCount, f_analysed, f_outputSize, f_status, f_steps, f_pc, f_depth, f_valueCount, a_image, a_entry, a_reached, a_classes, a_symbolic, a_functionStart, a_newAddress, a_output, a_registers, a_stack, a_values) x := by
  subst hx
  have ca := hb a
  refine ⟨pk_in a 64 ha, pk_le s (im a) (fun h => hp _ fun q hq P hP => ?_) (fun h => ⟨pk_in a 64 ha, nm_r (e' := upd a_symbolic a 1) ?_ (hp _ fun q hq P hP => ?_)⟩) rfl (rd_rd hI a ha (by omega))⟩
  · rw [hP]
    refine rd_bc ⟨Or.inl, fun z => z.resolve_right ?_⟩
    rintro ⟨z1, rfl⟩
    omega
  · rw [nI_clamp (by omega)]
  · by_cases e : q = a
    · subst e; rw [pk_us]; exact (rd_b_t (Or.inr ⟨h, rfl⟩)).symm
    · rw [pk_un e, hP]
      exact rd_bc ⟨Or.inl, fun z => z.resolve_right fun z => e z.2⟩
theorem xl_mark22 {p : Nat} (hs : s ≤ 64) (hI : ∀ j, j < 64 → a_image j = nI (im j)) (hb : ∀ j, im j < 256) (ho : rd_ok im s p) (hp : ∀ S, (∀ q, q < s → ∀ P : Prop, a_symbolic q = rd_b P → S q = rd_b (P ∨ (im q < s ∧ im (p + 2) ≤ q ∧ q < im (p + 2) + rd_tl im s p))) → post (f_capacity, nI s, f_entryCount, f_analysed, f_outputSize, f_status, f_steps, f_pc, f_depth, f_valueCount, a_image, a_entry, a_reached, a_classes, S, a_functionStart, a_newAddress, a_output, a_registers, a_stack, a_values)) : wX_markSymbolsOf_22 post (nI p) f_capacity (nI s) f_entryCount f_analysed f_outputSize f_status f_steps f_pc f_depth f_valueCount a_image a_entry a_reached a_classes a_symbolic a_functionStart a_newAddress a_output a_registers a_stack a_values := by
  unfold wX_markSymbolsOf_22
  refine xl_tl hs hI hb ho ?_
  by_cases h0 : 0 < rd_tl im s p
  · have ht := rd_tl_le h0
    have hle := ho.2.2.1
    have el : rd_len (im p) = 3 := by rw [ht.1.1]; rfl
    have c2 := hb (p + 2)
    refine pk_le (rd_tl im s p) 0 (fun z => absurd z (by omega)) (fun _ => ⟨pk_in (p + 2) 64 (by omega) (nI_add p 2), nm_r (rd_rd hI (p + 2) (by omega) (by omega) (nI_add p 2)) ?_⟩)
    refine pk_loop (fun n i S => wX_markSymbolsOf_46 post (nI (rd_tl im s p)) (nI (im (p + 2))) n (nI i) f_capacity (nI s) f_entryCount f_analysed f_outputSize f_status f_steps f_pc f_depth f_valueCount a_image a_entry a_reached a_classes S a_functionStart a_newAddress a_output a_registers a_stack a_values)
      (fun i S => im (p + 2) ≤ i ∧ ∀ q, q < s → ∀ P : Prop, a_symbolic q = rd_b P → S q = rd_b (P ∨ (im q < s ∧ im (p + 2) ≤ q ∧ q < i))) (im (p + 2) + rd_tl im s p) (im (p + 2)) a_symbolic (by omega) ?_ ?_ ?_
    · refine ⟨Nat.le_refl _, fun q hq P hP => ?_⟩
      rw [hP]; exact rd_bc ⟨Or.inl, fun z => z.resolve_right (by omega)⟩
    · rintro n S ⟨-, hS⟩
      exact pk_le (im (p + 2) + rd_tl im s p) (im (p + 2) + rd_tl im s p) (fun _ => hp S hS) (fun z => absurd z (by omega)) (nI_add _ _) rfl
    · rintro n i S hi ⟨hf, hS⟩ hn
      refine pk_le (im (p + 2) + rd_tl im s p) i (fun z => absurd z (by omega)) (fun _ => ?_) (nI_add _ _) rfl
      refine xl_markIf rfl (by omega) hs hI hb fun S' hS' => nm_r (nI_1 i) (hn S' ⟨by omega, fun q hq P hP => ?_⟩)
      rw [hS' q hq _ (hS q hq P hP)]
      refine rd_bc ⟨?_, ?_⟩
      · rintro ((z | z) | ⟨z1, z2⟩)
        · exact Or.inl z
        · exact Or.inr ⟨z.1, z.2.1, by omega⟩
        · exact Or.inr ⟨z1, by omega, by omega⟩
      · rintro (z | ⟨z1, z2, z3⟩)
        · exact Or.inl (Or.inl z)
        · by_cases e : q = i
          · exact Or.inr ⟨z1, e⟩
          · exact Or.inl (Or.inr ⟨z1, z2, by omega⟩)
  · have e0 : rd_tl im s p = 0 := by omega
    rw [e0]
    refine br_t (by decide) (hp a_symbolic fun q hq P hP => ?_)
    rw [hP]; exact rd_bc ⟨Or.inl, fun z => z.resolve_right (by omega)⟩
theorem xl_markOf {p : Nat} (hs : s ≤ 64) (hI : ∀ j, j < 64 → a_image j = nI (im j)) (hb : ∀ j, im j < 256) (ho : rd_ok im s p) (hp : ∀ S, (∀ q, q < s → ∀ P : Prop, a_symbolic q = rd_b P → S q = rd_b (P ∨ (im q < s ∧ ((0 < rd_slo (im p) ∧ q = p + rd_slo (im p)) ∨ (im (p + 2) ≤ q ∧ q < im (p + 2) + rd_tl im s p))))) → post (f_capacity, nI s, f_entryCount, f_analysed, f_outputSize, f_status, f_steps, f_pc, f_depth, f_valueCount, a_image, a_entry, a_reached, a_classes, S, a_functionStart, a_newAddress, a_output, a_registers, a_stack, a_values)) : wpX_markSymbolsOf post (f_capacity, nI s, f_entryCount, f_analysed, f_outputSize, f_status, f_steps, f_pc, f_depth, f_valueCount, a_image, a_entry, a_reached, a_classes, a_symbolic, a_functionStart, a_newAddress, a_output, a_registers, a_stack, a_values) (nI p) := by
  have hps := ho.1
  have hle := ho.2.2.1
  have hsl := rd_slo_r (im p)
  refine ⟨pk_in p 64 (by omega), ?_⟩
  refine xl_slo' (rd_rd hI p (by omega) (by omega)) ho.2.1 ?_
  refine pk_le (rd_slo (im p)) 0 (fun h => ?_) (fun h => ?_)
  · refine xl_mark22 hs hI hb ho fun S hS => hp S fun q hq P hP => ?_
    rw [hS q hq P hP]
    exact rd_bc ⟨fun z => z.imp id fun z => ⟨z.1, Or.inr z.2⟩, fun z => z.imp id fun z => ⟨z.1, z.2.resolve_left (by omega)⟩⟩
  · have hlt := rd_slo_len (im p) ho.2.1 h
    refine xl_markIf (nI_add _ _) (by omega) hs hI hb fun S hS => ?_
    refine xl_mark22 hs hI hb ho fun S2 hS2 => hp S2 fun q hq P hP => ?_
    rw [hS2 q hq _ (hS q hq P hP)]
    refine rd_bc ⟨?_, ?_⟩
    · rintro ((z | z) | z)
      · exact Or.inl z
      · exact Or.inr ⟨z.1, Or.inl ⟨h, z.2⟩⟩
      · exact Or.inr ⟨z.1, Or.inr z.2⟩
    · rintro (z | ⟨z1, z2 | z2⟩)
      · exact Or.inl (Or.inl z)
      · exact Or.inl (Or.inr ⟨z1, z2.2⟩)
      · exact Or.inr ⟨z1, z2⟩
theorem xl_markSymbols (hs : s ≤ 64) (hI : ∀ j, j < 64 → a_image j = nI (im j)) (hb : ∀ j, im j < 256) (hC : ∀ q, q < s → a_classes q = rd_cls im s E q) (hp : ∀ S, (∀ q, q < s → S q = rd_b (rd_sym im s E s q)) → post (f_capacity, nI s, f_entryCount, f_analysed, f_outputSize, f_status, f_steps, f_pc, f_depth, f_valueCount, a_image, a_entry, a_reached, a_classes, S, a_functionStart, a_newAddress, a_output, a_registers, a_stack, a_values)) : wpX_markSymbols post (f_capacity, nI s, f_entryCount, f_analysed, f_outputSize, f_status, f_steps, f_pc, f_depth, f_valueCount, a_image, a_entry, a_reached, a_classes, a_symbolic, a_functionStart, a_newAddress, a_output, a_registers, a_stack, a_values) := by
  refine pk_loop (fun n i S => wX_markSymbols_2 post f_capacity (nI s) f_entryCount f_analysed f_outputSize f_status f_steps f_pc f_depth f_valueCount n (nI i) a_image a_entry a_reached a_classes S a_functionStart a_newAddress a_output a_registers a_stack a_values) (fun i S => ∀ q, q < i → S q = 0) s 0 a_symbolic (by omega) (fun q hq => absurd hq (by omega)) ?_ ?_
  · intro n S hS
    refine pk_le s s (fun _ => ?_) (fun z => absurd z (by omega))
    refine pk_loop (fun n i S => wX_markSymbols_25 post n (nI i) f_capacity (nI s) f_entryCount f_analysed f_outputSize f_status f_steps f_pc f_depth f_valueCount a_image a_entry a_reached a_classes S a_functionStart a_newAddress a_output a_registers a_stack a_values) (fun i S => ∀ q, q < s → S q = rd_b (rd_sym im s E i q)) s 0 S (by omega) ?_ ?_ ?_
    · intro q hq
      rw [hS q hq]
      exact (rd_b_f fun h => h.2.elim rd_slot_0 rd_tab_0).symm
    · intro n S hS
      exact pk_le s s (fun _ => hp S hS) (fun z => absurd z (by omega))
    · intro n i S hi hS hn
      refine pk_le s i (fun z => absurd z (by omega)) (fun _ => ⟨pk_in i 64 (by omega), rd_br1 (by omega) (fun z => ?_) (fun z => nm_r (nI_1 i) (hn S fun q hq => ?_))⟩)
      · rw [hC i hi, rd_cls, rd_c2_st] at z
        refine xl_markOf hs hI hb z.2 fun S' hS' => nm_r (nI_1 i) (hn S' fun q hq => ?_)
        rw [hS' q hq _ (hS q hq)]
        refine rd_bc ⟨?_, ?_⟩
        · rintro (⟨z1, z2 | z2⟩ | ⟨z1, z2 | z2⟩)
          · exact ⟨z1, Or.inl (rd_slot_s.mpr (Or.inl z2))⟩
          · exact ⟨z1, Or.inr (rd_tab_s.mpr (Or.inl z2))⟩
          · exact ⟨z1, Or.inl (rd_slot_s.mpr (Or.inr ⟨z, z2⟩))⟩
          · exact ⟨z1, Or.inr (rd_tab_s.mpr (Or.inr ⟨z, z2⟩))⟩
        · rintro ⟨z1, z2 | z2⟩
          · rcases rd_slot_s.mp z2 with z3 | z3
            · exact Or.inl ⟨z1, Or.inl z3⟩
            · exact Or.inr ⟨z1, Or.inl z3.2⟩
          · rcases rd_tab_s.mp z2 with z3 | z3
            · exact Or.inl ⟨z1, Or.inr z3⟩
            · exact Or.inr ⟨z1, Or.inr z3.2⟩
      · rw [hC i hi, rd_cls, rd_c2_st] at z
        rw [hS q hq]
        exact rd_bc ⟨fun h => ⟨h.1, h.2.imp (fun h => rd_slot_s.mpr (Or.inl h)) fun h => rd_tab_s.mpr (Or.inl h)⟩, fun h => ⟨h.1, h.2.imp (fun h => (rd_slot_s.mp h).resolve_right fun h => z h.1) fun h => (rd_tab_s.mp h).resolve_right fun h => z h.1⟩⟩
  · intro n i S hi hS hn
    refine pk_le s i (fun z => absurd z (by omega)) (fun _ => ⟨pk_in i 64 (by omega), nm_r (e' := upd S i 0) ?_ (nm_r (nI_1 i) (hn _ fun q hq => ?_))⟩)
    · rw [nI_clamp (by omega)]
    · by_cases e : q = i
      · subst e; exact pk_us
      · rw [pk_un e]; exact hS q (by omega)
theorem xl_markFS (hs : s ≤ 64) (hI : ∀ j, j < 64 → a_image j = nI (im j)) (hb : ∀ j, im j < 256) (hE : ∀ j, j < 64 → a_entry j = rd_b (E j)) (hC : ∀ q, q < s → a_classes q = rd_cls im s E q) (hp : ∀ F, (∀ q, q < s → F q = rd_b (rd_fs im s E q)) → post (f_capacity, nI s, f_entryCount, f_analysed, f_outputSize, f_status, f_steps, f_pc, f_depth, f_valueCount, a_image, a_entry, a_reached, a_classes, a_symbolic, F, a_newAddress, a_output, a_registers, a_stack, a_values)) : wpX_markFunctionStarts post (f_capacity, nI s, f_entryCount, f_analysed, f_outputSize, f_status, f_steps, f_pc, f_depth, f_valueCount, a_image, a_entry, a_reached, a_classes, a_symbolic, a_functionStart, a_newAddress, a_output, a_registers, a_stack, a_values) := by
  refine pk_loop (fun n i F => wX_markFunctionStarts_2 post f_capacity (nI s) f_entryCount f_analysed f_outputSize f_status f_steps f_pc f_depth f_valueCount n (nI i) a_image a_entry a_reached a_classes a_symbolic F a_newAddress a_output a_registers a_stack a_values) (fun i F => ∀ q, q < i → F q = rd_b (E q)) s 0 a_functionStart (by omega) (fun q hq => absurd hq (by omega)) ?_ ?_
  · intro n F hF
    refine pk_le s s (fun _ => ?_) (fun z => absurd z (by omega))
    refine pk_loop (fun n i F => wX_markFunctionStarts_30 post f_capacity (nI s) f_entryCount f_analysed f_outputSize f_status f_steps f_pc f_depth f_valueCount n (nI i) a_image a_entry a_reached a_classes a_symbolic F a_newAddress a_output a_registers a_stack a_values) (fun i F => ∀ q, q < s → F q = rd_b (E q ∨ rd_cal im s E i q)) s 0 F (by omega) ?_ ?_ ?_
    · intro q hq
      rw [hF q hq]
      exact rd_bc ⟨Or.inl, fun z => z.resolve_right rd_cal_0⟩
    · intro n F hF
      exact pk_le s s (fun _ => hp F hF) (fun z => absurd z (by omega))
    · intro n i F hi hF hn
      have N : (∀ q, q < s → ¬ (rd_st im s E i ∧ im i = 11 ∧ im (i + 1) = q)) → ∀ q, q < s → F q = rd_b (E q ∨ rd_cal im s E (i + 1) q) := by
        intro h q hq
        rw [hF q hq]
        exact rd_bc ⟨fun z => z.imp id fun z => rd_cal_s.mpr (Or.inl z), fun z => z.imp id fun z => (rd_cal_s.mp z).resolve_right (h q hq)⟩
      have bi := hb i
      refine pk_le s i (fun z => absurd z (by omega)) (fun _ => ⟨pk_in i 64 (by omega), rd_br1 (by omega) (fun z => ⟨pk_in i 64 (by omega), ?_⟩) (fun z => nm_r (nI_1 i) (hn F (N fun q hq h => ?_)))⟩)
      · rw [hC i hi, rd_cls, rd_c2_st] at z
        have hle := z.2.2.2.1
        refine pk_eq (im i) 11 (fun e => ?_) (fun e => nm_r (nI_1 i) (hn F (N fun q hq h => e h.2.1))) (rd_rd hI i (by omega) (by omega)) rfl
        have el : rd_len (im i) = 2 := by rw [e]; rfl
        have c1 := hb (i + 1)
        have hr := rd_rd hI (i + 1) (by omega) (by omega) (x := nI i + 1) (nI_1 i)
        refine ⟨pk_in (i + 1) 64 (by omega) (nI_1 i), pk_le s (im (i + 1)) (fun h => nm_r (nI_1 i) (hn F (N fun q hq hh => ?_))) (fun h => ⟨pk_in (i + 1) 64 (by omega) (nI_1 i), pk_in (im (i + 1)) 64 (by omega) hr, nm_r (e' := upd F (im (i + 1)) 1) ?_ (nm_r (nI_1 i) (hn _ fun q hq => ?_))⟩) rfl hr⟩
        · have := hh.2.2; omega
        · rw [hr, nI_clamp (by omega)]
        · by_cases eq : q = im (i + 1)
          · rw [eq, pk_us]
            exact (rd_b_t (Or.inr (rd_cal_s.mpr (Or.inr ⟨z, e, rfl⟩)))).symm
          · rw [pk_un eq, hF q hq]
            exact rd_bc ⟨fun z => z.imp id fun z => rd_cal_s.mpr (Or.inl z), fun z => z.imp id fun z => (rd_cal_s.mp z).resolve_right fun h => eq h.2.2.symm⟩
      · rw [hC i hi, rd_cls, rd_c2_st] at z
        exact z h.1
  · intro n i F hi hF hn
    refine pk_le s i (fun z => absurd z (by omega)) (fun _ => ⟨pk_in i 64 (by omega), pk_in i 64 (by omega), nm_r (e' := upd F i (rd_b (E i))) ?_ (nm_r (nI_1 i) (hn _ fun q hq => ?_))⟩)
    · rw [nI_clamp (by omega), hE i (by omega), rd_nbb]
    · by_cases e : q = i
      · subst e; exact pk_us
      · rw [pk_un e]; exact hF q (by omega)
end
end
section
/-! X: the layout, and analyse -/
section
variable {f_capacity f_size f_entryCount f_analysed f_outputSize f_status f_steps f_pc f_depth f_valueCount : Int32} {a_image a_entry a_reached a_classes a_symbolic a_functionStart a_newAddress a_output a_registers a_stack a_values : Nat → Int32} {im : Nat → Nat} {s : Nat} {E : Nat → Prop} {post : St2 → Prop}
theorem xl_layOut {pd : Nat} (h0 : 0 < s) (hpd : pd ≤ 3) (hs : s ≤ 64) (hI : ∀ j, j < 64 → a_image j = nI (im j)) (hb : ∀ j, im j < 256) (hS : ∀ q, q < s → a_symbolic q = rd_b (rd_sym im s E s q)) (hF : ∀ q, q < s → a_functionStart q = rd_b (rd_fs im s E q)) (hp : ∀ A O, (∀ q, q < s → A q = nI (rd_na im s E pd q)) → (∀ i, i < rd_os im s E pd → O i = nI (rd_ob im s E pd i)) → post (f_capacity, nI s, f_entryCount, f_analysed, nI (rd_os im s E pd), f_status, f_steps, f_pc, f_depth, f_valueCount, a_image, a_entry, a_reached, a_classes, a_symbolic, a_functionStart, A, O, a_registers, a_stack, a_values)) : wpX_layOut post (f_capacity, nI s, f_entryCount, f_analysed, f_outputSize, f_status, f_steps, f_pc, f_depth, f_valueCount, a_image, a_entry, a_reached, a_classes, a_symbolic, a_functionStart, a_newAddress, a_output, a_registers, a_stack, a_values) (nI pd) := by
  have hos := rd_os_le im E h0 hs hpd
  have hcm : ∀ i, i ≤ s → pd * rd_cnt (rd_G im s E) i ≤ 3 * 64 := fun i hi => Nat.mul_le_mul hpd (Nat.le_trans (rd_cnt_le _ i) (by omega))
  refine pk_loop (fun n i A => wX_layOut_4 post (nI pd) f_capacity (nI s) f_entryCount f_analysed f_outputSize f_status f_steps f_pc f_depth f_valueCount n (nI (pd * rd_cnt (rd_G im s E) i)) (nI i) a_image a_entry a_reached a_classes a_symbolic a_functionStart A a_output a_registers a_stack a_values) (fun i A => ∀ q, q < i → A q = nI (rd_na im s E pd q)) s 0 a_newAddress (by omega) (fun q hq => absurd hq (by omega)) ?_ ?_
  · intro n A hA
    refine pk_le s s (fun _ => nm_r (e' := nI (rd_os im s E pd)) (nI_add _ _) ?_) (fun z => absurd z (by omega))
    refine pk_loop (fun n i O => wX_layOut_56 post f_capacity (nI s) f_entryCount f_analysed (nI (rd_os im s E pd)) f_status f_steps f_pc f_depth f_valueCount n (nI i) a_image a_entry a_reached a_classes a_symbolic a_functionStart A O a_registers a_stack a_values) (fun i O => ∀ j, j < i → O j = 1) (rd_os im s E pd) 0 a_output (by omega) (fun q hq => absurd hq (by omega)) ?_ ?_
    · intro n O hO
      refine pk_le (rd_os im s E pd) (rd_os im s E pd) (fun _ => ?_) (fun z => absurd z (by omega))
      refine pk_loop (fun n i O => wX_layOut_79 post f_capacity (nI s) f_entryCount f_analysed (nI (rd_os im s E pd)) f_status f_steps f_pc f_depth f_valueCount n (nI i) a_image a_entry a_reached a_classes a_symbolic a_functionStart A O a_registers a_stack a_values) (fun i O => (∀ q, q < i → O (rd_na im s E pd q) = nI (rd_val im s E pd q)) ∧ ∀ j, j < rd_os im s E pd → (∀ q, q < i → rd_na im s E pd q ≠ j) → O j = 1) s 0 O (by omega) ?_ ?_ ?_
      · exact ⟨fun q hq => absurd hq (by omega), fun j hj _ => hO j hj⟩
      · rintro n O ⟨hO1, hO2⟩
        refine pk_le s s (fun _ => hp A O hA fun i hi => ?_) (fun z => absurd z (by omega))
        by_cases h : ∃ q, q < s ∧ rd_na im s E pd q = i
        · obtain ⟨q, hq, rfl⟩ := h
          rw [rd_ob_t hq]; exact hO1 q hq
        · have hn : ∀ q, q < s → rd_na im s E pd q ≠ i := fun q hq e => h ⟨q, hq, e⟩
          rw [rd_ob_f hn]; exact hO2 i hi hn
      · rintro n i O hi ⟨hO1, hO2⟩ hn
        have T : ∀ x : Int32, x = nI (rd_val im s E pd i) → (∀ q, q < i + 1 → upd O (rd_na im s E pd i) x (rd_na im s E pd q) = nI (rd_val im s E pd q)) ∧ ∀ j, j < rd_os im s E pd → (∀ q, q < i + 1 → rd_na im s E pd q ≠ j) → upd O (rd_na im s E pd i) x j = 1 := by
          intro x hx
          refine ⟨fun q hq => ?_, fun j hj hq => ?_⟩
          · by_cases e : q = i
            · subst e; rw [pk_us]; exact hx
            · rw [pk_un fun z => e (rd_na_inj z)]; exact hO1 q (by omega)
          · rw [pk_un fun z => hq i (by omega) z.symm]
            exact hO2 j hj fun q hq' => hq q (by omega)
        have bi := hb i
        have hna := rd_na_os im E pd hi
        have hA' : A (nI i).toNatClampNeg = nI (rd_na im s E pd i) := by rw [nI_clamp (by omega)]; exact hA i hi
        have hS' : a_symbolic (nI i).toNatClampNeg = rd_b (rd_sym im s E s i) := by rw [nI_clamp (by omega)]; exact hS i hi
        refine pk_le s i (fun z => absurd z (by omega)) (fun _ => ⟨pk_in i 64 (by omega), nm_r (rd_rd hI i (by omega) (by omega)) ⟨pk_in i 64 (by omega), pk_in i 64 (by omega), ?_⟩⟩)
        rw [hS']
        refine rd_brb (fun h => ⟨pk_in (rd_na im s E pd i) 253 (by omega) hA', nm_r (e' := upd O (rd_na im s E pd i) (nI (im i))) ?_ (nm_r (nI_1 i) (hn _ (T _ ?_)))⟩) (fun h => ⟨pk_in (im i) 64 (by have := h.1; omega), pk_in (rd_na im s E pd i) 253 (by omega) hA', nm_r (e' := upd O (rd_na im s E pd i) (nI (rd_na im s E pd (im i)))) ?_ (nm_r (nI_1 i) (hn _ (T _ ?_)))⟩)
        · rw [hA', nI_clamp (by omega)]
        · unfold rd_val; rw [rd_if_f h]
        · rw [hA', nI_clamp (by omega), nI_clamp (by omega), hA _ h.1]
        · unfold rd_val; rw [rd_if_t h]
    · intro n i O hi hO hn
      refine pk_le (rd_os im s E pd) i (fun z => absurd z (by omega)) (fun _ => ⟨pk_in i 253 (by omega), nm_r (e' := upd O i 1) ?_ (nm_r (nI_1 i) (hn _ fun q hq => ?_))⟩)
      · rw [nI_clamp (by omega)]
      · by_cases e : q = i
        · subst e; exact pk_us
        · rw [pk_un e]; exact hO q (by omega)
  · intro n i A hi hA hn
    have K : wX_layOut_29 post (wX_layOut_4 post (nI pd) f_capacity (nI s) f_entryCount f_analysed f_outputSize f_status f_steps f_pc f_depth f_valueCount n) (nI pd) (nI (pd * rd_cnt (rd_G im s E) (i + 1))) (nI i) f_capacity (nI s) f_entryCount f_analysed f_outputSize f_status f_steps f_pc f_depth f_valueCount a_image a_entry a_reached a_classes a_symbolic a_functionStart A a_output a_registers a_stack a_values := by
      refine ⟨pk_in i 64 (by omega), nm_r (e' := upd A i (nI (rd_na im s E pd i))) ?_ (nm_r (nI_1 i) (hn _ fun q hq => ?_))⟩
      · rw [nI_clamp (by omega), nI_add]; rfl
      · by_cases e : q = i
        · subst e; exact pk_us
        · rw [pk_un e]; exact hA q (by omega)
    have hF' : a_functionStart (nI i).toNatClampNeg = rd_b (rd_fs im s E i) := by rw [nI_clamp (by omega)]; exact hF i hi
    refine pk_le s i (fun z => absurd z (by omega)) (fun _ => pk_le i 0 (fun z => ?_) (fun z => ⟨pk_in i 64 (by omega), ?_⟩))
    · have e : rd_cnt (rd_G im s E) (i + 1) = rd_cnt (rd_G im s E) i := rd_cnt_f fun h => absurd h.1 (by omega)
      rw [e] at K; exact K
    · rw [hF']
      refine rd_brb (fun h => ?_) (fun h => ?_)
      · have e : rd_cnt (rd_G im s E) (i + 1) = rd_cnt (rd_G im s E) i := rd_cnt_f fun z => h z.2
        rw [e] at K; exact K
      · have e : rd_cnt (rd_G im s E) (i + 1) = rd_cnt (rd_G im s E) i + 1 := rd_cnt_t ⟨z, h⟩
        refine nm_r ?_ K
        rw [nI_add, e]; rfl
/-- what X holds after an analysis -/
def rd_XA (im : Nat → Nat) (s : Nat) (E : Nat → Prop) (pd : Nat) (os : Int32) (cl sy fs na ou : Nat → Int32) : Prop :=
  (∀ q, q < s → cl q = rd_cls im s E q) ∧ (∀ q, q < s → sy q = rd_b (rd_sym im s E s q)) ∧ (∀ q, q < s → fs q = rd_b (rd_fs im s E q)) ∧ (∀ q, q < s → na q = nI (rd_na im s E pd q)) ∧ os = nI (rd_os im s E pd) ∧ (∀ i, i < rd_os im s E pd → ou i = nI (rd_ob im s E pd i))
theorem xl_analyse {post : Int32 → St2 → Prop} {ne pd : Nat} (h0 : 0 < s) (hne : 0 < ne) (hne8 : ne ≤ 8) (hpd : pd ≤ 3) (hs : s ≤ 64) (hI : ∀ j, j < 64 → a_image j = nI (im j)) (hb : ∀ j, im j < 256) (hE : ∀ j, j < 64 → a_entry j = rd_b (E j))
    (hp : ∀ os R C S F A O, rd_XA im s E pd os C S F A O → post 1 (f_capacity, nI s, nI ne, 1, os, f_status, f_steps, f_pc, f_depth, f_valueCount, a_image, a_entry, R, C, S, F, A, O, a_registers, a_stack, a_values)) : wpX_analyse post (f_capacity, nI s, nI ne, f_analysed, f_outputSize, f_status, f_steps, f_pc, f_depth, f_valueCount, a_image, a_entry, a_reached, a_classes, a_symbolic, a_functionStart, a_newAddress, a_output, a_registers, a_stack, a_values) (nI pd) := by
  unfold wpX_analyse
  refine br_f (rd_lt0 (by omega)) (pk_lt 3 pd (fun z => absurd z (by omega)) (fun _ => pk_eq s 0 (fun z => absurd z (by omega)) (fun _ => pk_eq ne 0 (fun z => absurd z (by omega)) (fun _ => ?_))))
  refine xl_find hs hI hb hE fun R hR => ?_
  refine xl_classify hs hI hb hR fun C hC => ?_
  refine xl_markSymbols hs hI hb hC fun S hS => ?_
  refine xl_markFS hs hI hb hE hC fun F hF => ?_
  exact xl_layOut h0 hpd hs hI hb hS hF fun A O hA hO => hp _ R C S F A O ⟨hC, hS, hF, hA, rfl, hO⟩
end
end
section
/-! X: the counts -/
def rd_un (im : Nat → Nat) (s : Nat) (E : Nat → Prop) (q : Nat) : Prop := rd_st im s E q ∧ (im q = 14 ∨ (im q = 13 ∧ rd_tl im s q = 0))
def rd_ck (im : Nat → Nat) (s : Nat) (E : Nat → Prop) (j q : Nat) : Prop :=
  (j ≤ 4 ∧ rd_cls im s E q = nI j) ∨ (j = 5 ∧ rd_fs im s E q) ∨ (j = 6 ∧ rd_sym im s E s q) ∨ (j = 7 ∧ rd_st im s E q ∧ 0 < rd_tl im s q) ∨ (j = 8 ∧ rd_un im s E q)
theorem rd_ck_c {im : Nat → Nat} {s : Nat} {E : Nat → Prop} {j q : Nat} (h : j ≤ 4) : rd_ck im s E j q ↔ rd_cls im s E q = nI j :=
  ⟨fun z => by
    rcases z with z | z | z | z | z
    · exact z.2
    all_goals exact absurd z.1 (by omega), fun z => Or.inl ⟨h, z⟩⟩
theorem rd_ck_5 {im : Nat → Nat} {s : Nat} {E : Nat → Prop} {q : Nat} : rd_ck im s E 5 q ↔ rd_fs im s E q := by
  unfold rd_ck; simp
theorem rd_ck_6 {im : Nat → Nat} {s : Nat} {E : Nat → Prop} {q : Nat} : rd_ck im s E 6 q ↔ rd_sym im s E s q := by
  unfold rd_ck; simp
theorem rd_ck_7 {im : Nat → Nat} {s : Nat} {E : Nat → Prop} {q : Nat} : rd_ck im s E 7 q ↔ (rd_st im s E q ∧ 0 < rd_tl im s q) := by
  unfold rd_ck; simp
theorem rd_ck_8 {im : Nat → Nat} {s : Nat} {E : Nat → Prop} {q : Nat} : rd_ck im s E 8 q ↔ rd_un im s E q := by
  unfold rd_ck; simp
section
variable {f_capacity f_size f_entryCount f_analysed f_outputSize f_status f_steps f_pc f_depth f_valueCount : Int32} {a_image a_entry a_reached a_classes a_symbolic a_functionStart a_newAddress a_output a_registers a_stack a_values : Nat → Int32} {im : Nat → Nat} {s : Nat} {E : Nat → Prop} {post : Int32 → Prop}
theorem rd_brx {a : Nat → Int32} {i : Nat} {x : Int32} {A B : Prop} (hi : i < 2 ^ 31) (f : a i = x → A) (g : ¬ a i = x → B) : (a (nI i).toNatClampNeg = x → A) ∧ (¬ a (nI i).toNatClampNeg = x → B) := by
  rw [nI_clamp hi]; exact ⟨f, g⟩
theorem xl_cntClass {x : Int32} (hs : s ≤ 64) (hC : ∀ q, q < s → a_classes q = rd_cls im s E q) (hp : post (nI (rd_cnt (fun q => rd_cls im s E q = x) s))) : wpX_countClass post (f_capacity, nI s, f_entryCount, f_analysed, f_outputSize, f_status, f_steps, f_pc, f_depth, f_valueCount, a_image, a_entry, a_reached, a_classes, a_symbolic, a_functionStart, a_newAddress, a_output, a_registers, a_stack, a_values) x := by
  refine pk_loop (fun n i (_ : Unit) => wX_countClass_4 post x f_capacity (nI s) f_entryCount f_analysed f_outputSize f_status f_steps f_pc f_depth f_valueCount a_image a_entry a_reached a_classes a_symbolic a_functionStart a_newAddress a_output a_registers a_stack a_values n (nI (rd_cnt (fun q => rd_cls im s E q = x) i)) (nI i)) (fun _ _ => True) s 0 () (by omega) trivial ?_ ?_
  · intro n _ _
    exact pk_le s s (fun _ => hp) (fun z => absurd z (by omega))
  · intro n i _ hi _ hn
    refine pk_le s i (fun z => absurd z (by omega)) (fun _ => ⟨pk_in i 64 (by omega), rd_brx (by omega) (fun z => nm_r (nI_1 _) (nm_r (nI_1 i) ?_)) (fun z => nm_r (nI_1 i) ?_)⟩)
    · rw [hC i hi] at z
      have h := hn () trivial
      rw [rd_cnt_t (P := fun q => rd_cls im s E q = x) z] at h; exact h
    · rw [hC i hi] at z
      have h := hn () trivial
      rw [rd_cnt_f (P := fun q => rd_cls im s E q = x) z] at h; exact h
theorem xl_cnt_functionStart (hs : s ≤ 64) (hC : ∀ q, q < s → a_functionStart q = rd_b (rd_fs im s E q)) (hp : post (nI (rd_cnt (rd_fs im s E) s))) : wpX_countMarks post (f_capacity, nI s, f_entryCount, f_analysed, f_outputSize, f_status, f_steps, f_pc, f_depth, f_valueCount, a_image, a_entry, a_reached, a_classes, a_symbolic, a_functionStart, a_newAddress, a_output, a_registers, a_stack, a_values) := by
  refine pk_loop (fun n i (_ : Unit) => wX_countMarks_4 post f_capacity (nI s) f_entryCount f_analysed f_outputSize f_status f_steps f_pc f_depth f_valueCount a_image a_entry a_reached a_classes a_symbolic a_functionStart a_newAddress a_output a_registers a_stack a_values n (nI (rd_cnt (rd_fs im s E) i)) (nI i)) (fun _ _ => True) s 0 () (by omega) trivial ?_ ?_
  · intro n _ _
    exact pk_le s s (fun _ => hp) (fun z => absurd z (by omega))
  · intro n i _ hi _ hn
    refine pk_le s i (fun z => absurd z (by omega)) (fun _ => ⟨pk_in i 64 (by omega), rd_brx (by omega) (fun z => nm_r (nI_1 i) ?_) (fun z => nm_r (nI_1 _) (nm_r (nI_1 i) ?_))⟩)
    · rw [hC i hi, rd_b0] at z
      have h := hn () trivial
      rw [rd_cnt_f z] at h; exact h
    · rw [hC i hi, rd_b0, Classical.not_not] at z
      have h := hn () trivial
      rw [rd_cnt_t z] at h; exact h
theorem xl_cnt_symbolic (hs : s ≤ 64) (hC : ∀ q, q < s → a_symbolic q = rd_b (rd_sym im s E s q)) (hp : post (nI (rd_cnt (rd_sym im s E s) s))) : wpX_countMarks_2 post (f_capacity, nI s, f_entryCount, f_analysed, f_outputSize, f_status, f_steps, f_pc, f_depth, f_valueCount, a_image, a_entry, a_reached, a_classes, a_symbolic, a_functionStart, a_newAddress, a_output, a_registers, a_stack, a_values) := by
  refine pk_loop (fun n i (_ : Unit) => wX_countMarks_2_4 post f_capacity (nI s) f_entryCount f_analysed f_outputSize f_status f_steps f_pc f_depth f_valueCount a_image a_entry a_reached a_classes a_symbolic a_functionStart a_newAddress a_output a_registers a_stack a_values n (nI (rd_cnt (rd_sym im s E s) i)) (nI i)) (fun _ _ => True) s 0 () (by omega) trivial ?_ ?_
  · intro n _ _
    exact pk_le s s (fun _ => hp) (fun z => absurd z (by omega))
  · intro n i _ hi _ hn
    refine pk_le s i (fun z => absurd z (by omega)) (fun _ => ⟨pk_in i 64 (by omega), rd_brx (by omega) (fun z => nm_r (nI_1 i) ?_) (fun z => nm_r (nI_1 _) (nm_r (nI_1 i) ?_))⟩)
    · rw [hC i hi, rd_b0] at z
      have h := hn () trivial
      rw [rd_cnt_f z] at h; exact h
    · rw [hC i hi, rd_b0, Classical.not_not] at z
      have h := hn () trivial
      rw [rd_cnt_t z] at h; exact h
theorem xl_cntTables (hs : s ≤ 64) (hI : ∀ j, j < 64 → a_image j = nI (im j)) (hb : ∀ j, im j < 256) (hC : ∀ q, q < s → a_classes q = rd_cls im s E q) (hp : post (nI (rd_cnt (fun q => rd_st im s E q ∧ 0 < rd_tl im s q) s))) : wpX_countTables post (f_capacity, nI s, f_entryCount, f_analysed, f_outputSize, f_status, f_steps, f_pc, f_depth, f_valueCount, a_image, a_entry, a_reached, a_classes, a_symbolic, a_functionStart, a_newAddress, a_output, a_registers, a_stack, a_values) := by
  refine pk_loop (fun n i (_ : Unit) => wX_countTables_4 post f_capacity (nI s) f_entryCount f_analysed f_outputSize f_status f_steps f_pc f_depth f_valueCount a_image a_entry a_reached a_classes a_symbolic a_functionStart a_newAddress a_output a_registers a_stack a_values n (nI (rd_cnt (fun q => rd_st im s E q ∧ 0 < rd_tl im s q) i)) (nI i)) (fun _ _ => True) s 0 () (by omega) trivial ?_ ?_
  · intro n _ _
    exact pk_le s s (fun _ => hp) (fun z => absurd z (by omega))
  · intro n i _ hi _ hn
    have h := hn () trivial
    refine pk_le s i (fun z => absurd z (by omega)) (fun _ => ⟨pk_in i 64 (by omega), rd_brx (by omega) (fun z => ?_) (fun z => nm_r (nI_1 i) ?_)⟩)
    · rw [hC i hi, rd_cls, rd_c2_st] at z
      refine xl_tl hs hI hb z.2 ?_
      have ht : rd_tl im s i ≤ 16 := by
        by_cases h0 : 0 < rd_tl im s i
        · exact (rd_tl_le h0).2.2.2
        · omega
      refine pk_le (rd_tl im s i) 0 (fun h0 => nm_r (nI_1 i) ?_) (fun h0 => nm_r (nI_1 _) (nm_r (nI_1 i) ?_))
      · rw [rd_cnt_f (P := fun q => rd_st im s E q ∧ 0 < rd_tl im s q) (fun y => absurd y.2 (by omega))] at h; exact h
      · rw [rd_cnt_t (P := fun q => rd_st im s E q ∧ 0 < rd_tl im s q) ⟨z, h0⟩] at h; exact h
    · rw [hC i hi, rd_cls, rd_c2_st] at z
      rw [rd_cnt_f (P := fun q => rd_st im s E q ∧ 0 < rd_tl im s q) (fun y => z y.1)] at h; exact h
theorem xl_isUn {p : Nat} (hs : s ≤ 64) (hI : ∀ j, j < 64 → a_image j = nI (im j)) (hb : ∀ j, im j < 256) (ho : rd_ok im s p) (hp : post (rd_b (im p = 14 ∨ (im p = 13 ∧ rd_tl im s p = 0)))) : wpX_isUnresolved post (f_capacity, nI s, f_entryCount, f_analysed, f_outputSize, f_status, f_steps, f_pc, f_depth, f_valueCount, a_image, a_entry, a_reached, a_classes, a_symbolic, a_functionStart, a_newAddress, a_output, a_registers, a_stack, a_values) (nI p) := by
  have hps := ho.1
  have bp := hb p
  have hr := rd_rd hI p (by omega) (by omega) (x := nI p)
  refine ⟨pk_in p 64 (by omega), pk_eq (im p) 14 (fun e => rd_pt hp (Or.inl e)) (fun e => ⟨pk_in p 64 (by omega), pk_eq (im p) 13 (fun e3 => ?_) (fun e3 => rd_pf hp (by omega)) hr rfl⟩) hr rfl⟩
  refine xl_tl hs hI hb ho ?_
  have ht : rd_tl im s p ≤ 16 := by
    by_cases h0 : 0 < rd_tl im s p
    · exact (rd_tl_le h0).2.2.2
    · omega
  exact pk_eq (rd_tl im s p) 0 (fun h0 => rd_pt hp (Or.inr ⟨e3, h0⟩)) (fun h0 => rd_pf hp (by omega))
theorem xl_cntUn (hs : s ≤ 64) (hI : ∀ j, j < 64 → a_image j = nI (im j)) (hb : ∀ j, im j < 256) (hC : ∀ q, q < s → a_classes q = rd_cls im s E q) (hp : post (nI (rd_cnt (rd_un im s E) s))) : wpX_countUnresolved post (f_capacity, nI s, f_entryCount, f_analysed, f_outputSize, f_status, f_steps, f_pc, f_depth, f_valueCount, a_image, a_entry, a_reached, a_classes, a_symbolic, a_functionStart, a_newAddress, a_output, a_registers, a_stack, a_values) := by
  refine pk_loop (fun n i (_ : Unit) => wX_countUnresolved_4 post f_capacity (nI s) f_entryCount f_analysed f_outputSize f_status f_steps f_pc f_depth f_valueCount a_image a_entry a_reached a_classes a_symbolic a_functionStart a_newAddress a_output a_registers a_stack a_values n (nI (rd_cnt (rd_un im s E) i)) (nI i)) (fun _ _ => True) s 0 () (by omega) trivial ?_ ?_
  · intro n _ _
    exact pk_le s s (fun _ => hp) (fun z => absurd z (by omega))
  · intro n i _ hi _ hn
    have h := hn () trivial
    refine pk_le s i (fun z => absurd z (by omega)) (fun _ => ⟨pk_in i 64 (by omega), rd_brx (by omega) (fun z => ?_) (fun z => nm_r (nI_1 i) ?_)⟩)
    · rw [hC i hi, rd_cls, rd_c2_st] at z
      refine xl_isUn hs hI hb z.2 ?_
      refine rd_brb (fun h0 => nm_r (nI_1 i) ?_) (fun h0 => nm_r (nI_1 _) (nm_r (nI_1 i) ?_))
      · rw [rd_cnt_f (P := rd_un im s E) (fun y => h0 y.2)] at h; exact h
      · rw [rd_cnt_t (P := rd_un im s E) ⟨z, h0⟩] at h; exact h
    · rw [hC i hi, rd_cls, rd_c2_st] at z
      rw [rd_cnt_f (P := rd_un im s E) (fun y => z y.1)] at h; exact h
theorem xl_count {j pd : Nat} (hj : j ≤ 8) (hs : s ≤ 64) (hI : ∀ j, j < 64 → a_image j = nI (im j)) (hb : ∀ j, im j < 256) (hA : rd_XA im s E pd f_outputSize a_classes a_symbolic a_functionStart a_newAddress a_output) (hp : post (nI (rd_cnt (rd_ck im s E j) s))) : wpX_count post (f_capacity, nI s, f_entryCount, 1, f_outputSize, f_status, f_steps, f_pc, f_depth, f_valueCount, a_image, a_entry, a_reached, a_classes, a_symbolic, a_functionStart, a_newAddress, a_output, a_registers, a_stack, a_values) (nI j) := by
  have hc : j = 0 ∨ j = 1 ∨ j = 2 ∨ j = 3 ∨ j = 4 ∨ j = 5 ∨ j = 6 ∨ j = 7 ∨ j = 8 := by omega
  have C : j ≤ 4 → wX_count_84 post (nI j) f_capacity (nI s) f_entryCount 1 f_outputSize f_status f_steps f_pc f_depth f_valueCount a_image a_entry a_reached a_classes a_symbolic a_functionStart a_newAddress a_output a_registers a_stack a_values := by
    intro h4
    unfold wX_count_84
    refine xl_cntClass hs hA.1 ?_
    rw [← rd_cnt_c fun q _ => rd_ck_c h4]; exact hp
  rcases hc with e | e | e | e | e | e | e | e | e <;> subst e <;>
    (refine br_f (by decide) (br_f (by decide) (br_f (by decide) (br_f (by decide) (br_f (by decide) ?_))))
     repeat (first | refine br_t (by decide) ?_ | refine br_f (by decide) ?_))
  · exact C (by omega)
  · exact C (by omega)
  · exact C (by omega)
  · exact C (by omega)
  · exact C (by omega)
  · exact xl_cnt_functionStart hs hA.2.2.1 (by rw [← rd_cnt_c fun q _ => rd_ck_5]; exact hp)
  · exact xl_cnt_symbolic hs hA.2.1 (by rw [← rd_cnt_c fun q _ => rd_ck_6]; exact hp)
  · exact xl_cntTables hs hI hb hA.1 (by rw [← rd_cnt_c fun q _ => rd_ck_7]; exact hp)
  · exact xl_cntUn hs hI hb hA.1 (by rw [← rd_cnt_c fun q _ => rd_ck_8]; exact hp)
end
end
section
/-! X: what it answers after an analysis, and the calls that build an image -/
section
variable {f_capacity f_size f_entryCount f_analysed f_outputSize f_status f_steps f_pc f_depth f_valueCount : Int32} {a_image a_entry a_reached a_classes a_symbolic a_functionStart a_newAddress a_output a_registers a_stack a_values : Nat → Int32} {im : Nat → Nat} {s pd : Nat} {E : Nat → Prop} {post : Int32 → Prop}
theorem xr_sym {q : Nat} (hq : q < s) (hs : s ≤ 64) (han : ¬ f_analysed = 0) (hA : rd_XA im s E pd f_outputSize a_classes a_symbolic a_functionStart a_newAddress a_output) (hp : post (rd_b (rd_sym im s E s q))) : wpX_isSymbolic post (f_capacity, nI s, f_entryCount, f_analysed, f_outputSize, f_status, f_steps, f_pc, f_depth, f_valueCount, a_image, a_entry, a_reached, a_classes, a_symbolic, a_functionStart, a_newAddress, a_output, a_registers, a_stack, a_values) (nI q) := by
  have h := hA.2.1 q hq
  have h' : a_symbolic (nI q).toNatClampNeg = rd_b (rd_sym im s E s q) := by rw [nI_clamp (by omega)]; exact h
  refine br_f han (xl_inI_t hq hs (br_f (by decide) ⟨pk_in q 64 (by omega), ?_⟩))
  rw [h']
  exact rd_brb (fun z => rd_pf hp z) (fun z => rd_pt hp z)
theorem xr_fs {q : Nat} (hq : q < s) (hs : s ≤ 64) (han : ¬ f_analysed = 0) (hA : rd_XA im s E pd f_outputSize a_classes a_symbolic a_functionStart a_newAddress a_output) (hp : post (rd_b (rd_fs im s E q))) : wpX_isFunctionStart post (f_capacity, nI s, f_entryCount, f_analysed, f_outputSize, f_status, f_steps, f_pc, f_depth, f_valueCount, a_image, a_entry, a_reached, a_classes, a_symbolic, a_functionStart, a_newAddress, a_output, a_registers, a_stack, a_values) (nI q) := by
  have h := hA.2.2.1 q hq
  have h' : a_functionStart (nI q).toNatClampNeg = rd_b (rd_fs im s E q) := by rw [nI_clamp (by omega)]; exact h
  refine br_f han (xl_inI_t hq hs (br_f (by decide) ⟨pk_in q 64 (by omega), ?_⟩))
  rw [h']
  exact rd_brb (fun z => rd_pf hp z) (fun z => rd_pt hp z)
theorem xr_map {q : Nat} (hq : q < s) (hs : s ≤ 64) (han : ¬ f_analysed = 0) (hA : rd_XA im s E pd f_outputSize a_classes a_symbolic a_functionStart a_newAddress a_output) (hp : post (nI (rd_na im s E pd q))) : wpX_mapAddr post (f_capacity, nI s, f_entryCount, f_analysed, f_outputSize, f_status, f_steps, f_pc, f_depth, f_valueCount, a_image, a_entry, a_reached, a_classes, a_symbolic, a_functionStart, a_newAddress, a_output, a_registers, a_stack, a_values) (nI q) := by
  refine br_f han (xl_inI_t hq hs (br_f (by decide) ⟨pk_in q 64 (by omega), ?_⟩))
  rw [nI_clamp (by omega), hA.2.2.2.1 q hq]; exact hp
theorem xr_os (hs : s ≤ 64) (han : ¬ f_analysed = 0) (hA : rd_XA im s E pd f_outputSize a_classes a_symbolic a_functionStart a_newAddress a_output) (hp : post (nI (rd_os im s E pd))) : wpX_outSize post (f_capacity, nI s, f_entryCount, f_analysed, f_outputSize, f_status, f_steps, f_pc, f_depth, f_valueCount, a_image, a_entry, a_reached, a_classes, a_symbolic, a_functionStart, a_newAddress, a_output, a_registers, a_stack, a_values) := by
  refine br_f han ?_
  rw [hA.2.2.2.2.1]; exact hp
theorem xr_out {i : Nat} (h0 : 0 < s) (hpd : pd ≤ 3) (hi : i < rd_os im s E pd) (hs : s ≤ 64) (han : ¬ f_analysed = 0) (hA : rd_XA im s E pd f_outputSize a_classes a_symbolic a_functionStart a_newAddress a_output) (hp : post (nI (rd_ob im s E pd i))) : wpX_outByte post (f_capacity, nI s, f_entryCount, f_analysed, f_outputSize, f_status, f_steps, f_pc, f_depth, f_valueCount, a_image, a_entry, a_reached, a_classes, a_symbolic, a_functionStart, a_newAddress, a_output, a_registers, a_stack, a_values) (nI i) := by
  have hos := rd_os_le im E h0 hs hpd
  refine br_f han (br_f (rd_lt0 (by omega)) (pk_le (rd_os im s E pd) i (fun z => absurd z (by omega)) (fun _ => ⟨pk_in i 253 (by omega), ?_⟩) hA.2.2.2.2.1 rfl))
  rw [nI_clamp (by omega), hA.2.2.2.2.2 i hi]; exact hp
theorem xl_put {post : Int32 → St2 → Prop} {b : Nat} (hb : b < 256) (hs : s < 64) (hp : post 1 (64, nI (s + 1), f_entryCount, 0, f_outputSize, f_status, f_steps, f_pc, f_depth, f_valueCount, upd a_image s (nI b), a_entry, a_reached, a_classes, a_symbolic, a_functionStart, a_newAddress, a_output, a_registers, a_stack, a_values)) : wpX_putByte post (64, nI s, f_entryCount, f_analysed, f_outputSize, f_status, f_steps, f_pc, f_depth, f_valueCount, a_image, a_entry, a_reached, a_classes, a_symbolic, a_functionStart, a_newAddress, a_output, a_registers, a_stack, a_values) (nI b) := by
  refine br_f (rd_lt0 (by omega)) (pk_lt 255 b (fun z => absurd z (by omega)) (fun _ => pk_lt s 64 (fun _ => ⟨pk_in s 64 (by omega), nm_r (e' := upd a_image s (nI b)) ?_ (nm_r (nI_1 s) hp)⟩) (fun z => absurd z (by omega))))
  rw [nI_clamp (by omega)]
theorem xl_add {post : Int32 → St2 → Prop} {a k : Nat} {x : Int32} (hx : x = nI a) (ha : a < s) (hs : s ≤ 64) (hk : k < 8) (hE : ∀ j, a_entry j = rd_b (E j))
    (h1 : E a → post 0 (f_capacity, nI s, nI k, f_analysed, f_outputSize, f_status, f_steps, f_pc, f_depth, f_valueCount, a_image, a_entry, a_reached, a_classes, a_symbolic, a_functionStart, a_newAddress, a_output, a_registers, a_stack, a_values)) (h2 : ¬ E a → post 1 (f_capacity, nI s, nI (k + 1), 0, f_outputSize, f_status, f_steps, f_pc, f_depth, f_valueCount, a_image, upd a_entry a 1, a_reached, a_classes, a_symbolic, a_functionStart, a_newAddress, a_output, a_registers, a_stack, a_values)) : wpX_addEntry post (f_capacity, nI s, nI k, f_analysed, f_outputSize, f_status, f_steps, f_pc, f_depth, f_valueCount, a_image, a_entry, a_reached, a_classes, a_symbolic, a_functionStart, a_newAddress, a_output, a_registers, a_stack, a_values) x := by
  subst hx
  unfold wpX_addEntry
  have hej : a_entry (nI a).toNatClampNeg = rd_b (E a) := by rw [nI_clamp (by omega)]; exact hE a
  refine xl_inI_t ha hs (br_f (by decide) ⟨pk_in a 64 (by omega), ?_⟩)
  rw [hej]
  refine rd_brb (fun z => pk_lt k 8 (fun _ => ⟨pk_in a 64 (by omega), nm_r (e' := upd a_entry a 1) ?_ (nm_r (nI_1 k) (h2 z))⟩) (fun z => absurd z (by omega))) (fun z => h1 z)
  rw [nI_clamp (by omega)]
end
theorem rd_cfs (im : Nat → Nat) (s : Nat) (E : Nat → Prop) : ∀ k, rd_cnt (rd_fs im s E) (k + 1) = rd_cnt (rd_G im s E) (k + 1) + rd_if (rd_fs im s E 0) 1 0 := by
  intro k
  induction k with
  | zero =>
    have e : rd_cnt (rd_G im s E) 1 = 0 := Nat.le_zero.mp (rd_G_le im s E 0)
    show rd_cnt (rd_fs im s E) 0 + rd_if (rd_fs im s E 0) 1 0 = rd_cnt (rd_G im s E) 1 + _
    rw [e]; rfl
  | succ k ih =>
    by_cases h : rd_fs im s E (k + 1)
    · rw [rd_cnt_t h, rd_cnt_t (P := rd_G im s E) ⟨by omega, h⟩]; omega
    · rw [rd_cnt_f h, rd_cnt_f (P := rd_G im s E) (fun z => h z.2)]; omega
/-! the law's own small methods -/
def rd_ce (xs : Nat → Int32) (L k : Nat) : Int32 := if k < L then xs k else 0
def rd_bo (c : Int32) (n : Nat) : Nat :=
  if c.toBitVec.toNat % 65536 % 4 = 0 then c.toBitVec.toNat % 65536 / 4 % 15 else if c.toBitVec.toNat % 65536 % 4 = 1 then c.toBitVec.toNat % 65536 / 4 % 4 else if c.toBitVec.toNat % 65536 % 4 = 2 then c.toBitVec.toNat % 65536 / 4 % n else c.toBitVec.toNat % 65536 / 4 % 256
theorem rd_bo_lt (c : Int32) {n : Nat} (h0 : 0 < n) (hn : n ≤ 64) : rd_bo c n < 256 := by
  unfold rd_bo
  have := Nat.mod_lt (c.toBitVec.toNat % 65536 / 4) h0
  split
  · omega
  · split
    · omega
    · split <;> omega
theorem xw_cell {post : Int32 → Prop} {L : Nat} {xs : Nat → Int32} {k : Nat} {x : Int32} (hx : x = nI k) (hk : k < 2 ^ 30) (hL : L ≤ 260) (hp : post (rd_ce xs L k)) : wpL_cell post L xs () x := by
  subst hx
  unfold rd_ce at hp
  refine pk_le L k (fun h => ?_) (fun h => ⟨pk_in k L h, ?_⟩)
  · rw [if_neg (by omega)] at hp; exact hp
  · rw [if_pos h] at hp
    rw [nI_clamp (by omega)]; exact hp
theorem xw_byte {post : Int32 → Prop} {c : Int32} {n : Nat} (h0 : 0 < n) (hn : n ≤ 64) (hp : post (nI (rd_bo c n))) : wpL_byteOf post () c (nI n) := by
  have e1 : c &&& 65535 = nI (c.toBitVec.toNat % 65536) := pk_and c 16 (by decide)
  unfold rd_bo at hp
  unfold wpL_byteOf
  refine nm_r e1 ?_
  generalize hv : c.toBitVec.toNat % 65536 = v at hp ⊢
  have hv2 : v < 65536 := by rw [← hv]; exact Nat.mod_lt _ (by omega)
  refine nm_r (e' := nI (v % 4)) (pk_andN (by omega) 2 (by decide)) ?_
  refine nm_r (e' := nI (v / 4)) (pk_ushrN (by omega) 2 2 (by decide)) ?_
  refine pk_eq (v % 4) 0 (fun h => ⟨by decide, ?_⟩) (fun a0 => pk_eq (v % 4) 1 (fun h => ⟨by decide, ?_⟩) (fun a1 => pk_eq (v % 4) 2 (fun h => ⟨nI_ne0 h0 (by omega), ?_⟩) (fun a2 => ?_)))
  · have e : nI (v / 4) - nI (v / 4) / 15 * 15 = nI (v / 4 % 15) := pk_rem (d := 15) (by omega) (by omega) (by omega)
    rw [if_pos h] at hp
    rw [e]; exact hp
  · have e : nI (v / 4) - nI (v / 4) / 4 * 4 = nI (v / 4 % 4) := pk_rem (d := 4) (by omega) (by omega) (by omega)
    rw [if_neg a0, if_pos h] at hp
    rw [e]; exact hp
  · rw [if_neg a0, if_neg a1, if_pos h] at hp
    rw [pk_rem (by omega) h0 (by omega)]; exact hp
  · rw [if_neg a0, if_neg a1, if_neg a2] at hp
    have e : nI (v / 4) &&& 255 = nI (v / 4 % 256) := pk_andN (by omega) 8 (by decide)
    rw [e]; exact hp
end
section
/-! the law -/
section
variable {f_capacity f_size f_entryCount f_analysed f_outputSize f_status f_steps f_pc f_depth f_valueCount : Int32} {a_image a_entry a_reached a_classes a_symbolic a_functionStart a_newAddress a_output a_registers a_stack a_values : Nat → Int32} {im : Nat → Nat} {s : Nat} {E : Nat → Prop} {post : Int32 → Prop} {L : Nat} {xs : Nat → Int32} {kc ks : Nat}
theorem rd_na0 (q : Nat) : rd_na im s E 0 q = q := by
  unfold rd_na; omega
theorem rd_os0 : rd_os im s E 0 = s := by
  unfold rd_os; omega
theorem xw_265 (h0 : 0 < s) (hs : s ≤ 64) (hL : L ≤ 260) (hb : ∀ j, im j < 256) (hbo : ∀ q, q < s → im q = rd_bo (rd_ce xs L (8 + q)) s) (hA : rd_XA im s E 0 f_outputSize a_classes a_symbolic a_functionStart a_newAddress a_output) (hp : post 1) : ∃ fu, wL_law_265 post L xs (nI s) kc ks f_capacity (nI s) f_entryCount 1 f_outputSize f_status f_steps f_pc f_depth f_valueCount a_image a_entry a_reached a_classes a_symbolic a_functionStart a_newAddress a_output a_registers a_stack a_values fu 0 := by
  have han : ¬ (1 : Int32) = 0 := by decide
  refine pk_loop (fun n i (_ : Unit) => wL_law_265 post L xs (nI s) kc ks f_capacity (nI s) f_entryCount 1 f_outputSize f_status f_steps f_pc f_depth f_valueCount a_image a_entry a_reached a_classes a_symbolic a_functionStart a_newAddress a_output a_registers a_stack a_values n (nI i)) (fun _ _ => True) s 0 () (by omega) trivial ?_ ?_
  · intro n _ _
    exact pk_le s s (fun _ => hp) (fun z => absurd z (by omega))
  · intro n i _ hi _ hn
    refine pk_le s i (fun z => absurd z (by omega)) (fun _ => ?_)
    refine xr_map hi hs han hA ?_
    rw [rd_na0]
    refine br_t rfl ?_
    refine xr_out h0 (by omega) (by rw [rd_os0]; exact hi) hs han hA ?_
    refine xw_cell (nI_add 8 i) (by omega) hL ?_
    refine xw_byte h0 hs ?_
    refine br_t ?_ (nm_r (nI_1 i) (hn () trivial))
    have e : rd_ob im s E 0 i = im i := by
      have h := rd_ob_t (m := im) (E := E) (pd := 0) hi
      rw [rd_na0] at h
      rw [h]
      unfold rd_val
      by_cases hh : rd_sym im s E s i
      · rw [rd_if_t hh, rd_na0]
      · rw [rd_if_f hh]
    rw [e, hbo i hi]
theorem xw_184 {pd k : Nat} (h0 : 0 < s) (hs : s ≤ 64) (hL : L ≤ 260) (hb : ∀ j, im j < 256) (hbo : ∀ q, q < s → im q = rd_bo (rd_ce xs L (8 + q)) s) (hpd : pd ≤ 3) (hk : 0 < k) (hk8 : k ≤ 8) (hI : ∀ j, j < 64 → a_image j = nI (im j)) (hE : ∀ j, j < 64 → a_entry j = rd_b (E j)) (hA : rd_XA im s E pd f_outputSize a_classes a_symbolic a_functionStart a_newAddress a_output) (hp : post 1) : ∃ fu, wL_law_184 post L xs (nI s) kc ks f_capacity (nI s) (nI k) 1 f_outputSize f_status f_steps f_pc f_depth f_valueCount a_image a_entry a_reached a_classes a_symbolic a_functionStart a_newAddress a_output a_registers a_stack a_values fu 0 := by
  have han : ¬ (1 : Int32) = 0 := by decide
  refine pk_loop (fun n i (_ : Unit) => wL_law_184 post L xs (nI s) kc ks f_capacity (nI s) (nI k) 1 f_outputSize f_status f_steps f_pc f_depth f_valueCount a_image a_entry a_reached a_classes a_symbolic a_functionStart a_newAddress a_output a_registers a_stack a_values n (nI i)) (fun _ _ => True) s 0 () (by omega) trivial ?_ ?_
  · intro n _ _
    refine pk_le s s (fun _ => ?_) (fun z => absurd z (by omega))
    refine xl_analyse (pd := 0) h0 hk hk8 (by omega) hs hI hb hE fun os R C S F A O hA2 => ?_
    refine br_f han ?_
    refine xr_os hs han hA2 ?_
    rw [rd_os0]
    refine br_t rfl ?_
    exact xw_265 h0 hs hL hb hbo hA2 hp
  · intro n i _ hi _ hn
    have h := hn () trivial
    refine pk_le s i (fun z => absurd z (by omega)) (fun _ => ?_)
    refine xr_sym hi hs han hA ?_
    refine rd_brb (fun hz => ?_) (fun _ => nm_r (nI_1 i) h)
    refine xr_map hi hs han hA ?_
    refine xr_out h0 hpd (rd_na_os im E pd hi) hs han hA ?_
    refine xw_cell (nI_add 8 i) (by omega) hL ?_
    refine xw_byte h0 hs ?_
    refine br_t ?_ (nm_r (nI_1 i) h)
    rw [rd_ob_t hi]
    unfold rd_val
    rw [rd_if_f hz, hbo i hi]
theorem xw_160 {pd k : Nat} {z0 : Int32} (h0 : 0 < s) (hs : s ≤ 64) (hL : L ≤ 260) (hb : ∀ j, im j < 256) (hbo : ∀ q, q < s → im q = rd_bo (rd_ce xs L (8 + q)) s) (hpd : pd ≤ 3) (hk : 0 < k) (hk8 : k ≤ 8) (hI : ∀ j, j < 64 → a_image j = nI (im j)) (hE : ∀ j, j < 64 → a_entry j = rd_b (E j)) (hA : rd_XA im s E pd f_outputSize a_classes a_symbolic a_functionStart a_newAddress a_output) (hz : nI (rd_cnt (rd_fs im s E) s) - z0 = nI (rd_cnt (rd_G im s E) s)) (hp : post 1) : wL_law_160 post L xs (nI s) (nI pd) (nI (rd_cnt (rd_fs im s E) s)) z0 kc ks f_capacity (nI s) (nI k) 1 f_outputSize f_status f_steps f_pc f_depth f_valueCount a_image a_entry a_reached a_classes a_symbolic a_functionStart a_newAddress a_output a_registers a_stack a_values := by
  have han : ¬ (1 : Int32) = 0 := by decide
  unfold wL_law_160
  refine xr_os hs han hA ?_
  refine br_t ?_ (xw_184 h0 hs hL hb hbo hpd hk hk8 hI hE hA hp)
  rw [hz, pk_mul, nI_add]; rfl
theorem xw_95 {pd ne : Nat} (h0 : 0 < s) (hs : s ≤ 64) (hL : L ≤ 260) (hb : ∀ j, im j < 256) (hbo : ∀ q, q < s → im q = rd_bo (rd_ce xs L (8 + q)) s) (hpd : pd ≤ 3) (hne : 0 < ne) (hne8 : ne ≤ 8) (hI : ∀ j, j < 64 → a_image j = nI (im j)) (hp : post 1) : ∃ fu, wL_law_95 post L xs (nI s) (nI ne) (nI pd) kc ks fu 0 f_capacity (nI s) 0 0 f_outputSize f_status f_steps f_pc f_depth f_valueCount a_image (fun _ => 0) a_reached a_classes a_symbolic a_functionStart a_newAddress a_output a_registers a_stack a_values := by
  have han : ¬ (1 : Int32) = 0 := by decide
  refine pk_loop (fun n i (σ : Nat × (Nat → Int32)) => wL_law_95 post L xs (nI s) (nI ne) (nI pd) kc ks n (nI i) f_capacity (nI s) (nI σ.1) 0 f_outputSize f_status f_steps f_pc f_depth f_valueCount a_image σ.2 a_reached a_classes a_symbolic a_functionStart a_newAddress a_output a_registers a_stack a_values)
    (fun i σ => σ.1 ≤ i ∧ ∃ E : Nat → Prop, (∀ j, σ.2 j = rd_b (E j)) ∧ (σ.1 = 0 → ∀ q, ¬ E q) ∧ (0 < i → 0 < σ.1)) ne 0 (0, fun _ => 0) (by omega) ?_ ?_ ?_
  · exact ⟨Nat.le_refl _, fun _ => False, fun _ => (rd_b_f fun h => h).symm, fun _ _ h => h, fun h => absurd h (by omega)⟩
  · rintro n ⟨k, En⟩ ⟨hk, E, hE, -, hk0⟩
    dsimp only at hk hE hk0
    have hk1 := hk0 hne
    refine pk_le ne ne (fun _ => ?_) (fun z => absurd z (by omega))
    refine xl_analyse (E := E) h0 hk1 (by omega) hpd hs hI hb (fun j _ => hE j) fun os R C S F A O hA => ?_
    refine br_f han ?_
    refine xl_count (j := 5) (by omega) hs hI hb hA ?_
    rw [rd_cnt_c (Q := rd_fs im s E) fun q _ => rd_ck_5]
    refine xr_fs h0 hs han hA ?_
    have hc := rd_cfs im s E (s - 1)
    rw [show s - 1 + 1 = s by omega] at hc
    refine rd_brb (fun z => ?_) (fun z => ?_)
    · rw [rd_if_f z] at hc
      refine xw_160 h0 hs hL hb hbo hpd hk1 (by omega) hI (fun j _ => hE j) hA ?_ hp
      rw [hc]; exact pk_sub (b := 0) (by omega)
    · rw [rd_if_t z] at hc
      refine xw_160 h0 hs hL hb hbo hpd hk1 (by omega) hI (fun j _ => hE j) hA ?_ hp
      rw [hc]; exact nI_pred _
  · rintro n i ⟨k, En⟩ hi ⟨hk, E, hE, hE0, hk0⟩ hn
    dsimp only at hk hE hE0 hk0
    refine pk_le ne i (fun z => absurd z (by omega)) (fun _ => ?_)
    refine xw_cell (nI_add 80 i) (by omega) hL ⟨nI_ne0 h0 (by omega), ?_⟩
    have e1 : rd_ce xs L (80 + i) &&& 65535 = nI ((rd_ce xs L (80 + i)).toBitVec.toNat % 65536) := pk_and _ 16 (by decide)
    have hv := Nat.mod_lt (rd_ce xs L (80 + i)).toBitVec.toNat (show 0 < 65536 by omega)
    refine xl_add (a := (rd_ce xs L (80 + i)).toBitVec.toNat % 65536 % s) ?_ (Nat.mod_lt _ h0) hs (by omega) hE (fun h => nm_r (nI_1 i) (hn (k, En) ⟨by show k ≤ i + 1; omega, E, hE, hE0, fun _ => ?_⟩)) (fun h => nm_r (nI_1 i) (hn (k + 1, upd En ((rd_ce xs L (80 + i)).toBitVec.toNat % 65536 % s) 1) ⟨by show k + 1 ≤ i + 1; omega, fun q => E q ∨ q = (rd_ce xs L (80 + i)).toBitVec.toNat % 65536 % s, fun q => ?_, fun z => absurd z (Nat.succ_ne_zero k), fun _ => Nat.succ_pos k⟩))
    · rw [e1]; exact pk_rem (by omega) h0 (by omega)
    · show 0 < k
      rcases Nat.eq_zero_or_pos k with z | z
      · exact absurd h (hE0 z _)
      · exact z
    · show upd En _ 1 q = _
      by_cases e : q = (rd_ce xs L (80 + i)).toBitVec.toNat % 65536 % s
      · rw [e, pk_us]; exact (rd_b_t (Or.inr rfl)).symm
      · rw [pk_un e, hE q]
        exact rd_bc ⟨Or.inl, fun z => z.resolve_right e⟩
theorem xw_44 {pd ne : Nat} (h0 : 0 < s) (hs : s ≤ 64) (hL : L ≤ 260) (hpd : pd ≤ 3) (hne : 0 < ne) (hne8 : ne ≤ 8) (hp : post 1) : ∃ fu, wL_law_44 post L xs (nI s) (nI ne) (nI pd) kc ks fu 0 64 0 0 0 f_outputSize f_status f_steps f_pc f_depth f_valueCount (fun _ => 0) (fun _ => 0) a_reached a_classes a_symbolic a_functionStart a_newAddress a_output a_registers a_stack a_values := by
  refine pk_loop (fun n i A => wL_law_44 post L xs (nI s) (nI ne) (nI pd) kc ks n (nI i) 64 (nI i) 0 0 f_outputSize f_status f_steps f_pc f_depth f_valueCount A (fun _ => 0) a_reached a_classes a_symbolic a_functionStart a_newAddress a_output a_registers a_stack a_values)
    (fun i A => ∀ j, A j = nI (if j < i then rd_bo (rd_ce xs L (8 + j)) s else 0)) s 0 (fun _ => 0) (by omega) ?_ ?_ ?_
  · intro j
    rw [if_neg (by omega)]; rfl
  · intro n A hA
    refine pk_le s s (fun _ => ?_) (fun z => absurd z (by omega))
    refine br_t rfl (br_t rfl ?_)
    refine xw_95 (im := fun j => if j < s then rd_bo (rd_ce xs L (8 + j)) s else 0) h0 hs hL (fun j => ?_) (fun q hq => ?_) hpd hne hne8 (fun j _ => hA j) hp
    · show (if j < s then _ else 0) < 256
      split
      · exact rd_bo_lt _ h0 hs
      · omega
    · show (if q < s then _ else 0) = _
      rw [if_pos hq]
  · intro n i A hi hA hn
    refine pk_le s i (fun z => absurd z (by omega)) (fun _ => ?_)
    refine xw_cell (nI_add 8 i) (by omega) hL ?_
    refine xw_byte h0 hs ?_
    refine xl_put (rd_bo_lt _ h0 hs) (by omega) (br_f (by decide) (nm_r (nI_1 i) (hn _ fun j => ?_)))
    by_cases e : j = i
    · subst e
      rw [pk_us, if_pos (by omega)]
    · rw [pk_un e, hA j]
      by_cases h : j < i
      · rw [if_pos h, if_pos (by omega)]
      · rw [if_neg h, if_neg (by omega)]
end
theorem i_vc (xs : Nat → Int32) (L : Nat) (hL : L ≤ 260) : wpL_law (fun r => r = 1) L xs := by
  unfold wpL_law
  refine xw_cell (k := 0) rfl (by omega) hL ?_
  have e1 : rd_ce xs L 0 &&& 63 = nI ((rd_ce xs L 0).toBitVec.toNat % 64) := pk_and _ 6 (by decide)
  have h1 := Nat.mod_lt (rd_ce xs L 0).toBitVec.toNat (show 0 < 64 by omega)
  refine nm_r (e' := nI (1 + (rd_ce xs L 0).toBitVec.toNat % 64)) (by rw [e1, ← nI_add]; rfl) ?_
  refine xw_cell (k := 1) rfl (by omega) hL ?_
  have e2 : rd_ce xs L 1 &&& 7 = nI ((rd_ce xs L 1).toBitVec.toNat % 8) := pk_and _ 3 (by decide)
  have h2 := Nat.mod_lt (rd_ce xs L 1).toBitVec.toNat (show 0 < 8 by omega)
  refine nm_r (e' := nI (1 + (rd_ce xs L 1).toBitVec.toNat % 8)) (by rw [e2, ← nI_add]; rfl) ?_
  refine xw_cell (k := 2) rfl (by omega) hL ?_
  have e3 : rd_ce xs L 2 &&& 3 = nI ((rd_ce xs L 2).toBitVec.toNat % 4) := pk_and _ 2 (by decide)
  have h3 := Nat.mod_lt (rd_ce xs L 2).toBitVec.toNat (show 0 < 4 by omega)
  refine nm_r e3 ?_
  refine ⟨11, 729, by omega, by omega, ?_⟩
  refine ⟨by omega, by omega, by omega, by omega, by omega, by omega, by omega, by omega, by omega, by omega, by omega, by omega, by omega, by omega, by omega, by omega, by omega, by omega, by omega, by omega, by omega, by omega, ?_⟩
  refine br_t (by decide) (br_t (by decide) ?_)
  exact xw_44 (by omega) (by omega) hL (by omega) (by omega) (by omega) rfl
end
