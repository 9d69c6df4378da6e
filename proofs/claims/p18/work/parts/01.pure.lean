/-! Pure facts: choice by a proposition, counts, the instruction set, the reached set -/
noncomputable def rd_if {α : Type} (P : Prop) (a b : α) : α := @ite α P (Classical.propDecidable P) a b
theorem rd_if_t {α : Type} {P : Prop} {a b : α} (h : P) : rd_if P a b = a := by unfold rd_if; exact if_pos h
theorem rd_if_f {α : Type} {P : Prop} {a b : α} (h : ¬ P) : rd_if P a b = b := by unfold rd_if; exact if_neg h
theorem rd_if_c {α : Type} {P Q : Prop} (h : P ↔ Q) (a b : α) : rd_if P a b = rd_if Q a b := by rw [propext h]
noncomputable def rd_b (P : Prop) : Int32 := rd_if P 1 0
theorem rd_b_t {P : Prop} (h : P) : rd_b P = 1 := rd_if_t h
theorem rd_b_f {P : Prop} (h : ¬ P) : rd_b P = 0 := rd_if_f h
theorem rd_b0 {P : Prop} : rd_b P = 0 ↔ ¬ P := by
  constructor
  · intro h hp
    rw [rd_b_t hp] at h
    exact absurd h (by decide)
  · exact rd_b_f
theorem rd_bc {P Q : Prop} (h : P ↔ Q) : rd_b P = rd_b Q := by rw [propext h]
theorem rd_b01 (P : Prop) : rd_b P = 0 ∨ rd_b P = 1 := by
  by_cases h : P
  · exact Or.inr (rd_b_t h)
  · exact Or.inl (rd_b_f h)
/-- how many j below n have P -/
noncomputable def rd_cnt (P : Nat → Prop) : Nat → Nat
  | 0 => 0
  | n + 1 => rd_cnt P n + rd_if (P n) 1 0
theorem rd_cnt_0 (P : Nat → Prop) : rd_cnt P 0 = 0 := rfl
theorem rd_cnt_t {P : Nat → Prop} {n : Nat} (h : P n) : rd_cnt P (n + 1) = rd_cnt P n + 1 := by
  show rd_cnt P n + rd_if (P n) 1 0 = _
  rw [rd_if_t h]
theorem rd_cnt_f {P : Nat → Prop} {n : Nat} (h : ¬ P n) : rd_cnt P (n + 1) = rd_cnt P n := by
  show rd_cnt P n + rd_if (P n) 1 0 = _
  rw [rd_if_f h]; rfl
theorem rd_cnt_le (P : Nat → Prop) : ∀ n, rd_cnt P n ≤ n := by
  intro n
  induction n with
  | zero => exact Nat.le_refl 0
  | succ n ih =>
    by_cases h : P n
    · rw [rd_cnt_t h]; omega
    · rw [rd_cnt_f h]; omega
theorem rd_cnt_mono {P Q : Nat → Prop} : ∀ {n : Nat}, (∀ j, j < n → P j → Q j) → rd_cnt P n ≤ rd_cnt Q n := by
  intro n
  induction n with
  | zero => intro _; exact Nat.le_refl 0
  | succ n ih =>
    intro h
    have i := ih fun j hj => h j (by omega)
    by_cases hp : P n
    · rw [rd_cnt_t hp, rd_cnt_t (h n (by omega) hp)]; omega
    · rw [rd_cnt_f hp]
      by_cases hq : Q n
      · rw [rd_cnt_t hq]; omega
      · rw [rd_cnt_f hq]; omega
theorem rd_cnt_lt {P Q : Nat → Prop} : ∀ {n : Nat}, (∀ j, j < n → P j → Q j) → ∀ q, q < n → ¬ P q → Q q → rd_cnt P n < rd_cnt Q n := by
  intro n
  induction n with
  | zero => intro _ q hq; omega
  | succ n ih =>
    intro h q hq np qq
    by_cases e : q = n
    · subst e
      rw [rd_cnt_f np, rd_cnt_t qq]
      have := rd_cnt_mono (n := q) fun j hj => h j (by omega)
      omega
    · have i := ih (fun j hj => h j (by omega)) q (by omega) np qq
      by_cases hp : P n
      · rw [rd_cnt_t hp, rd_cnt_t (h n (by omega) hp)]; omega
      · rw [rd_cnt_f hp]
        by_cases hq : Q n
        · rw [rd_cnt_t hq]; omega
        · rw [rd_cnt_f hq]; omega
theorem rd_cnt_full {P : Nat → Prop} : ∀ {n : Nat}, n ≤ rd_cnt P n → ∀ j, j < n → P j := by
  intro n
  induction n with
  | zero => intro _ j hj; omega
  | succ n ih =>
    intro h j hj
    have hl := rd_cnt_le P n
    by_cases hp : P n
    · rw [rd_cnt_t hp] at h
      by_cases e : j = n
      · rw [e]; exact hp
      · exact ih (by omega) j (by omega)
    · rw [rd_cnt_f hp] at h; omega
theorem rd_cnt_c {P Q : Nat → Prop} {n : Nat} (h : ∀ j, j < n → (P j ↔ Q j)) : rd_cnt P n = rd_cnt Q n :=
  Nat.le_antisymm (rd_cnt_mono fun j hj => (h j hj).1) (rd_cnt_mono fun j hj => (h j hj).2)
/-! the instruction set -/
def rd_len (op : Nat) : Nat := if op = 0 ∨ op = 1 ∨ op = 12 then 1 else if op = 7 ∨ op = 8 ∨ op = 11 ∨ op = 14 then 2 else if op = 6 ∨ op = 9 ∨ op = 10 then 4 else 3
theorem rd_len_r (op : Nat) : 1 ≤ rd_len op ∧ rd_len op ≤ 4 := by
  unfold rd_len
  split
  · omega
  · split
    · omega
    · split <;> omega
def rd_r1 (op : Nat) : Prop := (2 ≤ op ∧ op ≤ 7) ∨ op = 9 ∨ op = 10 ∨ op = 13 ∨ op = 14
def rd_ok (m : Nat → Nat) (n p : Nat) : Prop := p < n ∧ m p ≤ 14 ∧ p + rd_len (m p) ≤ n ∧ (rd_r1 (m p) → m (p + 1) ≤ 3) ∧ (m p = 4 → m (p + 2) ≤ 3) ∧ (m p = 6 → m (p + 3) ≤ 3)
/-- the table's length of a JMPT at p, 0 where there is none -/
def rd_tb (m : Nat → Nat) (s p : Nat) : Prop := m p = 13 ∧ 4 ≤ p ∧ m (p - 4) = 10 ∧ m (p - 3) = m (p + 1) ∧ m (p - 2) ≤ 16 ∧ m (p + 2) + m (p - 2) ≤ s
noncomputable def rd_tl (m : Nat → Nat) (s p : Nat) : Nat := rd_if (rd_tb m s p) (m (p - 2)) 0
theorem rd_tl_le {m : Nat → Nat} {s p : Nat} (h : 0 < rd_tl m s p) : rd_tb m s p ∧ rd_tl m s p = m (p - 2) ∧ m (p + 2) + rd_tl m s p ≤ s ∧ rd_tl m s p ≤ 16 := by
  by_cases hb : rd_tb m s p
  · have e : rd_tl m s p = m (p - 2) := rd_if_t hb
    refine ⟨hb, e, ?_, ?_⟩
    · rw [e]; exact hb.2.2.2.2.2
    · rw [e]; exact hb.2.2.2.2.1
  · have e : rd_tl m s p = 0 := rd_if_f hb
    omega
/-- control may go on from p without a transfer -/
def rd_seq (op : Nat) : Prop := op ≠ 0 ∧ op ≠ 12 ∧ op ≠ 14 ∧ op ≠ 8 ∧ op ≠ 11 ∧ op ≠ 9 ∧ op ≠ 10 ∧ op ≠ 13
def rd_sc (m : Nat → Nat) (s p x : Nat) : Prop :=
  (m p = 8 ∧ x = m (p + 1)) ∨ (m p = 11 ∧ (x = m (p + 1) ∨ x = p + 2)) ∨ ((m p = 9 ∨ m p = 10) ∧ (x = m (p + 3) ∨ x = p + 4)) ∨ (m p = 13 ∧ ∃ j, j < rd_tl m s p ∧ x = m (m (p + 2) + j)) ∨ (rd_seq (m p) ∧ x = p + rd_len (m p))
/-- S is closed under the successors -/
def rd_cl (m : Nat → Nat) (s : Nat) (S : Nat → Prop) : Prop := ∀ p x, S p → rd_ok m s p → rd_sc m s p x → x < s → S x
/-- the least closed set over the entries E -/
def rd_LR (m : Nat → Nat) (s : Nat) (E : Nat → Prop) (q : Nat) : Prop := ∀ S : Nat → Prop, (∀ e, e < s → E e → S e) → rd_cl m s S → S q
theorem rd_LR_e {m : Nat → Nat} {s : Nat} {E : Nat → Prop} {q : Nat} (hq : q < s) (h : E q) : rd_LR m s E q := fun _ h1 _ => h1 q hq h
theorem rd_LR_s {m : Nat → Nat} {s : Nat} {E : Nat → Prop} {p x : Nat} (h : rd_LR m s E p) (ho : rd_ok m s p) (hs : rd_sc m s p x) (hx : x < s) : rd_LR m s E x := fun S h1 h2 => h2 p x (h S h1 h2) ho hs hx
/-- within a pass that began at R0 and has done the positions below p -/
def rd_Ps (m : Nat → Nat) (s : Nat) (E R0 R : Nat → Prop) (p : Nat) : Prop :=
  (∀ q, q < s → R0 q → R q) ∧ (∀ q, q < s → R q → rd_LR m s E q) ∧ (∀ p', p' < p → R0 p' → rd_ok m s p' → ∀ x, x < s → rd_sc m s p' x → R x)
/-- after k passes -/
def rd_J (m : Nat → Nat) (s : Nat) (E R : Nat → Prop) (k : Nat) : Prop :=
  (∀ q, q < s → E q → R q) ∧ (∀ q, q < s → R q → rd_LR m s E q) ∧ ((∀ q, q < s → rd_LR m s E q → R q) ∨ k ≤ rd_cnt R s)
theorem rd_Ps_end {m : Nat → Nat} {s : Nat} {E R0 R : Nat → Prop} (hE : ∀ q, q < s → E q → R0 q) (h : rd_Ps m s E R0 R s) : (∀ q, q < s → rd_LR m s E q → R q) ∨ ∃ q, q < s ∧ R q ∧ ¬ R0 q := by
  by_cases hc : ∃ q, q < s ∧ R q ∧ ¬ R0 q
  · exact Or.inr hc
  · refine Or.inl fun q hq hl => ?_
    have back : ∀ x, x < s → R x → R0 x := fun x hx hr => Classical.byContradiction fun hn => hc ⟨x, hx, hr, hn⟩
    have := hl (fun x => x < s → R x) (fun e he hee _ => h.1 e he (hE e he hee)) (fun p x hp ho hsc hx _ => h.2.2 p ho.1 (back p ho.1 (hp ho.1)) ho x hx hsc)
    exact this hq
theorem rd_J_next {m : Nat → Nat} {s k : Nat} {E R0 R : Nat → Prop} (hJ : rd_J m s E R0 k) (h : rd_Ps m s E R0 R s) : rd_J m s E R (k + 1) := by
  refine ⟨fun q hq he => h.1 q hq (hJ.1 q hq he), h.2.1, ?_⟩
  rcases rd_Ps_end hJ.1 h with hl | ⟨q, hq, hr, hn⟩
  · exact Or.inl hl
  · rcases hJ.2.2 with hl | hk
    · exact Or.inl fun q hq hh => h.1 q hq (hl q hq hh)
    · have := rd_cnt_lt h.1 q hq hn hr
      exact Or.inr (by omega)
theorem rd_J_fin {m : Nat → Nat} {s : Nat} {E R : Nat → Prop} (hJ : rd_J m s E R s) {q : Nat} (hq : q < s) : R q ↔ rd_LR m s E q := by
  refine ⟨hJ.2.1 q hq, fun hl => ?_⟩
  rcases hJ.2.2 with h | h
  · exact h q hq hl
  · exact rd_cnt_full h q hq
theorem rd_nbb (P : Prop) : vp_nar .boolean (rd_b P) = rd_b P := by
  rcases rd_b01 P with h | h <;> rw [h]
  · exact rd_nb0
  · exact rd_nb1
theorem rd_nrb (P : Prop) : narrow .boolean (.int (rd_b P)) = .int (rd_b P) := by
  rcases rd_b01 P with h | h <;> rw [h] <;> rfl
