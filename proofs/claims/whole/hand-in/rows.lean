section
/-! rows pasted from the kit's rows to paste, and small rows of my own beside them -/
theorem pk_us {f : Nat → Int32} {k : Nat} {x : Int32} : upd f k x k = x := if_pos rfl
theorem pk_un {f : Nat → Int32} {k j : Nat} {x : Int32} (h : j ≠ k) : upd f k x j = f j := if_neg h
theorem pk_sub {a b : Nat} (h : b ≤ a) : nI a - nI b = nI (a - b) := by
  obtain ⟨c, rfl⟩ : ∃ c, a = c + b := ⟨a - b, by omega⟩
  rw [← nI_add, Int32.add_sub_cancel, Nat.add_sub_cancel]
theorem pk_m1 (n : Nat) : nI (n + 1) + (-1) = nI n := by
  rw [← nI_1, Int32.add_assoc, show (1 : Int32) + (-1) = 0 from rfl, Int32.add_zero]
theorem pk_mul (a b : Nat) : nI a * nI b = nI (a * b) := (Int32.ofNat_mul a b).symm
theorem pk_ix (x : Int32) {n : Nat} (hn : n < 2 ^ 31) : x < 0 ∨ nI n ≤ x ∨ ∃ j : Nat, j < n ∧ x = nI j := by
  by_cases h : x < 0
  · exact Or.inl h
  · obtain ⟨j, hj, rfl⟩ := nI_of h
    by_cases h2 : j < n
    · exact Or.inr (Or.inr ⟨j, h2, rfl⟩)
    · exact Or.inr (Or.inl (nI_le (by omega) hj))
theorem pk_le {x y : Int32} {A B : Prop} (a b : Nat) (f : a ≤ b → A) (g : b < a → B) (hx : x = nI a := by rfl) (hy : y = nI b := by rfl) (ha : a < 2 ^ 31 := by omega) (hb : b < 2 ^ 31 := by omega) : (x ≤ y → A) ∧ (¬ x ≤ y → B) := by
  subst hx hy
  rw [nI_leI ha hb]
  exact ⟨f, fun z => g (by omega)⟩
theorem pk_lt {x y : Int32} {A B : Prop} (a b : Nat) (f : a < b → A) (g : b ≤ a → B) (hx : x = nI a := by rfl) (hy : y = nI b := by rfl) (ha : a < 2 ^ 31 := by omega) (hb : b < 2 ^ 31 := by omega) : (x < y → A) ∧ (¬ x < y → B) := by
  subst hx hy
  rw [nI_ltI ha hb]
  exact ⟨f, fun z => g (by omega)⟩
theorem pk_eq {x y : Int32} {A B : Prop} (a b : Nat) (f : a = b → A) (g : a ≠ b → B) (hx : x = nI a := by rfl) (hy : y = nI b := by rfl) (ha : a < 2 ^ 31 := by omega) (hb : b < 2 ^ 31 := by omega) : (x = y → A) ∧ (¬ x = y → B) := by
  subst hx hy
  rw [nI_eq ha hb]
  exact ⟨f, g⟩
theorem pk_in {x : Int32} (n N : Nat) (h : n < N) (hx : x = nI n := by rfl) (hN : N < 2 ^ 31 := by omega) : vp_in x N := by
  subst hx
  exact vp_in_nI h hN
theorem pk_cl {x : Int32} (n : Nat) (hx : x = nI n := by rfl) (h : n < 2 ^ 31 := by omega) : x.toNatClampNeg = n := by
  subst hx
  exact nI_clamp h
theorem pk_tn {n : Nat} (h : n < 2 ^ 32) : (nI n).toBitVec.toNat = n := Nat.mod_eq_of_lt h
theorem pk_and (x : Int32) {m : Int32} (k : Nat) (hm : m.toBitVec.toNat = 2 ^ k - 1) : x &&& m = nI (x.toBitVec.toNat % 2 ^ k) := by
  apply Int32.toBitVec_inj.mp
  apply BitVec.eq_of_toNat_eq
  rw [Int32.toBitVec_and, BitVec.toNat_and, hm, Nat.and_two_pow_sub_one_eq_mod]
  show _ = (BitVec.ofNat 32 _).toNat
  rw [BitVec.toNat_ofNat]
  exact (Nat.mod_eq_of_lt (Nat.lt_of_le_of_lt (Nat.mod_le _ _) x.toBitVec.isLt)).symm
theorem pk_andN {n : Nat} (h : n < 2 ^ 32) {m : Int32} (k : Nat) (hm : m.toBitVec.toNat = 2 ^ k - 1) : nI n &&& m = nI (n % 2 ^ k) := by
  rw [pk_and _ k hm, pk_tn h]
theorem pk_andE (x : Int32) {m : Int32} (k : Nat) (hm : m.toBitVec.toNat = 2 ^ k - 1) : ∃ j : Nat, j < 2 ^ k ∧ x &&& m = nI j := ⟨_, Nat.mod_lt _ (Nat.two_pow_pos k), pk_and x k hm⟩
theorem pk_andIn (x : Int32) {m : Int32} (k : Nat) (hm : m.toBitVec.toNat = 2 ^ k - 1) (hk : k ≤ 30) : vp_in (x &&& m) (2 ^ k) := by
  obtain ⟨j, hj, e⟩ := pk_andE x k hm
  rw [e]
  exact vp_in_nI hj (Nat.lt_of_le_of_lt (Nat.pow_le_pow_right (by decide) hk) (by decide))
theorem pk_loop {σ : Type} (W : Nat → Nat → σ → Prop) (I : Nat → σ → Prop) (e i0 : Nat) (s : σ) (hi : i0 ≤ e) (h0 : I i0 s) (hx : ∀ n s, I e s → W (n + 1) e s)
    (hs : ∀ n i s, i < e → I i s → (∀ s', I (i + 1) s' → W n (i + 1) s') → W (n + 1) i s) : ∃ n, W n i0 s :=
  ⟨e + 1, loop_i W I e hx hs (e + 1) i0 s hi (by omega) h0⟩
theorem ek_if {c d A B : Prop} (e : c ↔ d) (f : d → A) (g : ¬ d → B) : (c → A) ∧ (¬ c → B) :=
  ⟨fun z => f (e.mp z), fun z => g (fun y => z (e.mpr y))⟩
theorem ek_v {α : Sort _} {P : α → Prop} {a b : α} (e : a = b) (h : P b) : P a := e ▸ h
end
section
/-! numbers: literals as nI, bounds, stores of truth values -/
theorem rd_l0 : (0 : Int32) = nI 0 := rfl
theorem rd_l1 : (1 : Int32) = nI 1 := rfl
theorem rd_l2 : (2 : Int32) = nI 2 := rfl
theorem rd_l3 : (3 : Int32) = nI 3 := rfl
theorem rd_l4 : (4 : Int32) = nI 4 := rfl
theorem rd_l5 : (5 : Int32) = nI 5 := rfl
theorem rd_l6 : (6 : Int32) = nI 6 := rfl
theorem rd_l7 : (7 : Int32) = nI 7 := rfl
theorem rd_l8 : (8 : Int32) = nI 8 := rfl
theorem rd_l9 : (9 : Int32) = nI 9 := rfl
theorem rd_l10 : (10 : Int32) = nI 10 := rfl
theorem rd_l11 : (11 : Int32) = nI 11 := rfl
theorem rd_l12 : (12 : Int32) = nI 12 := rfl
theorem rd_l13 : (13 : Int32) = nI 13 := rfl
theorem rd_l14 : (14 : Int32) = nI 14 := rfl
theorem rd_l15 : (15 : Int32) = nI 15 := rfl
theorem rd_l16 : (16 : Int32) = nI 16 := rfl
theorem rd_l64 : (64 : Int32) = nI 64 := rfl
theorem rd_l70 : (70 : Int32) = nI 70 := rfl
theorem rd_l255 : (255 : Int32) = nI 255 := rfl
theorem rd_l256 : (256 : Int32) = nI 256 := rfl
theorem rd_l2000 : (2000 : Int32) = nI 2000 := rfl
theorem rd_in {k N : Nat} (hk : k < 2 ^ 31) : vp_in (nI k) N ↔ k < N := by
  rw [vp_in_iff, nI_toInt hk]; omega
theorem rd_inr {x : Int32} {a : Nat → Int32} {p N : Nat} (e : x = nI p) (h : p < N) (hN : N < 2 ^ 31) : vp_in x N ∧ a x.toNatClampNeg = a p := by
  subst e
  exact ⟨vp_in_nI h hN, by rw [nI_clamp (by omega)]⟩
theorem rd_nb0 : vp_nar .boolean 0 = 0 := rfl
theorem rd_nb1 : vp_nar .boolean 1 = 1 := rfl
theorem rd_lt0 {k : Nat} (h : k < 2 ^ 31) : ¬ nI k < 0 := nI_pos h
theorem rd_ge0 {k : Nat} (h : k < 2 ^ 31) : 0 ≤ nI k := nI_pos' h
theorem rd_neg {x : Int32} (h : x < 0) : ¬ 0 ≤ x := Int32.not_le.mpr h
end
section
/-! Pure facts: choice by a proposition, counts, the instruction set, the reached set -/
noncomputable def rd_if {α : Type} (P : Prop) (a b : α) : α := @ite α P (Classical.propDecidable P) a b
theorem rd_if_t {α : Type} {P : Prop} {a b : α} (h : P) : rd_if P a b = a := by unfold rd_if; exact if_pos h
theorem rd_if_f {α : Type} {P : Prop} {a b : α} (h : ¬ P) : rd_if P a b = b := by unfold rd_if; exact if_neg h
theorem rd_if_c {α : Type} {P Q : Prop} (h : P ↔ Q) (a b : α) : rd_if P a b = rd_if Q a b := by rw [propext h]
noncomputable def rd_b (P : Prop) : Int32 := rd_if P 1 0
theorem rd_b_t {P : Prop} (h : P) : rd_b P = 1 := rd_if_t h
theorem rd_b_f {P : Prop} (h : ¬ P) : rd_b P = 0 := rd_if_f h
theorem rd_b0 {P : Prop} : rd_b P = 0 ↔ ¬ P := by
  constructor
  · intro h hp
    rw [rd_b_t hp] at h
    exact absurd h (by decide)
  · exact rd_b_f
theorem rd_bc {P Q : Prop} (h : P ↔ Q) : rd_b P = rd_b Q := by rw [propext h]
theorem rd_b01 (P : Prop) : rd_b P = 0 ∨ rd_b P = 1 := by
  by_cases h : P
  · exact Or.inr (rd_b_t h)
  · exact Or.inl (rd_b_f h)
/-- how many j below n have P -/
noncomputable def rd_cnt (P : Nat → Prop) : Nat → Nat
  | 0 => 0
  | n + 1 => rd_cnt P n + rd_if (P n) 1 0
theorem rd_cnt_0 (P : Nat → Prop) : rd_cnt P 0 = 0 := rfl
theorem rd_cnt_t {P : Nat → Prop} {n : Nat} (h : P n) : rd_cnt P (n + 1) = rd_cnt P n + 1 := by
  show rd_cnt P n + rd_if (P n) 1 0 = _
  rw [rd_if_t h]
theorem rd_cnt_f {P : Nat → Prop} {n : Nat} (h : ¬ P n) : rd_cnt P (n + 1) = rd_cnt P n := by
  show rd_cnt P n + rd_if (P n) 1 0 = _
  rw [rd_if_f h]; rfl
theorem rd_cnt_le (P : Nat → Prop) : ∀ n, rd_cnt P n ≤ n := by
  intro n
  induction n with
  | zero => exact Nat.le_refl 0
  | succ n ih =>
    by_cases h : P n
    · rw [rd_cnt_t h]; omega
    · rw [rd_cnt_f h]; omega
theorem rd_cnt_mono {P Q : Nat → Prop} : ∀ {n : Nat}, (∀ j, j < n → P j → Q j) → rd_cnt P n ≤ rd_cnt Q n := by
  intro n
  induction n with
  | zero => intro _; exact Nat.le_refl 0
  | succ n ih =>
    intro h
    have i := ih fun j hj => h j (by omega)
    by_cases hp : P n
    · rw [rd_cnt_t hp, rd_cnt_t (h n (by omega) hp)]; omega
    · rw [rd_cnt_f hp]
      by_cases hq : Q n
      · rw [rd_cnt_t hq]; omega
      · rw [rd_cnt_f hq]; omega
theorem rd_cnt_lt {P Q : Nat → Prop} : ∀ {n : Nat}, (∀ j, j < n → P j → Q j) → ∀ q, q < n → ¬ P q → Q q → rd_cnt P n < rd_cnt Q n := by
  intro n
  induction n with
  | zero => intro _ q hq; omega
  | succ n ih =>
    intro h q hq np qq
    by_cases e : q = n
    · subst e
      rw [rd_cnt_f np, rd_cnt_t qq]
      have := rd_cnt_mono (n := q) fun j hj => h j (by omega)
      omega
    · have i := ih (fun j hj => h j (by omega)) q (by omega) np qq
      by_cases hp : P n
      · rw [rd_cnt_t hp, rd_cnt_t (h n (by omega) hp)]; omega
      · rw [rd_cnt_f hp]
        by_cases hq : Q n
        · rw [rd_cnt_t hq]; omega
        · rw [rd_cnt_f hq]; omega
theorem rd_cnt_full {P : Nat → Prop} : ∀ {n : Nat}, n ≤ rd_cnt P n → ∀ j, j < n → P j := by
  intro n
  induction n with
  | zero => intro _ j hj; omega
  | succ n ih =>
    intro h j hj
    have hl := rd_cnt_le P n
    by_cases hp : P n
    · rw [rd_cnt_t hp] at h
      by_cases e : j = n
      · rw [e]; exact hp
      · exact ih (by omega) j (by omega)
    · rw [rd_cnt_f hp] at h; omega
theorem rd_cnt_c {P Q : Nat → Prop} {n : Nat} (h : ∀ j, j < n → (P j ↔ Q j)) : rd_cnt P n = rd_cnt Q n :=
  Nat.le_antisymm (rd_cnt_mono fun j hj => (h j hj).1) (rd_cnt_mono fun j hj => (h j hj).2)
/-! the instruction set -/
def rd_len (op : Nat) : Nat := if op = 0 ∨ op = 1 ∨ op = 12 then 1 else if op = 7 ∨ op = 8 ∨ op = 11 ∨ op = 14 then 2 else if op = 6 ∨ op = 9 ∨ op = 10 then 4 else 3
theorem rd_len_r (op : Nat) : 1 ≤ rd_len op ∧ rd_len op ≤ 4 := by
  unfold rd_len
  split
  · omega
  · split
    · omega
    · split <;> omega
def rd_r1 (op : Nat) : Prop := (2 ≤ op ∧ op ≤ 7) ∨ op = 9 ∨ op = 10 ∨ op = 13 ∨ op = 14
def rd_ok (m : Nat → Nat) (n p : Nat) : Prop := p < n ∧ m p ≤ 14 ∧ p + rd_len (m p) ≤ n ∧ (rd_r1 (m p) → m (p + 1) ≤ 3) ∧ (m p = 4 → m (p + 2) ≤ 3) ∧ (m p = 6 → m (p + 3) ≤ 3)
/-- the table's length of a JMPT at p, 0 where there is none -/
def rd_tb (m : Nat → Nat) (s p : Nat) : Prop := m p = 13 ∧ 4 ≤ p ∧ m (p - 4) = 10 ∧ m (p - 3) = m (p + 1) ∧ m (p - 2) ≤ 16 ∧ m (p + 2) + m (p - 2) ≤ s
noncomputable def rd_tl (m : Nat → Nat) (s p : Nat) : Nat := rd_if (rd_tb m s p) (m (p - 2)) 0
theorem rd_tl_le {m : Nat → Nat} {s p : Nat} (h : 0 < rd_tl m s p) : rd_tb m s p ∧ rd_tl m s p = m (p - 2) ∧ m (p + 2) + rd_tl m s p ≤ s ∧ rd_tl m s p ≤ 16 := by
  by_cases hb : rd_tb m s p
  · have e : rd_tl m s p = m (p - 2) := rd_if_t hb
    refine ⟨hb, e, ?_, ?_⟩
    · rw [e]; exact hb.2.2.2.2.2
    · rw [e]; exact hb.2.2.2.2.1
  · have e : rd_tl m s p = 0 := rd_if_f hb
    omega
/-- control may go on from p without a transfer -/
def rd_seq (op : Nat) : Prop := op ≠ 0 ∧ op ≠ 12 ∧ op ≠ 14 ∧ op ≠ 8 ∧ op ≠ 11 ∧ op ≠ 9 ∧ op ≠ 10 ∧ op ≠ 13
def rd_sc (m : Nat → Nat) (s p x : Nat) : Prop :=
  (m p = 8 ∧ x = m (p + 1)) ∨ (m p = 11 ∧ (x = m (p + 1) ∨ x = p + 2)) ∨ ((m p = 9 ∨ m p = 10) ∧ (x = m (p + 3) ∨ x = p + 4)) ∨ (m p = 13 ∧ ∃ j, j < rd_tl m s p ∧ x = m (m (p + 2) + j)) ∨ (rd_seq (m p) ∧ x = p + rd_len (m p))
/-- S is closed under the successors -/
def rd_cl (m : Nat → Nat) (s : Nat) (S : Nat → Prop) : Prop := ∀ p x, S p → rd_ok m s p → rd_sc m s p x → x < s → S x
/-- the least closed set over the entries E -/
def rd_LR (m : Nat → Nat) (s : Nat) (E : Nat → Prop) (q : Nat) : Prop := ∀ S : Nat → Prop, (∀ e, e < s → E e → S e) → rd_cl m s S → S q
theorem rd_LR_e {m : Nat → Nat} {s : Nat} {E : Nat → Prop} {q : Nat} (hq : q < s) (h : E q) : rd_LR m s E q := fun _ h1 _ => h1 q hq h
theorem rd_LR_s {m : Nat → Nat} {s : Nat} {E : Nat → Prop} {p x : Nat} (h : rd_LR m s E p) (ho : rd_ok m s p) (hs : rd_sc m s p x) (hx : x < s) : rd_LR m s E x := fun S h1 h2 => h2 p x (h S h1 h2) ho hs hx
/-- within a pass that began at R0 and has done the positions below p -/
def rd_Ps (m : Nat → Nat) (s : Nat) (E R0 R : Nat → Prop) (p : Nat) : Prop :=
  (∀ q, q < s → R0 q → R q) ∧ (∀ q, q < s → R q → rd_LR m s E q) ∧ (∀ p', p' < p → R0 p' → rd_ok m s p' → ∀ x, x < s → rd_sc m s p' x → R x)
/-- after k passes -/
def rd_J (m : Nat → Nat) (s : Nat) (E R : Nat → Prop) (k : Nat) : Prop :=
  (∀ q, q < s → E q → R q) ∧ (∀ q, q < s → R q → rd_LR m s E q) ∧ ((∀ q, q < s → rd_LR m s E q → R q) ∨ k ≤ rd_cnt R s)
theorem rd_Ps_end {m : Nat → Nat} {s : Nat} {E R0 R : Nat → Prop} (hE : ∀ q, q < s → E q → R0 q) (h : rd_Ps m s E R0 R s) : (∀ q, q < s → rd_LR m s E q → R q) ∨ ∃ q, q < s ∧ R q ∧ ¬ R0 q := by
  by_cases hc : ∃ q, q < s ∧ R q ∧ ¬ R0 q
  · exact Or.inr hc
  · refine Or.inl fun q hq hl => ?_
    have back : ∀ x, x < s → R x → R0 x := fun x hx hr => Classical.byContradiction fun hn => hc ⟨x, hx, hr, hn⟩
    have := hl (fun x => x < s → R x) (fun e he hee _ => h.1 e he (hE e he hee)) (fun p x hp ho hsc hx _ => h.2.2 p ho.1 (back p ho.1 (hp ho.1)) ho x hx hsc)
    exact this hq
theorem rd_J_next {m : Nat → Nat} {s k : Nat} {E R0 R : Nat → Prop} (hJ : rd_J m s E R0 k) (h : rd_Ps m s E R0 R s) : rd_J m s E R (k + 1) := by
  refine ⟨fun q hq he => h.1 q hq (hJ.1 q hq he), h.2.1, ?_⟩
  rcases rd_Ps_end hJ.1 h with hl | ⟨q, hq, hr, hn⟩
  · exact Or.inl hl
  · rcases hJ.2.2 with hl | hk
    · exact Or.inl fun q hq hh => h.1 q hq (hl q hq hh)
    · have := rd_cnt_lt h.1 q hq hn hr
      exact Or.inr (by omega)
theorem rd_J_fin {m : Nat → Nat} {s : Nat} {E R : Nat → Prop} (hJ : rd_J m s E R s) {q : Nat} (hq : q < s) : R q ↔ rd_LR m s E q := by
  refine ⟨hJ.2.1 q hq, fun hl => ?_⟩
  rcases hJ.2.2 with h | h
  · exact h q hq hl
  · exact rd_cnt_full h q hq
theorem rd_nbb (P : Prop) : vp_nar .boolean (rd_b P) = rd_b P := by
  rcases rd_b01 P with h | h <;> rw [h]
  · exact rd_nb0
  · exact rd_nb1
theorem rd_nrb (P : Prop) : narrow .boolean (.int (rd_b P)) = .int (rd_b P) := by
  rcases rd_b01 P with h | h <;> rw [h] <;> rfl
end
section
/-! Pure facts: kinds of bytes, symbols, function starts, layout -/
def rd_st (m : Nat → Nat) (s : Nat) (E : Nat → Prop) (p : Nat) : Prop := rd_LR m s E p ∧ rd_ok m s p
def rd_opd (m : Nat → Nat) (s : Nat) (E : Nat → Prop) (k q : Nat) : Prop := ∃ p, p < k ∧ rd_st m s E p ∧ p < q ∧ q < p + rd_len (m p)
def rd_tab (m : Nat → Nat) (s : Nat) (E : Nat → Prop) (k q : Nat) : Prop := ∃ p, p < k ∧ rd_st m s E p ∧ m (p + 2) ≤ q ∧ q < m (p + 2) + rd_tl m s p
/-- the kind of q, where P are the operands so far and T the table bytes so far -/
noncomputable def rd_c2 (m : Nat → Nat) (s : Nat) (E P T : Nat → Prop) (q : Nat) : Int32 :=
  rd_if (rd_LR m s E q) (rd_if (rd_ok m s q) 1 4) (rd_if (P q) 2 (rd_if (T q) 3 0))
noncomputable def rd_cls (m : Nat → Nat) (s : Nat) (E : Nat → Prop) (q : Nat) : Int32 := rd_c2 m s E (rd_opd m s E s) (rd_tab m s E s) q
theorem rd_c2_st {m : Nat → Nat} {s : Nat} {E P T : Nat → Prop} {q : Nat} : rd_c2 m s E P T q = 1 ↔ rd_st m s E q := by
  unfold rd_c2 rd_st
  by_cases h1 : rd_LR m s E q
  · rw [rd_if_t h1]
    by_cases h2 : rd_ok m s q
    · rw [rd_if_t h2]; exact ⟨fun _ => ⟨h1, h2⟩, fun _ => rfl⟩
    · rw [rd_if_f h2]; exact ⟨fun h => absurd h (by decide), fun h => absurd h.2 h2⟩
  · rw [rd_if_f h1]
    refine ⟨fun h => ?_, fun h => absurd h.1 h1⟩
    by_cases h3 : P q
    · rw [rd_if_t h3] at h; exact absurd h (by decide)
    · rw [rd_if_f h3] at h
      by_cases h4 : T q
      · rw [rd_if_t h4] at h; exact absurd h (by decide)
      · rw [rd_if_f h4] at h; exact absurd h (by decide)
theorem rd_c2_0 {m : Nat → Nat} {s : Nat} {E P T : Nat → Prop} {q : Nat} : rd_c2 m s E P T q = 0 ↔ ¬ rd_LR m s E q ∧ ¬ P q ∧ ¬ T q := by
  unfold rd_c2
  by_cases h1 : rd_LR m s E q
  · rw [rd_if_t h1]
    refine ⟨fun h => ?_, fun h => absurd h1 h.1⟩
    by_cases h2 : rd_ok m s q
    · rw [rd_if_t h2] at h; exact absurd h (by decide)
    · rw [rd_if_f h2] at h; exact absurd h (by decide)
  · rw [rd_if_f h1]
    by_cases h3 : P q
    · rw [rd_if_t h3]; exact ⟨fun h => absurd h (by decide), fun h => absurd h3 h.2.1⟩
    · rw [rd_if_f h3]
      by_cases h4 : T q
      · rw [rd_if_t h4]; exact ⟨fun h => absurd h (by decide), fun h => absurd h4 h.2.2⟩
      · rw [rd_if_f h4]; exact ⟨fun _ => ⟨h1, h3, h4⟩, fun _ => rfl⟩
theorem rd_c2_c {m : Nat → Nat} {s : Nat} {E P T P' T' : Nat → Prop} {q : Nat} (hP : P q ↔ P' q) (hT : T q ↔ T' q) : rd_c2 m s E P T q = rd_c2 m s E P' T' q := by
  unfold rd_c2; rw [propext hP, propext hT]
/-- what claiming the range from f to e for kind c makes of the kinds a -/
noncomputable def rd_clm (a : Nat → Int32) (f e : Nat) (c : Int32) : Nat → Int32 := fun j => rd_if (f ≤ j ∧ j < e ∧ a j = 0) c (a j)
theorem rd_clm_0 (a : Nat → Int32) (f : Nat) {e : Nat} (h : e ≤ f) (c : Int32) : rd_clm a f e c = a := by
  funext j; exact rd_if_f (by omega)
theorem rd_clm_t {a : Nat → Int32} {f e : Nat} {c : Int32} (h : f ≤ e) (hz : rd_clm a f e c e = 0) : upd (rd_clm a f e c) e c = rd_clm a f (e + 1) c := by
  have ha : rd_clm a f e c e = a e := rd_if_f (by omega)
  rw [ha] at hz
  funext j
  unfold upd
  by_cases ej : j = e
  · rw [if_pos ej]; subst ej; exact (rd_if_t ⟨h, by omega, hz⟩).symm
  · rw [if_neg ej]
    exact rd_if_c ⟨fun hh => ⟨hh.1, by omega, hh.2.2⟩, fun hh => ⟨hh.1, by omega, hh.2.2⟩⟩ _ _
theorem rd_clm_f {a : Nat → Int32} {f e : Nat} {c : Int32} (hz : ¬ rd_clm a f e c e = 0) : rd_clm a f e c = rd_clm a f (e + 1) c := by
  have ha : rd_clm a f e c e = a e := rd_if_f (by omega)
  rw [ha] at hz
  funext j
  refine rd_if_c ⟨fun hh => ⟨hh.1, by omega, hh.2.2⟩, fun hh => ⟨hh.1, ?_, hh.2.2⟩⟩ _ _
  by_cases ej : j = e
  · subst ej; exact absurd hh.2.2 hz
  · omega
theorem rd_clm_opd {m : Nat → Nat} {s : Nat} {E P : Nat → Prop} {a : Nat → Int32} {f e j : Nat} (h : a j = rd_c2 m s E P (fun _ => False) j) : rd_clm a f e 2 j = rd_c2 m s E (fun q => P q ∨ (f ≤ q ∧ q < e)) (fun _ => False) j := by
  unfold rd_clm
  by_cases hr : f ≤ j ∧ j < e ∧ a j = 0
  · rw [rd_if_t hr]
    have h0 := hr.2.2
    rw [h, rd_c2_0] at h0
    unfold rd_c2
    rw [rd_if_f h0.1, rd_if_t (Or.inr ⟨hr.1, hr.2.1⟩)]
  · rw [rd_if_f hr, h]
    unfold rd_c2
    by_cases h1 : rd_LR m s E j
    · rw [rd_if_t h1, rd_if_t h1]
    · rw [rd_if_f h1, rd_if_f h1]
      by_cases h3 : P j
      · rw [rd_if_t h3, rd_if_t (Or.inl h3)]
      · have : ¬ (P j ∨ (f ≤ j ∧ j < e)) := by
          intro hh
          rcases hh with hh | hh
          · exact h3 hh
          · exact hr ⟨hh.1, hh.2, by rw [h, rd_c2_0]; exact ⟨h1, h3, fun z => z⟩⟩
        rw [rd_if_f h3, rd_if_f this]
theorem rd_clm_tab {m : Nat → Nat} {s : Nat} {E P T : Nat → Prop} {a : Nat → Int32} {f e j : Nat} (h : a j = rd_c2 m s E P T j) : rd_clm a f e 3 j = rd_c2 m s E P (fun q => T q ∨ (f ≤ q ∧ q < e)) j := by
  unfold rd_clm
  by_cases hr : f ≤ j ∧ j < e ∧ a j = 0
  · rw [rd_if_t hr]
    have h0 := hr.2.2
    rw [h, rd_c2_0] at h0
    unfold rd_c2
    rw [rd_if_f h0.1, rd_if_f h0.2.1, rd_if_t (Or.inr ⟨hr.1, hr.2.1⟩)]
  · rw [rd_if_f hr, h]
    unfold rd_c2
    by_cases h1 : rd_LR m s E j
    · rw [rd_if_t h1, rd_if_t h1]
    · rw [rd_if_f h1, rd_if_f h1]
      by_cases h3 : P j
      · rw [rd_if_t h3, rd_if_t h3]
      · rw [rd_if_f h3, rd_if_f h3]
        by_cases h4 : T j
        · rw [rd_if_t h4, rd_if_t (Or.inl h4)]
        · have : ¬ (T j ∨ (f ≤ j ∧ j < e)) := by
            intro hh
            rcases hh with hh | hh
            · exact h4 hh
            · exact hr ⟨hh.1, hh.2, by rw [h, rd_c2_0]; exact ⟨h1, h3, h4⟩⟩
          rw [rd_if_f h4, rd_if_f this]
theorem rd_opd_s {m : Nat → Nat} {s : Nat} {E : Nat → Prop} {k q : Nat} : rd_opd m s E (k + 1) q ↔ (rd_opd m s E k q ∨ (rd_st m s E k ∧ k < q ∧ q < k + rd_len (m k))) := by
  constructor
  · rintro ⟨p, hp, h⟩
    by_cases e : p = k
    · subst e; exact Or.inr h
    · exact Or.inl ⟨p, by omega, h⟩
  · rintro (⟨p, hp, h⟩ | h)
    · exact ⟨p, by omega, h⟩
    · exact ⟨k, by omega, h⟩
theorem rd_tab_s {m : Nat → Nat} {s : Nat} {E : Nat → Prop} {k q : Nat} : rd_tab m s E (k + 1) q ↔ (rd_tab m s E k q ∨ (rd_st m s E k ∧ m (k + 2) ≤ q ∧ q < m (k + 2) + rd_tl m s k)) := by
  constructor
  · rintro ⟨p, hp, h⟩
    by_cases e : p = k
    · subst e; exact Or.inr h
    · exact Or.inl ⟨p, by omega, h⟩
  · rintro (⟨p, hp, h⟩ | h)
    · exact ⟨p, by omega, h⟩
    · exact ⟨k, by omega, h⟩
theorem rd_opd_0 {m : Nat → Nat} {s : Nat} {E : Nat → Prop} {q : Nat} : ¬ rd_opd m s E 0 q := by
  rintro ⟨p, hp, _⟩; omega
theorem rd_tab_0 {m : Nat → Nat} {s : Nat} {E : Nat → Prop} {q : Nat} : ¬ rd_tab m s E 0 q := by
  rintro ⟨p, hp, _⟩; omega
/-- the offset of the address slot, 0 where there is none -/
def rd_slo (op : Nat) : Nat := if op = 8 ∨ op = 11 then 1 else if op = 3 ∨ op = 6 ∨ op = 13 then 2 else if op = 9 ∨ op = 10 then 3 else 0
theorem rd_slo_len : ∀ op, op ≤ 14 → 0 < rd_slo op → rd_slo op < rd_len op := by decide
def rd_slot (m : Nat → Nat) (s : Nat) (E : Nat → Prop) (k q : Nat) : Prop := ∃ p, p < k ∧ rd_st m s E p ∧ 0 < rd_slo (m p) ∧ q = p + rd_slo (m p)
theorem rd_slot_s {m : Nat → Nat} {s : Nat} {E : Nat → Prop} {k q : Nat} : rd_slot m s E (k + 1) q ↔ (rd_slot m s E k q ∨ (rd_st m s E k ∧ 0 < rd_slo (m k) ∧ q = k + rd_slo (m k))) := by
  constructor
  · rintro ⟨p, hp, h⟩
    by_cases e : p = k
    · subst e; exact Or.inr h
    · exact Or.inl ⟨p, by omega, h⟩
  · rintro (⟨p, hp, h⟩ | h)
    · exact ⟨p, by omega, h⟩
    · exact ⟨k, by omega, h⟩
theorem rd_slot_0 {m : Nat → Nat} {s : Nat} {E : Nat → Prop} {q : Nat} : ¬ rd_slot m s E 0 q := by
  rintro ⟨p, hp, _⟩; omega
def rd_sym (m : Nat → Nat) (s : Nat) (E : Nat → Prop) (k q : Nat) : Prop := m q < s ∧ (rd_slot m s E k q ∨ rd_tab m s E k q)
def rd_cal (m : Nat → Nat) (s : Nat) (E : Nat → Prop) (k q : Nat) : Prop := ∃ p, p < k ∧ rd_st m s E p ∧ m p = 11 ∧ m (p + 1) = q
theorem rd_cal_s {m : Nat → Nat} {s : Nat} {E : Nat → Prop} {k q : Nat} : rd_cal m s E (k + 1) q ↔ (rd_cal m s E k q ∨ (rd_st m s E k ∧ m k = 11 ∧ m (k + 1) = q)) := by
  constructor
  · rintro ⟨p, hp, h⟩
    by_cases e : p = k
    · subst e; exact Or.inr h
    · exact Or.inl ⟨p, by omega, h⟩
  · rintro (⟨p, hp, h⟩ | h)
    · exact ⟨p, by omega, h⟩
    · exact ⟨k, by omega, h⟩
theorem rd_cal_0 {m : Nat → Nat} {s : Nat} {E : Nat → Prop} {q : Nat} : ¬ rd_cal m s E 0 q := by
  rintro ⟨p, hp, _⟩; omega
def rd_fs (m : Nat → Nat) (s : Nat) (E : Nat → Prop) (q : Nat) : Prop := E q ∨ rd_cal m s E s q
def rd_G (m : Nat → Nat) (s : Nat) (E : Nat → Prop) (q : Nat) : Prop := 0 < q ∧ rd_fs m s E q
noncomputable def rd_na (m : Nat → Nat) (s : Nat) (E : Nat → Prop) (pd q : Nat) : Nat := q + pd * rd_cnt (rd_G m s E) (q + 1)
noncomputable def rd_os (m : Nat → Nat) (s : Nat) (E : Nat → Prop) (pd : Nat) : Nat := s + pd * rd_cnt (rd_G m s E) s
theorem rd_G_le (m : Nat → Nat) (s : Nat) (E : Nat → Prop) : ∀ n, rd_cnt (rd_G m s E) (n + 1) ≤ n := by
  intro n
  induction n with
  | zero => rw [rd_cnt_f (fun h : rd_G m s E 0 => absurd h.1 (by omega))]; exact Nat.le_refl 0
  | succ n ih =>
    by_cases h : rd_G m s E (n + 1)
    · rw [rd_cnt_t h]; omega
    · rw [rd_cnt_f h]; omega
theorem rd_cnt_up (P : Nat → Prop) {a b : Nat} (h : a ≤ b) : rd_cnt P a ≤ rd_cnt P b := by
  induction h with
  | refl => exact Nat.le_refl _
  | step _ ih =>
    rename_i k _
    by_cases hp : P k
    · have := rd_cnt_t hp; simp only [Nat.succ_eq_add_one]; omega
    · have := rd_cnt_f hp; simp only [Nat.succ_eq_add_one]; omega
theorem rd_na_lt (m : Nat → Nat) (s : Nat) (E : Nat → Prop) (pd : Nat) {a b : Nat} (h : a < b) : rd_na m s E pd a < rd_na m s E pd b := by
  unfold rd_na
  have := Nat.mul_le_mul_left pd (rd_cnt_up (rd_G m s E) (show a + 1 ≤ b + 1 by omega))
  omega
theorem rd_na_inj {m : Nat → Nat} {s : Nat} {E : Nat → Prop} {pd a b : Nat} (h : rd_na m s E pd a = rd_na m s E pd b) : a = b := by
  rcases Nat.lt_trichotomy a b with hl | he | hg
  · have := rd_na_lt m s E pd hl; omega
  · exact he
  · have := rd_na_lt m s E pd hg; omega
theorem rd_na_os (m : Nat → Nat) {s : Nat} (E : Nat → Prop) (pd : Nat) {q : Nat} (h : q < s) : rd_na m s E pd q < rd_os m s E pd := by
  unfold rd_na rd_os
  have := Nat.mul_le_mul_left pd (rd_cnt_up (rd_G m s E) (show q + 1 ≤ s by omega))
  omega
theorem rd_os_le (m : Nat → Nat) {s : Nat} (E : Nat → Prop) {pd : Nat} (h0 : 0 < s) (hs : s ≤ 64) (hp : pd ≤ 3) : rd_os m s E pd ≤ 253 := by
  unfold rd_os
  obtain ⟨k, rfl⟩ : ∃ k, s = k + 1 := ⟨s - 1, by omega⟩
  have h1 := rd_G_le m (k + 1) E k
  have h2 := Nat.mul_le_mul hp h1
  omega
/-- the byte that q brings into the output -/
noncomputable def rd_val (m : Nat → Nat) (s : Nat) (E : Nat → Prop) (pd q : Nat) : Nat := rd_if (rd_sym m s E s q) (rd_na m s E pd (m q)) (m q)
noncomputable def rd_ob (m : Nat → Nat) (s : Nat) (E : Nat → Prop) (pd i : Nat) : Nat :=
  @dite Nat (∃ q, q < s ∧ rd_na m s E pd q = i) (Classical.propDecidable _) (fun h => rd_val m s E pd h.choose) (fun _ => 1)
theorem rd_ob_t {m : Nat → Nat} {s : Nat} {E : Nat → Prop} {pd q : Nat} (h : q < s) : rd_ob m s E pd (rd_na m s E pd q) = rd_val m s E pd q := by
  unfold rd_ob
  have hx : ∃ q', q' < s ∧ rd_na m s E pd q' = rd_na m s E pd q := ⟨q, h, rfl⟩
  rw [dif_pos hx]
  have := hx.choose_spec
  rw [rd_na_inj this.2]
theorem rd_ob_f {m : Nat → Nat} {s : Nat} {E : Nat → Prop} {pd i : Nat} (h : ∀ q, q < s → rd_na m s E pd q ≠ i) : rd_ob m s E pd i = 1 := by
  unfold rd_ob
  rw [dif_neg]
  rintro ⟨q, hq, e⟩
  exact h q hq e
theorem rd_val_lt {m : Nat → Nat} {s : Nat} {E : Nat → Prop} {pd q : Nat} (hm : m q < 256) (h0 : 0 < s) (hs : s ≤ 64) (hp : pd ≤ 3) : rd_val m s E pd q < 256 := by
  unfold rd_val
  by_cases h : rd_sym m s E s q
  · rw [rd_if_t h]
    have h1 := rd_na_os m E pd h.1
    have h2 := rd_os_le m E h0 hs hp
    omega
  · rw [rd_if_f h]; exact hm
theorem rd_ob_lt {m : Nat → Nat} {s : Nat} {E : Nat → Prop} {pd i : Nat} (hm : ∀ q, m q < 256) (h0 : 0 < s) (hs : s ≤ 64) (hp : pd ≤ 3) : rd_ob m s E pd i < 256 := by
  by_cases h : ∃ q, q < s ∧ rd_na m s E pd q = i
  · obtain ⟨q, hq, rfl⟩ := h
    rw [rd_ob_t hq]; exact rd_val_lt (hm q) h0 hs hp
  · rw [rd_ob_f (fun q hq e => h ⟨q, hq, e⟩)]; omega
end
section
/-! The machine, purely: pc, registers, stack, depth, values, their count -/
abbrev rd_MS : Type := Nat × (Nat → Int32) × (Nat → Int32) × Nat × (Nat → Int32) × Nat
def rd_v (x : Int32) : Nat := x.toNatClampNeg
def rd_By (a : Nat → Int32) : Prop := ∀ j, ∃ b, b < 256 ∧ a j = nI b
theorem rd_v_nI {b : Nat} (h : b < 2 ^ 31) : rd_v (nI b) = b := nI_clamp h
theorem rd_By_v {a : Nat → Int32} (h : rd_By a) (j : Nat) : rd_v (a j) < 256 ∧ a j = nI (rd_v (a j)) := by
  obtain ⟨b, hb, e⟩ := h j
  rw [e, rd_v_nI (by omega)]
  exact ⟨hb, rfl⟩
theorem rd_By_u {a : Nat → Int32} (h : rd_By a) (k : Nat) {b : Nat} (hb : b < 256) : rd_By (upd a k (nI b)) := by
  intro j
  unfold upd
  by_cases e : j = k
  · rw [if_pos e]; exact ⟨b, hb, rfl⟩
  · rw [if_neg e]; exact h j
theorem rd_By_0 : rd_By (fun _ => 0) := fun _ => ⟨0, by omega, rfl⟩
def rd_flt (m : Nat → Nat) (n op p : Nat) (rg : Nat → Int32) (d c : Nat) : Prop :=
  (op = 6 ∧ n ≤ (m (p + 2) + rd_v (rg (m (p + 3)))) % 256) ∨ (op = 13 ∧ n ≤ (m (p + 2) + rd_v (rg (m (p + 1)))) % 256) ∨ (op = 7 ∧ 16 ≤ c) ∨ (op = 11 ∧ 8 ≤ d) ∨ (op = 12 ∧ d = 0)
noncomputable def rd_nx (m : Nat → Nat) (op p : Nat) (rg sk : Nat → Int32) (d : Nat) (vl : Nat → Int32) (c : Nat) : rd_MS :=
  match op with
  | 1 => (p + 1, rg, sk, d, vl, c)
  | 2 => (p + 3, upd rg (m (p + 1)) (nI (m (p + 2))), sk, d, vl, c)
  | 3 => (p + 3, upd rg (m (p + 1)) (nI (m (p + 2))), sk, d, vl, c)
  | 4 => (p + 3, upd rg (m (p + 1)) (nI ((rd_v (rg (m (p + 1))) + rd_v (rg (m (p + 2)))) % 256)), sk, d, vl, c)
  | 5 => (p + 3, upd rg (m (p + 1)) (nI ((m (p + 2) + rd_v (rg (m (p + 1)))) % 256)), sk, d, vl, c)
  | 6 => (p + 4, upd rg (m (p + 1)) (nI (m ((m (p + 2) + rd_v (rg (m (p + 3)))) % 256))), sk, d, vl, c)
  | 7 => (p + 2, rg, sk, d, upd vl c (rg (m (p + 1))), c + 1)
  | 8 => (m (p + 1), rg, sk, d, vl, c)
  | 9 => (rd_if (rd_v (rg (m (p + 1))) = m (p + 2)) (m (p + 3)) (p + 4), rg, sk, d, vl, c)
  | 10 => (rd_if (m (p + 2) ≤ rd_v (rg (m (p + 1)))) (m (p + 3)) (p + 4), rg, sk, d, vl, c)
  | 11 => (m (p + 1), rg, upd sk d (nI (p + 2)), d + 1, vl, c)
  | 12 => (rd_v (sk (d - 1)), rg, sk, d - 1, vl, c)
  | 13 => (m ((m (p + 2) + rd_v (rg (m (p + 1)))) % 256), rg, sk, d, vl, c)
  | 14 => (rd_v (rg (m (p + 1))), rg, sk, d, vl, c)
  | _ => (p, rg, sk, d, vl, c)
noncomputable def rd_nxt (m : Nat → Nat) (u : rd_MS) : rd_MS := rd_nx m (m u.1) u.1 u.2.1 u.2.2.1 u.2.2.2.1 u.2.2.2.2.1 u.2.2.2.2.2
def rd_fl (m : Nat → Nat) (n : Nat) (u : rd_MS) : Prop := rd_flt m n (m u.1) u.1 u.2.1 u.2.2.2.1 u.2.2.2.2.2
noncomputable def rd_exec (m : Nat → Nat) (n : Nat) : Nat → Nat → rd_MS → Int32 × Nat × rd_MS
  | 0 => fun st u => (3, st, u)
  | k + 1 => fun st u => rd_if (¬ rd_ok m n u.1 ∨ rd_fl m n u) (2, st, u) (rd_if (m u.1 = 0) (1, st + 1, u) (rd_exec m n k (st + 1) (rd_nxt m u)))
theorem rd_exec_b {m : Nat → Nat} {n : Nat} (k st : Nat) {u : rd_MS} (h : ¬ rd_ok m n u.1 ∨ rd_fl m n u) : rd_exec m n (k + 1) st u = (2, st, u) := rd_if_t h
theorem rd_exec_h {m : Nat → Nat} {n : Nat} (k st : Nat) {u : rd_MS} (h : rd_ok m n u.1) (h2 : ¬ rd_fl m n u) (h3 : m u.1 = 0) : rd_exec m n (k + 1) st u = (1, st + 1, u) :=
  (rd_if_f (fun z => z.elim (fun a => a h) h2)).trans (rd_if_t h3)
theorem rd_exec_n {m : Nat → Nat} {n : Nat} (k st : Nat) {u : rd_MS} (h : rd_ok m n u.1) (h2 : ¬ rd_fl m n u) (h3 : ¬ m u.1 = 0) : rd_exec m n (k + 1) st u = rd_exec m n k (st + 1) (rd_nxt m u) :=
  (rd_if_f (fun z => z.elim (fun a => a h) h2)).trans (rd_if_f h3)
/-- what the machine keeps -/
def rd_MI (u : rd_MS) : Prop := u.1 < 256 ∧ rd_By u.2.1 ∧ rd_By u.2.2.1 ∧ u.2.2.2.1 ≤ 8 ∧ u.2.2.2.2.2 ≤ 16
theorem rd_MI_nxt {m : Nat → Nat} {n : Nat} (hn : n ≤ 253) (hm : ∀ j, m j < 256) {u : rd_MS} (h : rd_MI u) (ho : rd_ok m n u.1) (hf : ¬ rd_fl m n u) (h0 : ¬ m u.1 = 0) : rd_MI (rd_nxt m u) := by
  obtain ⟨p, rg, sk, d, vl, c⟩ := u
  obtain ⟨hp, hr, hs, hd, hc⟩ := h
  obtain ⟨o1, o2, o3, -⟩ := ho
  dsimp only at hp hr hs hd hc o1 o2 o3 hf h0
  unfold rd_nxt
  unfold rd_fl at hf
  dsimp only at hf ⊢
  have hop : m p = 1 ∨ m p = 2 ∨ m p = 3 ∨ m p = 4 ∨ m p = 5 ∨ m p = 6 ∨ m p = 7 ∨ m p = 8 ∨ m p = 9 ∨ m p = 10 ∨ m p = 11 ∨ m p = 12 ∨ m p = 13 ∨ m p = 14 := by omega
  rcases hop with e | e | e | e | e | e | e | e | e | e | e | e | e | e <;> rw [e] at o3 hf ⊢
  · have : rd_len 1 = 1 := rfl
    exact ⟨by show p + 1 < 256; omega, hr, hs, hd, hc⟩
  · have : rd_len 2 = 3 := rfl
    exact ⟨by show p + 3 < 256; omega, rd_By_u hr _ (hm _), hs, hd, hc⟩
  · have : rd_len 3 = 3 := rfl
    exact ⟨by show p + 3 < 256; omega, rd_By_u hr _ (hm _), hs, hd, hc⟩
  · have : rd_len 4 = 3 := rfl
    exact ⟨by show p + 3 < 256; omega, rd_By_u hr _ (Nat.mod_lt _ (by omega)), hs, hd, hc⟩
  · have : rd_len 5 = 3 := rfl
    exact ⟨by show p + 3 < 256; omega, rd_By_u hr _ (Nat.mod_lt _ (by omega)), hs, hd, hc⟩
  · have : rd_len 6 = 4 := rfl
    exact ⟨by show p + 4 < 256; omega, rd_By_u hr _ (hm _), hs, hd, hc⟩
  · have : rd_len 7 = 2 := rfl
    have hc' : ¬ 16 ≤ c := fun z => hf (Or.inr (Or.inr (Or.inl ⟨rfl, z⟩)))
    exact ⟨by show p + 2 < 256; omega, hr, hs, hd, by show c + 1 ≤ 16; omega⟩
  · exact ⟨hm _, hr, hs, hd, hc⟩
  · have : rd_len 9 = 4 := rfl
    refine ⟨?_, hr, hs, hd, hc⟩
    show rd_if _ (m (p + 3)) (p + 4) < 256
    by_cases hh : rd_v (rg (m (p + 1))) = m (p + 2)
    · rw [rd_if_t hh]; exact hm _
    · rw [rd_if_f hh]; omega
  · have : rd_len 10 = 4 := rfl
    refine ⟨?_, hr, hs, hd, hc⟩
    show rd_if _ (m (p + 3)) (p + 4) < 256
    by_cases hh : m (p + 2) ≤ rd_v (rg (m (p + 1)))
    · rw [rd_if_t hh]; exact hm _
    · rw [rd_if_f hh]; omega
  · have : rd_len 11 = 2 := rfl
    have hd' : ¬ 8 ≤ d := fun z => hf (Or.inr (Or.inr (Or.inr (Or.inl ⟨rfl, z⟩))))
    exact ⟨hm _, hr, rd_By_u hs _ (by omega), by show d + 1 ≤ 8; omega, hc⟩
  · exact ⟨(rd_By_v hs _).1, hr, hs, by show d - 1 ≤ 8; omega, hc⟩
  · exact ⟨hm _, hr, hs, hd, hc⟩
  · exact ⟨(rd_By_v hr _).1, hr, hs, hd, hc⟩
theorem rd_MI_exec {m : Nat → Nat} {n : Nat} (hn : n ≤ 253) (hm : ∀ j, m j < 256) : ∀ (k st : Nat) (u : rd_MS), rd_MI u → rd_MI (rd_exec m n k st u).2.2 ∧ (rd_exec m n k st u).2.1 ≤ st + k ∧ ((rd_exec m n k st u).1 = 1 ∨ (rd_exec m n k st u).1 = 2 ∨ (rd_exec m n k st u).1 = 3) := by
  intro k
  induction k with
  | zero => intro st u h; exact ⟨h, Nat.le_refl _, Or.inr (Or.inr rfl)⟩
  | succ k ih =>
    intro st u h
    by_cases hb : ¬ rd_ok m n u.1 ∨ rd_fl m n u
    · rw [rd_exec_b k st hb]; exact ⟨h, Nat.le_add_right _ _, Or.inr (Or.inl rfl)⟩
    · have h1 : rd_ok m n u.1 := Classical.byContradiction fun z => hb (Or.inl z)
      have h2 : ¬ rd_fl m n u := fun z => hb (Or.inr z)
      by_cases h3 : m u.1 = 0
      · rw [rd_exec_h k st h1 h2 h3]; exact ⟨h, by show st + 1 ≤ st + (k + 1); omega, Or.inl rfl⟩
      · rw [rd_exec_n k st h1 h2 h3]
        obtain ⟨a, b, c⟩ := ih (st + 1) _ (rd_MI_nxt hn hm h h1 h2 h3)
        exact ⟨a, by omega, c⟩
end
section
/-! X: the small methods -/
section
variable {f_capacity f_size f_entryCount f_analysed f_outputSize f_status f_steps f_pc f_depth f_valueCount : Int32} {a_image a_entry a_reached a_classes a_symbolic a_functionStart a_newAddress a_output a_registers a_stack a_values : Nat → Int32} {im m : Nat → Nat} {s : Nat} {post : Int32 → Prop}
theorem rd_pt {P : Prop} (hp : post (rd_b P)) (h : P) : post 1 := by rw [rd_b_t h] at hp; exact hp
theorem rd_pf {P : Prop} (hp : post (rd_b P)) (h : ¬ P) : post 0 := by rw [rd_b_f h] at hp; exact hp
theorem rd_brb {P A B : Prop} (f : ¬ P → A) (g : P → B) : (rd_b P = 0 → A) ∧ (¬ rd_b P = 0 → B) :=
  ⟨fun h => f (rd_b0.mp h), fun h => g (Classical.byContradiction fun z => h (rd_b_f z))⟩
theorem rd_rd {a : Nat → Int32} {n : Nat} (hI : ∀ j, j < n → a j = nI (m j)) {x : Int32} (p : Nat) (h : p < n) (hn : n ≤ 256) (hx : x = nI p := by rfl) : a x.toNatClampNeg = nI (m p) := by
  subst hx
  rw [nI_clamp (by omega)]
  exact hI p h
theorem xl_inI_t {q : Nat} (hq : q < s) (hs : s ≤ 64) (hp : post 1) : wpX_inImage post (f_capacity, nI s, f_entryCount, f_analysed, f_outputSize, f_status, f_steps, f_pc, f_depth, f_valueCount, a_image, a_entry, a_reached, a_classes, a_symbolic, a_functionStart, a_newAddress, a_output, a_registers, a_stack, a_values) (nI q) :=
  br_f (rd_lt0 (by omega)) (pk_le s q (fun h => absurd h (by omega)) (fun _ => hp))
theorem xl_inI_f {v : Int32} (h : v < 0 ∨ nI s ≤ v) (hp : post 0) : wpX_inImage post (f_capacity, nI s, f_entryCount, f_analysed, f_outputSize, f_status, f_steps, f_pc, f_depth, f_valueCount, a_image, a_entry, a_reached, a_classes, a_symbolic, a_functionStart, a_newAddress, a_output, a_registers, a_stack, a_values) v := by
  by_cases h0 : v < 0
  · exact br_t h0 hp
  · exact br_f h0 (br_t (h.resolve_left h0) hp)
theorem rd_op15 {op : Nat} (h : op ≤ 14) : op = 0 ∨ op = 1 ∨ op = 2 ∨ op = 3 ∨ op = 4 ∨ op = 5 ∨ op = 6 ∨ op = 7 ∨ op = 8 ∨ op = 9 ∨ op = 10 ∨ op = 11 ∨ op = 12 ∨ op = 13 ∨ op = 14 := by omega
theorem xl_len {op : Nat} (h : op ≤ 14) (hp : post (nI (rd_len op))) : wpX_lengthOf post (f_capacity, nI s, f_entryCount, f_analysed, f_outputSize, f_status, f_steps, f_pc, f_depth, f_valueCount, a_image, a_entry, a_reached, a_classes, a_symbolic, a_functionStart, a_newAddress, a_output, a_registers, a_stack, a_values) (nI op) := by
  rcases rd_op15 h with e | e | e | e | e | e | e | e | e | e | e | e | e | e | e <;> subst e <;>
    (refine br_f (by decide) (br_f (by decide) ?_)
     repeat (first | exact br_t (by decide) hp | refine br_f (by decide) ?_))
theorem rd_r1_iff {op : Nat} (h : op ≤ 14) : rd_r1 op ↔ (¬ rd_len op ≤ 1 ∧ op ≠ 8 ∧ op ≠ 11) := by
  unfold rd_r1 rd_len
  split
  · omega
  · split
    · omega
    · split <;> omega
theorem xl_r1 {op : Nat} (h : op ≤ 14) (hp : post (rd_b (rd_r1 op))) : wpX_firstOperandIsRegister post (f_capacity, nI s, f_entryCount, f_analysed, f_outputSize, f_status, f_steps, f_pc, f_depth, f_valueCount, a_image, a_entry, a_reached, a_classes, a_symbolic, a_functionStart, a_newAddress, a_output, a_registers, a_stack, a_values) (nI op) := by
  unfold wpX_firstOperandIsRegister
  refine xl_len h ?_
  have hl := rd_len_r op
  have hi := rd_r1_iff h
  exact pk_le (rd_len op) 1 (fun h1 => rd_pf hp fun z => (hi.mp z).1 h1) (fun h1 => pk_eq op 8 (fun e => rd_pf hp fun z => (hi.mp z).2.1 e) (fun e8 => pk_eq op 11 (fun e => rd_pf hp fun z => (hi.mp z).2.2 e) (fun e11 => rd_pt hp (hi.mpr ⟨by omega, e8, e11⟩))))
theorem xl_sr {op : Nat} (h : op ≤ 14) (h4 : op = 4 → post 2) (h6 : op = 6 → post 3) (h0 : op ≠ 4 → op ≠ 6 → post 0) : wpX_secondRegisterOffset post (f_capacity, nI s, f_entryCount, f_analysed, f_outputSize, f_status, f_steps, f_pc, f_depth, f_valueCount, a_image, a_entry, a_reached, a_classes, a_symbolic, a_functionStart, a_newAddress, a_output, a_registers, a_stack, a_values) (nI op) :=
  pk_eq op 4 h4 (fun a => pk_eq op 6 h6 (fun b => h0 a b))
theorem xl_dec_image {n p : Nat} (hn : n ≤ 64) (hI : ∀ j, j < n → a_image j = nI (m j)) (hb : ∀ j, m j < 256) (hpp : p < 2 ^ 30) (hp : post (rd_b (rd_ok m n p))) : wpX_decodes__image post (f_capacity, nI s, f_entryCount, f_analysed, f_outputSize, f_status, f_steps, f_pc, f_depth, f_valueCount, a_image, a_entry, a_reached, a_classes, a_symbolic, a_functionStart, a_newAddress, a_output, a_registers, a_stack, a_values) (nI n) (nI p) := by
  have K : p < n → m p ≤ 14 → p + rd_len (m p) ≤ n → (rd_r1 (m p) → m (p + 1) ≤ 3) → wX_decodes__image_57 post (nI p) (nI (m p)) f_capacity (nI s) f_entryCount f_analysed f_outputSize f_status f_steps f_pc f_depth f_valueCount a_image a_entry a_reached a_classes a_symbolic a_functionStart a_newAddress a_output a_registers a_stack a_values := by
    intro h1 h2 h3 h4
    unfold wX_decodes__image_57
    refine xl_sr h2 (fun e => ?_) (fun e => ?_) (fun e4 e6 => ?_)
    · have el : rd_len (m p) = 3 := by rw [e]; rfl
      have hr := rd_rd hI (p + 2) (by omega) (by omega) (x := nI p + 2) (nI_add p 2)
      have hbb := hb (p + 2)
      refine br_f (by decide) ⟨pk_in (p + 2) 64 (by omega) (nI_add p 2), pk_le 4 (m (p + 2)) (fun z => rd_pf hp fun y => ?_) (fun z => rd_pt hp ?_) rfl hr⟩
      · have := y.2.2.2.2.1 e; omega
      · exact ⟨h1, h2, h3, h4, fun _ => by omega, fun e6 => by omega⟩
    · have el : rd_len (m p) = 4 := by rw [e]; rfl
      have hr := rd_rd hI (p + 3) (by omega) (by omega) (x := nI p + 3) (nI_add p 3)
      have hbb := hb (p + 3)
      refine br_f (by decide) ⟨pk_in (p + 3) 64 (by omega) (nI_add p 3), pk_le 4 (m (p + 3)) (fun z => rd_pf hp fun y => ?_) (fun z => rd_pt hp ?_) rfl hr⟩
      · have := y.2.2.2.2.2 e; omega
      · exact ⟨h1, h2, h3, h4, fun e4 => by omega, fun _ => by omega⟩
    · exact br_t rfl (rd_pt hp ⟨h1, h2, h3, h4, fun z => absurd z e4, fun z => absurd z e6⟩)
  unfold wpX_decodes__image
  refine br_f (rd_lt0 (by omega)) (pk_lt p n (fun h => ⟨pk_in p 64 (by omega), ?_⟩) (fun h => rd_pf hp fun z => absurd z.1 (by omega)))
  have hbp := hb p
  have hl := rd_len_r (m p)
  refine nm_r (rd_rd hI p h (by omega)) ?_
  refine pk_lt 14 (m p) (fun z => rd_pf hp fun y => absurd y.2.1 (by omega)) (fun h14 => ?_)
  refine xl_len h14 ?_
  refine pk_le (p + rd_len (m p)) n (fun hle => ?_) (fun z => rd_pf hp fun y => absurd y.2.2.1 (by omega)) (nI_add _ _) rfl
  refine xl_r1 h14 ?_
  refine rd_brb (fun hr => K h h14 hle (fun z => absurd z hr)) (fun hr => ?_)
  have h2 : 2 ≤ rd_len (m p) := by have := ((rd_r1_iff h14).mp hr).1; omega
  have hr1 := rd_rd hI (p + 1) (by omega) (by omega) (x := nI p + 1) (nI_1 p)
  have hb1 := hb (p + 1)
  exact ⟨pk_in (p + 1) 64 (by omega) (nI_1 p), pk_lt (m (p + 1)) 4 (fun z => K h h14 hle (fun _ => by omega)) (fun z => rd_pf hp fun y => absurd (y.2.2.2.1 hr) (by omega)) hr1 rfl⟩
theorem xl_dec_output {n p : Nat} (hn : n ≤ 253) (hI : ∀ j, j < n → a_output j = nI (m j)) (hb : ∀ j, m j < 256) (hpp : p < 2 ^ 30) (hp : post (rd_b (rd_ok m n p))) : wpX_decodes__output post (f_capacity, nI s, f_entryCount, f_analysed, f_outputSize, f_status, f_steps, f_pc, f_depth, f_valueCount, a_image, a_entry, a_reached, a_classes, a_symbolic, a_functionStart, a_newAddress, a_output, a_registers, a_stack, a_values) (nI n) (nI p) := by
  have K : p < n → m p ≤ 14 → p + rd_len (m p) ≤ n → (rd_r1 (m p) → m (p + 1) ≤ 3) → wX_decodes__output_57 post (nI p) (nI (m p)) f_capacity (nI s) f_entryCount f_analysed f_outputSize f_status f_steps f_pc f_depth f_valueCount a_image a_entry a_reached a_classes a_symbolic a_functionStart a_newAddress a_output a_registers a_stack a_values := by
    intro h1 h2 h3 h4
    unfold wX_decodes__output_57
    refine xl_sr h2 (fun e => ?_) (fun e => ?_) (fun e4 e6 => ?_)
    · have el : rd_len (m p) = 3 := by rw [e]; rfl
      have hr := rd_rd hI (p + 2) (by omega) (by omega) (x := nI p + 2) (nI_add p 2)
      have hbb := hb (p + 2)
      refine br_f (by decide) ⟨pk_in (p + 2) 253 (by omega) (nI_add p 2), pk_le 4 (m (p + 2)) (fun z => rd_pf hp fun y => ?_) (fun z => rd_pt hp ?_) rfl hr⟩
      · have := y.2.2.2.2.1 e; omega
      · exact ⟨h1, h2, h3, h4, fun _ => by omega, fun e6 => by omega⟩
    · have el : rd_len (m p) = 4 := by rw [e]; rfl
      have hr := rd_rd hI (p + 3) (by omega) (by omega) (x := nI p + 3) (nI_add p 3)
      have hbb := hb (p + 3)
      refine br_f (by decide) ⟨pk_in (p + 3) 253 (by omega) (nI_add p 3), pk_le 4 (m (p + 3)) (fun z => rd_pf hp fun y => ?_) (fun z => rd_pt hp ?_) rfl hr⟩
      · have := y.2.2.2.2.2 e; omega
      · exact ⟨h1, h2, h3, h4, fun e4 => by omega, fun _ => by omega⟩
    · exact br_t rfl (rd_pt hp ⟨h1, h2, h3, h4, fun z => absurd z e4, fun z => absurd z e6⟩)
  unfold wpX_decodes__output
  refine br_f (rd_lt0 (by omega)) (pk_lt p n (fun h => ⟨pk_in p 253 (by omega), ?_⟩) (fun h => rd_pf hp fun z => absurd z.1 (by omega)))
  have hbp := hb p
  have hl := rd_len_r (m p)
  refine nm_r (rd_rd hI p h (by omega)) ?_
  refine pk_lt 14 (m p) (fun z => rd_pf hp fun y => absurd y.2.1 (by omega)) (fun h14 => ?_)
  refine xl_len h14 ?_
  refine pk_le (p + rd_len (m p)) n (fun hle => ?_) (fun z => rd_pf hp fun y => absurd y.2.2.1 (by omega)) (nI_add _ _) rfl
  refine xl_r1 h14 ?_
  refine rd_brb (fun hr => K h h14 hle (fun z => absurd z hr)) (fun hr => ?_)
  have h2 : 2 ≤ rd_len (m p) := by have := ((rd_r1_iff h14).mp hr).1; omega
  have hr1 := rd_rd hI (p + 1) (by omega) (by omega) (x := nI p + 1) (nI_1 p)
  have hb1 := hb (p + 1)
  exact ⟨pk_in (p + 1) 253 (by omega) (nI_1 p), pk_lt (m (p + 1)) 4 (fun z => K h h14 hle (fun _ => by omega)) (fun z => rd_pf hp fun y => absurd (y.2.2.2.1 hr) (by omega)) hr1 rfl⟩
theorem rd_tl_0 {p : Nat} (hp : post (nI (rd_tl im s p))) (h : ¬ rd_tb im s p) : post 0 := by
  have e : rd_tl im s p = 0 := rd_if_f h
  rw [e] at hp; exact hp
theorem xl_tl {p : Nat} (hs : s ≤ 64) (hI : ∀ j, j < 64 → a_image j = nI (im j)) (hb : ∀ j, im j < 256) (ho : rd_ok im s p) (hp : post (nI (rd_tl im s p))) : wpX_tableLength post (f_capacity, nI s, f_entryCount, f_analysed, f_outputSize, f_status, f_steps, f_pc, f_depth, f_valueCount, a_image, a_entry, a_reached, a_classes, a_symbolic, a_functionStart, a_newAddress, a_output, a_registers, a_stack, a_values) (nI p) := by
  have hps := ho.1
  have hle := ho.2.2.1
  have hbp := hb p
  refine ⟨pk_in p 64 (by omega), pk_eq (im p) 13 (fun e => ?_) (fun e => rd_tl_0 hp fun z => e z.1) (rd_rd hI p (by omega) (by omega)) rfl⟩
  have el : rd_len (im p) = 3 := by rw [e]; rfl
  refine pk_le 4 p (fun h4 => ?_) (fun h4 => rd_tl_0 hp fun z => absurd z.2.1 (by omega))
  have s4 : nI p - 4 = nI (p - 4) := pk_sub h4
  have s3 : nI p - 3 = nI (p - 3) := pk_sub (b := 3) (by omega)
  have s2 : nI p - 2 = nI (p - 2) := pk_sub (b := 2) (by omega)
  have b4 := hb (p - 4)
  have b3 := hb (p - 3)
  have b2 := hb (p - 2)
  have c1 := hb (p + 1)
  have c2 := hb (p + 2)
  refine ⟨pk_in (p - 4) 64 (by omega) s4, pk_eq (im (p - 4)) 10 (fun e10 => ?_) (fun e10 => rd_tl_0 hp fun z => e10 z.2.2.1) (rd_rd hI (p - 4) (by omega) (by omega) s4) rfl⟩
  refine ⟨pk_in (p - 3) 64 (by omega) s3, pk_in (p + 1) 64 (by omega) (nI_1 p), pk_eq (im (p - 3)) (im (p + 1)) (fun e3 => ?_) (fun e3 => rd_tl_0 hp fun z => e3 z.2.2.2.1) (rd_rd hI (p - 3) (by omega) (by omega) s3) (rd_rd hI (p + 1) (by omega) (by omega) (nI_1 p))⟩
  refine ⟨pk_in (p - 2) 64 (by omega) s2, nm_r (rd_rd hI (p - 2) (by omega) (by omega) s2) ?_⟩
  refine pk_lt 16 (im (p - 2)) (fun h16 => br_t rfl (rd_tl_0 hp fun z => absurd z.2.2.2.2.1 (by omega))) (fun h16 => ?_)
  refine ⟨pk_in (p + 2) 64 (by omega) (nI_add p 2), pk_lt s (im (p + 2) + im (p - 2)) (fun hz => br_t rfl (rd_tl_0 hp fun z => absurd z.2.2.2.2.2 (by omega))) (fun hz => br_f (by decide) ?_) rfl ?_⟩
  · have et : rd_tl im s p = im (p - 2) := rd_if_t ⟨e, h4, e10, e3, h16, hz⟩
    rw [et] at hp; exact hp
  · rw [rd_rd hI (p + 2) (by omega) (by omega) (x := nI p + 2) (nI_add p 2), nI_add]
theorem rd_slo_r (op : Nat) : rd_slo op ≤ 3 := by
  unfold rd_slo
  split
  · omega
  · split
    · omega
    · split <;> omega
theorem xl_slo {op : Nat} (h : op ≤ 14) (hp : post (nI (rd_slo op))) : wpX_slotOffset post (f_capacity, nI s, f_entryCount, f_analysed, f_outputSize, f_status, f_steps, f_pc, f_depth, f_valueCount, a_image, a_entry, a_reached, a_classes, a_symbolic, a_functionStart, a_newAddress, a_output, a_registers, a_stack, a_values) (nI op) := by
  rcases rd_op15 h with e | e | e | e | e | e | e | e | e | e | e | e | e | e | e <;> subst e <;>
    repeat (first | exact br_t (by decide) hp | refine br_f (by decide) ?_)
end
end
section
/-! X: the reached set -/
section
variable {f_capacity f_size f_entryCount f_analysed f_outputSize f_status f_steps f_pc f_depth f_valueCount : Int32} {a_image a_entry a_reached a_classes a_symbolic a_functionStart a_newAddress a_output a_registers a_stack a_values : Nat → Int32} {im : Nat → Nat} {s : Nat} {E : Nat → Prop} {post : SX → Prop}
def rd_nz (a : Nat → Int32) (q : Nat) : Prop := ¬ a q = 0
theorem rd_nz_u {a : Nat → Int32} {k q : Nat} : rd_nz (upd a k 1) q ↔ (rd_nz a q ∨ q = k) := by
  unfold rd_nz
  by_cases e : q = k
  · subst e
    rw [pk_us]
    exact ⟨fun _ => Or.inr rfl, fun _ => by decide⟩
  · rw [pk_un e]
    exact ⟨Or.inl, fun h => h.resolve_right e⟩
theorem xl_reach {a : Nat} {x : Int32} (hx : x = nI a) (hs : s ≤ 64) (ha : a < 2 ^ 31) (hp : ∀ R, (∀ q, q < s → (rd_nz R q ↔ (rd_nz a_reached q ∨ q = a))) → post (f_capacity, nI s, f_entryCount, f_analysed, f_outputSize, f_status, f_steps, f_pc, f_depth, f_valueCount, a_image, a_entry, R, a_classes, a_symbolic, a_functionStart, a_newAddress, a_output, a_registers, a_stack, a_values)) : wpX_reach post (f_capacity, nI s, f_entryCount, f_analysed, f_outputSize, f_status, f_steps, f_pc, f_depth, f_valueCount, a_image, a_entry, a_reached, a_classes, a_symbolic, a_functionStart, a_newAddress, a_output, a_registers, a_stack, a_values) x := by
  subst hx
  refine pk_le s a (fun h => hp _ fun q hq => ⟨Or.inl, fun z => z.resolve_right (by omega)⟩) (fun h => ⟨pk_in a 64 (by omega), nm_r (e' := upd a_reached a 1) ?_ (hp _ fun q _ => rd_nz_u)⟩)
  rw [rd_nb1, nI_clamp ha]
theorem xl_reachTable {p : Nat} (hs : s ≤ 64) (hI : ∀ j, j < 64 → a_image j = nI (im j)) (hb : ∀ j, im j < 256) (ho : rd_ok im s p) (h13 : im p = 13) (hp : ∀ R, (∀ q, q < s → (rd_nz R q ↔ (rd_nz a_reached q ∨ ∃ j, j < rd_tl im s p ∧ q = im (im (p + 2) + j)))) → post (f_capacity, nI s, f_entryCount, f_analysed, f_outputSize, f_status, f_steps, f_pc, f_depth, f_valueCount, a_image, a_entry, R, a_classes, a_symbolic, a_functionStart, a_newAddress, a_output, a_registers, a_stack, a_values)) : wpX_reachTable post (f_capacity, nI s, f_entryCount, f_analysed, f_outputSize, f_status, f_steps, f_pc, f_depth, f_valueCount, a_image, a_entry, a_reached, a_classes, a_symbolic, a_functionStart, a_newAddress, a_output, a_registers, a_stack, a_values) (nI p) := by
  have hle := ho.2.2.1
  have el : rd_len (im p) = 3 := by rw [h13]; rfl
  have c2 := hb (p + 2)
  have ht : rd_tl im s p ≤ 16 ∧ (0 < rd_tl im s p → im (p + 2) + rd_tl im s p ≤ s) := by
    by_cases h0 : 0 < rd_tl im s p
    · have := rd_tl_le h0; omega
    · omega
  refine ⟨pk_in (p + 2) 64 (by omega) (nI_add p 2), nm_r (rd_rd hI (p + 2) (by omega) (by omega) (nI_add p 2)) ?_⟩
  refine xl_tl hs hI hb ho ?_
  refine nm_r (nI_add _ _) ?_
  refine pk_loop (fun n i R => wX_reachTable_20 post (nI (im (p + 2) + rd_tl im s p)) n (nI i) f_capacity (nI s) f_entryCount f_analysed f_outputSize f_status f_steps f_pc f_depth f_valueCount a_image a_entry R a_classes a_symbolic a_functionStart a_newAddress a_output a_registers a_stack a_values)
    (fun i R => im (p + 2) ≤ i ∧ ∀ q, q < s → (rd_nz R q ↔ (rd_nz a_reached q ∨ ∃ j, im (p + 2) + j < i ∧ q = im (im (p + 2) + j)))) (im (p + 2) + rd_tl im s p) (im (p + 2)) a_reached (by omega) ?_ ?_ ?_
  · exact ⟨Nat.le_refl _, fun q _ => ⟨Or.inl, fun z => z.elim id fun ⟨j, hj, _⟩ => absurd hj (by omega)⟩⟩
  · rintro n R ⟨-, hR⟩
    refine pk_le (im (p + 2) + rd_tl im s p) (im (p + 2) + rd_tl im s p) (fun _ => hp R fun q hq => ?_) (fun z => absurd z (by omega))
    rw [hR q hq]
    exact ⟨fun z => z.imp id fun ⟨j, hj, e⟩ => ⟨j, by omega, e⟩, fun z => z.imp id fun ⟨j, hj, e⟩ => ⟨j, by omega, e⟩⟩
  · rintro n i R hi ⟨hlow, hR⟩ hn
    have hi64 : i < 64 := by
      have := ht.2 (by omega)
      omega
    have ci := hb i
    refine pk_le (im (p + 2) + rd_tl im s p) i (fun z => absurd z (by omega)) (fun _ => ⟨pk_in i 64 hi64, ?_⟩)
    refine xl_reach (rd_rd hI i hi64 (by omega)) hs (by omega) (fun R' hR' => nm_r (nI_1 i) (hn R' ⟨by omega, fun q hq => ?_⟩))
    rw [hR' q hq, hR q hq]
    constructor
    · rintro ((z | ⟨j, hj, e⟩) | z)
      · exact Or.inl z
      · exact Or.inr ⟨j, by omega, e⟩
      · exact Or.inr ⟨i - im (p + 2), by omega, by rw [z, show im (p + 2) + (i - im (p + 2)) = i by omega]⟩
    · rintro (z | ⟨j, hj, e⟩)
      · exact Or.inl (Or.inl z)
      · by_cases ej : im (p + 2) + j = i
        · exact Or.inr (by rw [e, ej])
        · exact Or.inl (Or.inr ⟨j, by omega, e⟩)
theorem rd_sc_n {m : Nat → Nat} {p q : Nat} (e : m p = 0 ∨ m p = 12 ∨ m p = 14) : ¬ rd_sc m s p q := by
  unfold rd_sc rd_seq
  rcases e with e | e | e <;> rw [e] <;> simp
theorem rd_sc_8 {m : Nat → Nat} {p q : Nat} (e : m p = 8) : rd_sc m s p q ↔ q = m (p + 1) := by
  unfold rd_sc rd_seq
  rw [e]; simp
theorem rd_sc_11 {m : Nat → Nat} {p q : Nat} (e : m p = 11) : rd_sc m s p q ↔ (q = m (p + 1) ∨ q = p + 2) := by
  unfold rd_sc rd_seq
  rw [e]; simp
theorem rd_sc_9 {m : Nat → Nat} {p q : Nat} (e : m p = 9 ∨ m p = 10) : rd_sc m s p q ↔ (q = m (p + 3) ∨ q = p + 4) := by
  unfold rd_sc rd_seq
  rcases e with e | e <;> rw [e] <;> simp
theorem rd_sc_13 {m : Nat → Nat} {p q : Nat} (e : m p = 13) : rd_sc m s p q ↔ ∃ j, j < rd_tl m s p ∧ q = m (m (p + 2) + j) := by
  unfold rd_sc rd_seq
  rw [e]; simp
theorem rd_sc_q {m : Nat → Nat} {p q : Nat} (e : m p = 1 ∨ m p = 2 ∨ m p = 3 ∨ m p = 4 ∨ m p = 5 ∨ m p = 6 ∨ m p = 7) : rd_sc m s p q ↔ q = p + rd_len (m p) := by
  unfold rd_sc rd_seq
  rcases e with e | e | e | e | e | e | e <;> rw [e] <;> simp
theorem xl_succ {p : Nat} (hs : s ≤ 64) (hI : ∀ j, j < 64 → a_image j = nI (im j)) (hb : ∀ j, im j < 256) (ho : rd_ok im s p) (hp : ∀ R, (∀ q, q < s → (rd_nz R q ↔ (rd_nz a_reached q ∨ rd_sc im s p q))) → post (f_capacity, nI s, f_entryCount, f_analysed, f_outputSize, f_status, f_steps, f_pc, f_depth, f_valueCount, a_image, a_entry, R, a_classes, a_symbolic, a_functionStart, a_newAddress, a_output, a_registers, a_stack, a_values)) : wpX_reachSuccessors post (f_capacity, nI s, f_entryCount, f_analysed, f_outputSize, f_status, f_steps, f_pc, f_depth, f_valueCount, a_image, a_entry, a_reached, a_classes, a_symbolic, a_functionStart, a_newAddress, a_output, a_registers, a_stack, a_values) (nI p) := by
  have hps := ho.1
  have hle := ho.2.2.1
  have hl := rd_len_r (im p)
  have b1 := hb (p + 1)
  have b3 := hb (p + 3)
  have H0 : (∀ q, ¬ rd_sc im s p q) → post (f_capacity, nI s, f_entryCount, f_analysed, f_outputSize, f_status, f_steps, f_pc, f_depth, f_valueCount, a_image, a_entry, a_reached, a_classes, a_symbolic, a_functionStart, a_newAddress, a_output, a_registers, a_stack, a_values) := fun h => hp a_reached fun q _ => ⟨Or.inl, fun z => z.resolve_right (h q)⟩
  have H1 : (∀ q, rd_sc im s p q ↔ q = p + rd_len (im p)) → wX_reachSuccessors_158 post (nI (p + rd_len (im p))) f_capacity (nI s) f_entryCount f_analysed f_outputSize f_status f_steps f_pc f_depth f_valueCount a_image a_entry a_reached a_classes a_symbolic a_functionStart a_newAddress a_output a_registers a_stack a_values := by
    intro h
    unfold wX_reachSuccessors_158
    exact xl_reach rfl hs (by omega) fun R hR => hp R fun q hq => by rw [hR q hq, h q]
  have H2 : rd_len (im p) = 4 → (∀ q, rd_sc im s p q ↔ (q = im (p + 3) ∨ q = p + rd_len (im p))) → wX_reachSuccessors_130 post (nI p) (nI (p + rd_len (im p))) f_capacity (nI s) f_entryCount f_analysed f_outputSize f_status f_steps f_pc f_depth f_valueCount a_image a_entry a_reached a_classes a_symbolic a_functionStart a_newAddress a_output a_registers a_stack a_values := by
    intro h4 h
    refine ⟨pk_in (p + 3) 64 (by omega) (nI_add p 3), ?_⟩
    refine xl_reach (rd_rd hI (p + 3) (by omega) (by omega) (nI_add p 3)) hs (by omega) (fun R hR => ?_)
    exact xl_reach rfl hs (by omega) fun R2 hR2 => hp R2 fun q hq => by rw [hR2 q hq, hR q hq, h q, or_assoc]
  refine ⟨pk_in p 64 (by omega), nm_r (rd_rd hI p (by omega) (by omega)) ?_⟩
  refine xl_len ho.2.1 ?_
  refine nm_r (nI_add _ _) ?_
  rcases rd_op15 ho.2.1 with e | e | e | e | e | e | e | e | e | e | e | e | e | e | e
  all_goals (repeat (first | refine br_t (by rw [e]; decide) ?_ | refine br_f (by rw [e]; decide) ?_))
  · exact H0 fun q => rd_sc_n (by omega)
  · exact H1 fun q => rd_sc_q (by omega)
  · exact H1 fun q => rd_sc_q (by omega)
  · exact H1 fun q => rd_sc_q (by omega)
  · exact H1 fun q => rd_sc_q (by omega)
  · exact H1 fun q => rd_sc_q (by omega)
  · exact H1 fun q => rd_sc_q (by omega)
  · exact H1 fun q => rd_sc_q (by omega)
  · have el : rd_len (im p) = 2 := by rw [e]; rfl
    refine ⟨pk_in (p + 1) 64 (by omega) (nI_1 p), ?_⟩
    exact xl_reach (rd_rd hI (p + 1) (by omega) (by omega) (nI_1 p)) hs (by omega) fun R hR => hp R fun q hq => by rw [hR q hq, rd_sc_8 e]
  · have el : rd_len (im p) = 4 := by rw [e]; rfl
    exact H2 el fun q => by rw [rd_sc_9 (by omega), el]
  · have el : rd_len (im p) = 4 := by rw [e]; rfl
    exact H2 el fun q => by rw [rd_sc_9 (by omega), el]
  · have el : rd_len (im p) = 2 := by rw [e]; rfl
    refine ⟨pk_in (p + 1) 64 (by omega) (nI_1 p), ?_⟩
    refine xl_reach (rd_rd hI (p + 1) (by omega) (by omega) (nI_1 p)) hs (by omega) fun R hR => ?_
    exact xl_reach rfl hs (by omega) fun R2 hR2 => hp R2 fun q hq => by rw [hR2 q hq, hR q hq, rd_sc_11 e, el, or_assoc]
  · exact H0 fun q => rd_sc_n (by omega)
  · exact xl_reachTable hs hI hb ho e fun R hR => hp R fun q hq => by rw [hR q hq, rd_sc_13 e]
  · exact H0 fun q => rd_sc_n (by omega)
theorem rd_Ps_skip {m : Nat → Nat} {R0 R : Nat → Prop} {p : Nat} (h : rd_Ps m s E R0 R p) (hn : R0 p → rd_ok m s p → False) : rd_Ps m s E R0 R (p + 1) := by
  refine ⟨h.1, h.2.1, fun p' hp' h0 ho x hx hsc => ?_⟩
  by_cases e : p' = p
  · subst e; exact (hn h0 ho).elim
  · exact h.2.2 p' (by omega) h0 ho x hx hsc
theorem rd_Ps_add {m : Nat → Nat} {R0 R R' : Nat → Prop} {p : Nat} (h : rd_Ps m s E R0 R p) (hR : R p) (ho : rd_ok m s p) (hR' : ∀ q, q < s → (R' q ↔ (R q ∨ rd_sc m s p q))) : rd_Ps m s E R0 R' (p + 1) := by
  refine ⟨fun q hq h0 => (hR' q hq).mpr (Or.inl (h.1 q hq h0)), fun q hq hr => ?_, fun p' hp' h0 hok x hx hsc => ?_⟩
  · rcases (hR' q hq).mp hr with z | z
    · exact h.2.1 q hq z
    · exact rd_LR_s (h.2.1 p ho.1 hR) ho z hq
  · by_cases e : p' = p
    · subst e; exact (hR' x hx).mpr (Or.inr hsc)
    · exact (hR' x hx).mpr (Or.inl (h.2.2 p' (by omega) h0 hok x hx hsc))
theorem rd_br0 {a : Nat → Int32} {i : Nat} {A B : Prop} (hi : i < 2 ^ 31) (f : a i = 0 → A) (g : ¬ a i = 0 → B) : (a (nI i).toNatClampNeg = 0 → A) ∧ (¬ a (nI i).toNatClampNeg = 0 → B) := by
  rw [nI_clamp hi]; exact ⟨f, g⟩
theorem xl_find (hs : s ≤ 64) (hI : ∀ j, j < 64 → a_image j = nI (im j)) (hb : ∀ j, im j < 256) (hE : ∀ j, j < 64 → a_entry j = rd_b (E j)) (hp : ∀ R, (∀ q, q < s → (rd_nz R q ↔ rd_LR im s E q)) → post (f_capacity, nI s, f_entryCount, f_analysed, f_outputSize, f_status, f_steps, f_pc, f_depth, f_valueCount, a_image, a_entry, R, a_classes, a_symbolic, a_functionStart, a_newAddress, a_output, a_registers, a_stack, a_values)) : wpX_findReached post (f_capacity, nI s, f_entryCount, f_analysed, f_outputSize, f_status, f_steps, f_pc, f_depth, f_valueCount, a_image, a_entry, a_reached, a_classes, a_symbolic, a_functionStart, a_newAddress, a_output, a_registers, a_stack, a_values) := by
  refine pk_loop (fun n i R => wX_findReached_2 post f_capacity (nI s) f_entryCount f_analysed f_outputSize f_status f_steps f_pc f_depth f_valueCount n (nI i) a_image a_entry R a_classes a_symbolic a_functionStart a_newAddress a_output a_registers a_stack a_values)
    (fun i R => ∀ q, q < i → (rd_nz R q ↔ E q)) s 0 a_reached (by omega) (fun q hq => absurd hq (by omega)) ?_ ?_
  · intro n R hR
    refine pk_le s s (fun _ => ?_) (fun z => absurd z (by omega))
    refine pk_loop (fun n k R => wX_findReached_30 post n (nI k) f_capacity (nI s) f_entryCount f_analysed f_outputSize f_status f_steps f_pc f_depth f_valueCount a_image a_entry R a_classes a_symbolic a_functionStart a_newAddress a_output a_registers a_stack a_values) (fun k R => rd_J im s E (rd_nz R) k) s 0 R (by omega) ?_ ?_ ?_
    · exact ⟨fun q hq he => (hR q hq).mpr he, fun q hq hr => rd_LR_e hq ((hR q hq).mp hr), Or.inr (Nat.zero_le _)⟩
    · intro n R hJ
      exact pk_le s s (fun _ => hp R fun q hq => rd_J_fin hJ hq) (fun z => absurd z (by omega))
    · intro n k R hk hJ hn
      refine pk_le s k (fun z => absurd z (by omega)) (fun _ => ?_)
      refine pk_loop (fun n' i R' => wX_findReached_40 post (wX_findReached_30 post n) (nI k) n' (nI i) f_capacity (nI s) f_entryCount f_analysed f_outputSize f_status f_steps f_pc f_depth f_valueCount a_image a_entry (R') a_classes a_symbolic a_functionStart a_newAddress a_output a_registers a_stack a_values) (fun i R' => rd_Ps im s E (rd_nz R) (rd_nz R') i) s 0 R (by omega) ?_ ?_ ?_
      · exact ⟨fun _ _ h => h, hJ.2.1, fun p' hp' => absurd hp' (by omega)⟩
      · intro n' R' hP
        exact pk_le s s (fun _ => nm_r (nI_1 k) (hn R' (rd_J_next hJ hP))) (fun z => absurd z (by omega))
      · intro n' i R' hi hP hn'
        refine pk_le s i (fun z => absurd z (by omega)) (fun _ => ⟨pk_in i 64 (by omega), rd_br0 (by omega) (fun z => nm_r (nI_1 i) (hn' R' (rd_Ps_skip hP fun h0 _ => hP.1 i hi h0 z))) (fun z => ?_)⟩)
        refine xl_dec_image (m := im) hs (fun j hj => hI j (by omega)) hb (by omega) ?_
        refine rd_brb (fun hno => nm_r (nI_1 i) (hn' R' (rd_Ps_skip hP fun _ ho => hno ho))) (fun ho => ?_)
        exact xl_succ hs hI hb ho fun R2 hR2 => nm_r (nI_1 i) (hn' R2 (rd_Ps_add hP z ho hR2))
  · intro n i R hi hR hn
    refine pk_le s i (fun z => absurd z (by omega)) (fun _ => ⟨pk_in i 64 (by omega), pk_in i 64 (by omega), nm_r (e' := upd R i (rd_b (E i))) ?_ (nm_r (nI_1 i) (hn _ fun q hq => ?_))⟩)
    · rw [nI_clamp (by omega), hE i (by omega), rd_nbb]
    · unfold rd_nz
      by_cases e : q = i
      · subst e
        rw [pk_us, rd_b0]; exact Classical.not_not
      · rw [pk_un e]; exact hR q (by omega)
end
end
section
/-! X: kinds, symbols, function starts -/
section
variable {f_capacity f_size f_entryCount f_analysed f_outputSize f_status f_steps f_pc f_depth f_valueCount : Int32} {a_image a_entry a_reached a_classes a_symbolic a_functionStart a_newAddress a_output a_registers a_stack a_values : Nat → Int32} {im : Nat → Nat} {s : Nat} {E : Nat → Prop} {post : SX → Prop}
theorem rd_br1 {a : Nat → Int32} {i : Nat} {A B : Prop} (hi : i < 2 ^ 31) (f : a i = 1 → A) (g : ¬ a i = 1 → B) : (a (nI i).toNatClampNeg = 1 → A) ∧ (¬ a (nI i).toNatClampNeg = 1 → B) := by
  rw [nI_clamp hi]; exact ⟨f, g⟩
theorem xl_len' {post : Int32 → Prop} {op : Nat} {x : Int32} (hx : x = nI op) (h : op ≤ 14) (hp : post (nI (rd_len op))) : wpX_lengthOf post (f_capacity, nI s, f_entryCount, f_analysed, f_outputSize, f_status, f_steps, f_pc, f_depth, f_valueCount, a_image, a_entry, a_reached, a_classes, a_symbolic, a_functionStart, a_newAddress, a_output, a_registers, a_stack, a_values) x := by
  subst hx; exact xl_len h hp
theorem xl_slo' {post : Int32 → Prop} {op : Nat} {x : Int32} (hx : x = nI op) (h : op ≤ 14) (hp : post (nI (rd_slo op))) : wpX_slotOffset post (f_capacity, nI s, f_entryCount, f_analysed, f_outputSize, f_status, f_steps, f_pc, f_depth, f_valueCount, a_image, a_entry, a_reached, a_classes, a_symbolic, a_functionStart, a_newAddress, a_output, a_registers, a_stack, a_values) x := by
  subst hx; exact xl_slo h hp
theorem xl_claim {f e : Nat} {c x y : Int32} (hx : x = nI f) (hy : y = nI e) (hfe : f ≤ e) (he : e ≤ 64) (hp : post (f_capacity, nI s, f_entryCount, f_analysed, f_outputSize, f_status, f_steps, f_pc, f_depth, f_valueCount, a_image, a_entry, a_reached, rd_clm a_classes f e c, a_symbolic, a_functionStart, a_newAddress, a_output, a_registers, a_stack, a_values)) : wpX_claim post (f_capacity, nI s, f_entryCount, f_analysed, f_outputSize, f_status, f_steps, f_pc, f_depth, f_valueCount, a_image, a_entry, a_reached, a_classes, a_symbolic, a_functionStart, a_newAddress, a_output, a_registers, a_stack, a_values) x y c := by
  subst hx hy
  refine pk_loop (fun n i A => wX_claim_3 post (nI e) c f_capacity (nI s) f_entryCount f_analysed f_outputSize f_status f_steps f_pc f_depth f_valueCount n (nI i) a_image a_entry a_reached A a_symbolic a_functionStart a_newAddress a_output a_registers a_stack a_values) (fun i A => f ≤ i ∧ A = rd_clm a_classes f i c) e f a_classes hfe ?_ ?_ ?_
  · exact ⟨Nat.le_refl _, (rd_clm_0 _ _ (Nat.le_refl _) _).symm⟩
  · rintro n A ⟨-, rfl⟩
    exact pk_le e e (fun _ => hp) (fun z => absurd z (by omega))
  · rintro n i A hi ⟨hf, rfl⟩ hn
    refine pk_le e i (fun z => absurd z (by omega)) (fun _ => ⟨pk_in i 64 (by omega), rd_br0 (by omega) (fun z => ⟨pk_in i 64 (by omega), nm_r (e' := upd (rd_clm a_classes f i c) i c) ?_ (nm_r (nI_1 i) (hn _ ⟨by omega, rd_clm_t hf z⟩))⟩) (fun z => nm_r (nI_1 i) (hn _ ⟨by omega, rd_clm_f z⟩))⟩)
    rw [nI_clamp (by omega)]
theorem xl_claimTable {p : Nat} (hs : s ≤ 64) (hI : ∀ j, j < 64 → a_image j = nI (im j)) (hb : ∀ j, im j < 256) (ho : rd_ok im s p) (hp : post (f_capacity, nI s, f_entryCount, f_analysed, f_outputSize, f_status, f_steps, f_pc, f_depth, f_valueCount, a_image, a_entry, a_reached, rd_clm a_classes (im (p + 2)) (im (p + 2) + rd_tl im s p) 3, a_symbolic, a_functionStart, a_newAddress, a_output, a_registers, a_stack, a_values)) : wpX_claimTable post (f_capacity, nI s, f_entryCount, f_analysed, f_outputSize, f_status, f_steps, f_pc, f_depth, f_valueCount, a_image, a_entry, a_reached, a_classes, a_symbolic, a_functionStart, a_newAddress, a_output, a_registers, a_stack, a_values) (nI p) := by
  unfold wpX_claimTable
  refine xl_tl hs hI hb ho ?_
  by_cases h0 : 0 < rd_tl im s p
  · have ht := rd_tl_le h0
    have hle := ho.2.2.1
    have el : rd_len (im p) = 3 := by rw [ht.1.1]; rfl
    have c2 := hb (p + 2)
    refine pk_le (rd_tl im s p) 0 (fun z => absurd z (by omega)) (fun _ => ⟨pk_in (p + 2) 64 (by omega) (nI_add p 2), nm_r (rd_rd hI (p + 2) (by omega) (by omega) (nI_add p 2)) ?_⟩)
    exact xl_claim rfl (nI_add _ _) (by omega) (by omega) hp
  · have e0 : rd_tl im s p = 0 := by omega
    rw [e0]
    rw [e0, rd_clm_0 _ _ (by omega)] at hp
    exact br_t (by decide) hp
theorem xl_classify (hs : s ≤ 64) (hI : ∀ j, j < 64 → a_image j = nI (im j)) (hb : ∀ j, im j < 256) (hR : ∀ q, q < s → (rd_nz a_reached q ↔ rd_LR im s E q)) (hp : ∀ C, (∀ q, q < s → C q = rd_cls im s E q) → post (f_capacity, nI s, f_entryCount, f_analysed, f_outputSize, f_status, f_steps, f_pc, f_depth, f_valueCount, a_image, a_entry, a_reached, C, a_symbolic, a_functionStart, a_newAddress, a_output, a_registers, a_stack, a_values)) : wpX_classify post (f_capacity, nI s, f_entryCount, f_analysed, f_outputSize, f_status, f_steps, f_pc, f_depth, f_valueCount, a_image, a_entry, a_reached, a_classes, a_symbolic, a_functionStart, a_newAddress, a_output, a_registers, a_stack, a_values) := by
  refine pk_loop (fun n i A => wX_classify_2 post f_capacity (nI s) f_entryCount f_analysed f_outputSize f_status f_steps f_pc f_depth f_valueCount n (nI i) a_image a_entry a_reached A a_symbolic a_functionStart a_newAddress a_output a_registers a_stack a_values) (fun i A => ∀ q, q < i → A q = rd_c2 im s E (fun _ => False) (fun _ => False) q) s 0 a_classes (by omega) (fun q hq => absurd hq (by omega)) ?_ ?_
  · intro n A hA
    refine pk_le s s (fun _ => ?_) (fun z => absurd z (by omega))
    refine pk_loop (fun n i A => wX_classify_64 post n (nI i) f_capacity (nI s) f_entryCount f_analysed f_outputSize f_status f_steps f_pc f_depth f_valueCount a_image a_entry a_reached A a_symbolic a_functionStart a_newAddress a_output a_registers a_stack a_values) (fun i A => ∀ q, q < s → A q = rd_c2 im s E (rd_opd im s E i) (fun _ => False) q) s 0 A (by omega) ?_ ?_ ?_
    · intro q hq
      rw [hA q hq]
      exact rd_c2_c ⟨False.elim, rd_opd_0⟩ Iff.rfl
    · intro n A hA
      refine pk_le s s (fun _ => ?_) (fun z => absurd z (by omega))
      refine pk_loop (fun n i A => wX_classify_112 post n (nI i) f_capacity (nI s) f_entryCount f_analysed f_outputSize f_status f_steps f_pc f_depth f_valueCount a_image a_entry a_reached A a_symbolic a_functionStart a_newAddress a_output a_registers a_stack a_values) (fun i A => ∀ q, q < s → A q = rd_c2 im s E (rd_opd im s E s) (rd_tab im s E i) q) s 0 A (by omega) ?_ ?_ ?_
      · intro q hq
        rw [hA q hq]
        exact rd_c2_c Iff.rfl ⟨False.elim, rd_tab_0⟩
      · intro n A hA
        exact pk_le s s (fun _ => hp A hA) (fun z => absurd z (by omega))
      · intro n i A hi hA hn
        refine pk_le s i (fun z => absurd z (by omega)) (fun _ => ⟨pk_in i 64 (by omega), rd_br1 (by omega) (fun z => ?_) (fun z => nm_r (nI_1 i) (hn A fun q hq => ?_))⟩)
        · rw [hA i hi, rd_c2_st] at z
          refine xl_claimTable hs hI hb z.2 (nm_r (nI_1 i) (hn _ fun q hq => ?_))
          rw [rd_clm_tab (hA q hq)]
          exact rd_c2_c Iff.rfl ⟨fun h => rd_tab_s.mpr (h.imp id fun h => ⟨z, h⟩), fun h => (rd_tab_s.mp h).imp id fun h => h.2⟩
        · rw [hA i hi, rd_c2_st] at z
          rw [hA q hq]
          exact rd_c2_c Iff.rfl ⟨fun h => rd_tab_s.mpr (Or.inl h), fun h => (rd_tab_s.mp h).resolve_right fun h => z h.1⟩
    · intro n i A hi hA hn
      refine pk_le s i (fun z => absurd z (by omega)) (fun _ => ⟨pk_in i 64 (by omega), rd_br1 (by omega) (fun z => ⟨pk_in i 64 (by omega), ?_⟩) (fun z => nm_r (nI_1 i) (hn A fun q hq => ?_))⟩)
      · rw [hA i hi, rd_c2_st] at z
        have hl := rd_len_r (im i)
        have hle := z.2.2.2.1
        refine xl_len' (rd_rd hI i (by omega) (by omega)) z.2.2.1 (nm_r (nI_add _ _) ?_)
        refine xl_claim (nI_1 i) rfl (by omega) (by omega) (nm_r (nI_1 i) (hn _ fun q hq => ?_))
        rw [rd_clm_opd (hA q hq)]
        exact rd_c2_c ⟨fun h => rd_opd_s.mpr (h.imp id fun h => ⟨z, by omega, h.2⟩), fun h => (rd_opd_s.mp h).imp id fun h => ⟨by omega, h.2.2⟩⟩ Iff.rfl
      · rw [hA i hi, rd_c2_st] at z
        rw [hA q hq]
        exact rd_c2_c ⟨fun h => rd_opd_s.mpr (Or.inl h), fun h => (rd_opd_s.mp h).resolve_right fun h => z h.1⟩ Iff.rfl
  · intro n i A hi hA hn
    have T : ∀ x : Int32, x = rd_c2 im s E (fun _ => False) (fun _ => False) i → ∀ q, q < i + 1 → upd A i x q = rd_c2 im s E (fun _ => False) (fun _ => False) q := by
      intro x hx q hq
      by_cases e : q = i
      · subst e; rw [pk_us]; exact hx
      · rw [pk_un e]; exact hA q (by omega)
    refine pk_le s i (fun z => absurd z (by omega)) (fun _ => ⟨pk_in i 64 (by omega), rd_br0 (by omega) (fun z => ⟨pk_in i 64 (by omega), nm_r (e' := upd A i 0) ?_ (nm_r (nI_1 i) (hn _ (T _ ?_)))⟩) (fun z => ?_)⟩)
    · rw [nI_clamp (by omega)]
    · exact (rd_c2_0.mpr ⟨fun h => (hR i hi).mpr h z, fun h => h, fun h => h⟩).symm
    · have hL := (hR i hi).mp z
      refine xl_dec_image (m := im) hs (fun j hj => hI j (by omega)) hb (by omega) ?_
      refine rd_brb (fun hno => ⟨pk_in i 64 (by omega), nm_r (e' := upd A i 4) ?_ (nm_r (nI_1 i) (hn _ (T _ ?_)))⟩) (fun ho => ⟨pk_in i 64 (by omega), nm_r (e' := upd A i 1) ?_ (nm_r (nI_1 i) (hn _ (T _ ?_)))⟩)
      · rw [nI_clamp (by omega)]
      · unfold rd_c2; rw [rd_if_t hL, rd_if_f hno]
      · rw [nI_clamp (by omega)]
      · unfold rd_c2; rw [rd_if_t hL, rd_if_t ho]
theorem xl_markIf {a : Nat} {x : Int32} (hx : x = nI a) (ha : a < 64) (hs : s ≤ 64) (hI : ∀ j, j < 64 → a_image j = nI (im j)) (hb : ∀ j, im j < 256) (hp : ∀ S, (∀ q, q < s → ∀ P : Prop, a_symbolic q = rd_b P → S q = rd_b (P ∨ (im q < s ∧ q = a))) → post (f_capacity, nI s, f_entryCount, f_analysed, f_outputSize, f_status, f_steps, f_pc, f_depth, f_valueCount, a_image, a_entry, a_reached, a_classes, S, a_functionStart, a_newAddress, a_output, a_registers, a_stack, a_values)) : wpX_markIfAddress post (f_capacity, nI s, f_entryCount, f_analysed, f_outputSize, f_status, f_steps, f_pc, f_depth, f_valueCount, a_image, a_entry, a_reached, a_classes, a_symbolic, a_functionStart, a_newAddress, a_output, a_registers, a_stack, a_values) x := by
  subst hx
  have ca := hb a
  refine ⟨pk_in a 64 ha, pk_le s (im a) (fun h => hp _ fun q hq P hP => ?_) (fun h => ⟨pk_in a 64 ha, nm_r (e' := upd a_symbolic a 1) ?_ (hp _ fun q hq P hP => ?_)⟩) rfl (rd_rd hI a ha (by omega))⟩
  · rw [hP]
    refine rd_bc ⟨Or.inl, fun z => z.resolve_right ?_⟩
    rintro ⟨z1, rfl⟩
    omega
  · rw [rd_nb1, nI_clamp (by omega)]
  · by_cases e : q = a
    · subst e; rw [pk_us]; exact (rd_b_t (Or.inr ⟨h, rfl⟩)).symm
    · rw [pk_un e, hP]
      exact rd_bc ⟨Or.inl, fun z => z.resolve_right fun z => e z.2⟩
theorem xl_mark22 {p : Nat} (hs : s ≤ 64) (hI : ∀ j, j < 64 → a_image j = nI (im j)) (hb : ∀ j, im j < 256) (ho : rd_ok im s p) (hp : ∀ S, (∀ q, q < s → ∀ P : Prop, a_symbolic q = rd_b P → S q = rd_b (P ∨ (im q < s ∧ im (p + 2) ≤ q ∧ q < im (p + 2) + rd_tl im s p))) → post (f_capacity, nI s, f_entryCount, f_analysed, f_outputSize, f_status, f_steps, f_pc, f_depth, f_valueCount, a_image, a_entry, a_reached, a_classes, S, a_functionStart, a_newAddress, a_output, a_registers, a_stack, a_values)) : wX_markSymbolsOf_22 post (nI p) f_capacity (nI s) f_entryCount f_analysed f_outputSize f_status f_steps f_pc f_depth f_valueCount a_image a_entry a_reached a_classes a_symbolic a_functionStart a_newAddress a_output a_registers a_stack a_values := by
  unfold wX_markSymbolsOf_22
  refine xl_tl hs hI hb ho ?_
  by_cases h0 : 0 < rd_tl im s p
  · have ht := rd_tl_le h0
    have hle := ho.2.2.1
    have el : rd_len (im p) = 3 := by rw [ht.1.1]; rfl
    have c2 := hb (p + 2)
    refine pk_le (rd_tl im s p) 0 (fun z => absurd z (by omega)) (fun _ => ⟨pk_in (p + 2) 64 (by omega) (nI_add p 2), nm_r (rd_rd hI (p + 2) (by omega) (by omega) (nI_add p 2)) ?_⟩)
    refine pk_loop (fun n i S => wX_markSymbolsOf_46 post (nI (rd_tl im s p)) (nI (im (p + 2))) n (nI i) f_capacity (nI s) f_entryCount f_analysed f_outputSize f_status f_steps f_pc f_depth f_valueCount a_image a_entry a_reached a_classes S a_functionStart a_newAddress a_output a_registers a_stack a_values)
      (fun i S => im (p + 2) ≤ i ∧ ∀ q, q < s → ∀ P : Prop, a_symbolic q = rd_b P → S q = rd_b (P ∨ (im q < s ∧ im (p + 2) ≤ q ∧ q < i))) (im (p + 2) + rd_tl im s p) (im (p + 2)) a_symbolic (by omega) ?_ ?_ ?_
    · refine ⟨Nat.le_refl _, fun q hq P hP => ?_⟩
      rw [hP]; exact rd_bc ⟨Or.inl, fun z => z.resolve_right (by omega)⟩
    · rintro n S ⟨-, hS⟩
      exact pk_le (im (p + 2) + rd_tl im s p) (im (p + 2) + rd_tl im s p) (fun _ => hp S hS) (fun z => absurd z (by omega)) (nI_add _ _) rfl
    · rintro n i S hi ⟨hf, hS⟩ hn
      refine pk_le (im (p + 2) + rd_tl im s p) i (fun z => absurd z (by omega)) (fun _ => ?_) (nI_add _ _) rfl
      refine xl_markIf rfl (by omega) hs hI hb fun S' hS' => nm_r (nI_1 i) (hn S' ⟨by omega, fun q hq P hP => ?_⟩)
      rw [hS' q hq _ (hS q hq P hP)]
      refine rd_bc ⟨?_, ?_⟩
      · rintro ((z | z) | ⟨z1, z2⟩)
        · exact Or.inl z
        · exact Or.inr ⟨z.1, z.2.1, by omega⟩
        · exact Or.inr ⟨z1, by omega, by omega⟩
      · rintro (z | ⟨z1, z2, z3⟩)
        · exact Or.inl (Or.inl z)
        · by_cases e : q = i
          · exact Or.inr ⟨z1, e⟩
          · exact Or.inl (Or.inr ⟨z1, z2, by omega⟩)
  · have e0 : rd_tl im s p = 0 := by omega
    rw [e0]
    refine br_t (by decide) (hp a_symbolic fun q hq P hP => ?_)
    rw [hP]; exact rd_bc ⟨Or.inl, fun z => z.resolve_right (by omega)⟩
theorem xl_markOf {p : Nat} (hs : s ≤ 64) (hI : ∀ j, j < 64 → a_image j = nI (im j)) (hb : ∀ j, im j < 256) (ho : rd_ok im s p) (hp : ∀ S, (∀ q, q < s → ∀ P : Prop, a_symbolic q = rd_b P → S q = rd_b (P ∨ (im q < s ∧ ((0 < rd_slo (im p) ∧ q = p + rd_slo (im p)) ∨ (im (p + 2) ≤ q ∧ q < im (p + 2) + rd_tl im s p))))) → post (f_capacity, nI s, f_entryCount, f_analysed, f_outputSize, f_status, f_steps, f_pc, f_depth, f_valueCount, a_image, a_entry, a_reached, a_classes, S, a_functionStart, a_newAddress, a_output, a_registers, a_stack, a_values)) : wpX_markSymbolsOf post (f_capacity, nI s, f_entryCount, f_analysed, f_outputSize, f_status, f_steps, f_pc, f_depth, f_valueCount, a_image, a_entry, a_reached, a_classes, a_symbolic, a_functionStart, a_newAddress, a_output, a_registers, a_stack, a_values) (nI p) := by
  have hps := ho.1
  have hle := ho.2.2.1
  have hsl := rd_slo_r (im p)
  refine ⟨pk_in p 64 (by omega), ?_⟩
  refine xl_slo' (rd_rd hI p (by omega) (by omega)) ho.2.1 ?_
  refine pk_le (rd_slo (im p)) 0 (fun h => ?_) (fun h => ?_)
  · refine xl_mark22 hs hI hb ho fun S hS => hp S fun q hq P hP => ?_
    rw [hS q hq P hP]
    exact rd_bc ⟨fun z => z.imp id fun z => ⟨z.1, Or.inr z.2⟩, fun z => z.imp id fun z => ⟨z.1, z.2.resolve_left (by omega)⟩⟩
  · have hlt := rd_slo_len (im p) ho.2.1 h
    refine xl_markIf (nI_add _ _) (by omega) hs hI hb fun S hS => ?_
    refine xl_mark22 hs hI hb ho fun S2 hS2 => hp S2 fun q hq P hP => ?_
    rw [hS2 q hq _ (hS q hq P hP)]
    refine rd_bc ⟨?_, ?_⟩
    · rintro ((z | z) | z)
      · exact Or.inl z
      · exact Or.inr ⟨z.1, Or.inl ⟨h, z.2⟩⟩
      · exact Or.inr ⟨z.1, Or.inr z.2⟩
    · rintro (z | ⟨z1, z2 | z2⟩)
      · exact Or.inl (Or.inl z)
      · exact Or.inl (Or.inr ⟨z1, z2.2⟩)
      · exact Or.inr ⟨z1, z2⟩
theorem xl_markSymbols (hs : s ≤ 64) (hI : ∀ j, j < 64 → a_image j = nI (im j)) (hb : ∀ j, im j < 256) (hC : ∀ q, q < s → a_classes q = rd_cls im s E q) (hp : ∀ S, (∀ q, q < s → S q = rd_b (rd_sym im s E s q)) → post (f_capacity, nI s, f_entryCount, f_analysed, f_outputSize, f_status, f_steps, f_pc, f_depth, f_valueCount, a_image, a_entry, a_reached, a_classes, S, a_functionStart, a_newAddress, a_output, a_registers, a_stack, a_values)) : wpX_markSymbols post (f_capacity, nI s, f_entryCount, f_analysed, f_outputSize, f_status, f_steps, f_pc, f_depth, f_valueCount, a_image, a_entry, a_reached, a_classes, a_symbolic, a_functionStart, a_newAddress, a_output, a_registers, a_stack, a_values) := by
  refine pk_loop (fun n i S => wX_markSymbols_2 post f_capacity (nI s) f_entryCount f_analysed f_outputSize f_status f_steps f_pc f_depth f_valueCount n (nI i) a_image a_entry a_reached a_classes S a_functionStart a_newAddress a_output a_registers a_stack a_values) (fun i S => ∀ q, q < i → S q = 0) s 0 a_symbolic (by omega) (fun q hq => absurd hq (by omega)) ?_ ?_
  · intro n S hS
    refine pk_le s s (fun _ => ?_) (fun z => absurd z (by omega))
    refine pk_loop (fun n i S => wX_markSymbols_25 post n (nI i) f_capacity (nI s) f_entryCount f_analysed f_outputSize f_status f_steps f_pc f_depth f_valueCount a_image a_entry a_reached a_classes S a_functionStart a_newAddress a_output a_registers a_stack a_values) (fun i S => ∀ q, q < s → S q = rd_b (rd_sym im s E i q)) s 0 S (by omega) ?_ ?_ ?_
    · intro q hq
      rw [hS q hq]
      exact (rd_b_f fun h => h.2.elim rd_slot_0 rd_tab_0).symm
    · intro n S hS
      exact pk_le s s (fun _ => hp S hS) (fun z => absurd z (by omega))
    · intro n i S hi hS hn
      refine pk_le s i (fun z => absurd z (by omega)) (fun _ => ⟨pk_in i 64 (by omega), rd_br1 (by omega) (fun z => ?_) (fun z => nm_r (nI_1 i) (hn S fun q hq => ?_))⟩)
      · rw [hC i hi, rd_cls, rd_c2_st] at z
        refine xl_markOf hs hI hb z.2 fun S' hS' => nm_r (nI_1 i) (hn S' fun q hq => ?_)
        rw [hS' q hq _ (hS q hq)]
        refine rd_bc ⟨?_, ?_⟩
        · rintro (⟨z1, z2 | z2⟩ | ⟨z1, z2 | z2⟩)
          · exact ⟨z1, Or.inl (rd_slot_s.mpr (Or.inl z2))⟩
          · exact ⟨z1, Or.inr (rd_tab_s.mpr (Or.inl z2))⟩
          · exact ⟨z1, Or.inl (rd_slot_s.mpr (Or.inr ⟨z, z2⟩))⟩
          · exact ⟨z1, Or.inr (rd_tab_s.mpr (Or.inr ⟨z, z2⟩))⟩
        · rintro ⟨z1, z2 | z2⟩
          · rcases rd_slot_s.mp z2 with z3 | z3
            · exact Or.inl ⟨z1, Or.inl z3⟩
            · exact Or.inr ⟨z1, Or.inl z3.2⟩
          · rcases rd_tab_s.mp z2 with z3 | z3
            · exact Or.inl ⟨z1, Or.inr z3⟩
            · exact Or.inr ⟨z1, Or.inr z3.2⟩
      · rw [hC i hi, rd_cls, rd_c2_st] at z
        rw [hS q hq]
        exact rd_bc ⟨fun h => ⟨h.1, h.2.imp (fun h => rd_slot_s.mpr (Or.inl h)) fun h => rd_tab_s.mpr (Or.inl h)⟩, fun h => ⟨h.1, h.2.imp (fun h => (rd_slot_s.mp h).resolve_right fun h => z h.1) fun h => (rd_tab_s.mp h).resolve_right fun h => z h.1⟩⟩
  · intro n i S hi hS hn
    refine pk_le s i (fun z => absurd z (by omega)) (fun _ => ⟨pk_in i 64 (by omega), nm_r (e' := upd S i 0) ?_ (nm_r (nI_1 i) (hn _ fun q hq => ?_))⟩)
    · rw [nI_clamp (by omega), rd_nb0]
    · by_cases e : q = i
      · subst e; exact pk_us
      · rw [pk_un e]; exact hS q (by omega)
theorem xl_markFS (hs : s ≤ 64) (hI : ∀ j, j < 64 → a_image j = nI (im j)) (hb : ∀ j, im j < 256) (hE : ∀ j, j < 64 → a_entry j = rd_b (E j)) (hC : ∀ q, q < s → a_classes q = rd_cls im s E q) (hp : ∀ F, (∀ q, q < s → F q = rd_b (rd_fs im s E q)) → post (f_capacity, nI s, f_entryCount, f_analysed, f_outputSize, f_status, f_steps, f_pc, f_depth, f_valueCount, a_image, a_entry, a_reached, a_classes, a_symbolic, F, a_newAddress, a_output, a_registers, a_stack, a_values)) : wpX_markFunctionStarts post (f_capacity, nI s, f_entryCount, f_analysed, f_outputSize, f_status, f_steps, f_pc, f_depth, f_valueCount, a_image, a_entry, a_reached, a_classes, a_symbolic, a_functionStart, a_newAddress, a_output, a_registers, a_stack, a_values) := by
  refine pk_loop (fun n i F => wX_markFunctionStarts_2 post f_capacity (nI s) f_entryCount f_analysed f_outputSize f_status f_steps f_pc f_depth f_valueCount n (nI i) a_image a_entry a_reached a_classes a_symbolic F a_newAddress a_output a_registers a_stack a_values) (fun i F => ∀ q, q < i → F q = rd_b (E q)) s 0 a_functionStart (by omega) (fun q hq => absurd hq (by omega)) ?_ ?_
  · intro n F hF
    refine pk_le s s (fun _ => ?_) (fun z => absurd z (by omega))
    refine pk_loop (fun n i F => wX_markFunctionStarts_30 post f_capacity (nI s) f_entryCount f_analysed f_outputSize f_status f_steps f_pc f_depth f_valueCount n (nI i) a_image a_entry a_reached a_classes a_symbolic F a_newAddress a_output a_registers a_stack a_values) (fun i F => ∀ q, q < s → F q = rd_b (E q ∨ rd_cal im s E i q)) s 0 F (by omega) ?_ ?_ ?_
    · intro q hq
      rw [hF q hq]
      exact rd_bc ⟨Or.inl, fun z => z.resolve_right rd_cal_0⟩
    · intro n F hF
      exact pk_le s s (fun _ => hp F hF) (fun z => absurd z (by omega))
    · intro n i F hi hF hn
      have N : (∀ q, q < s → ¬ (rd_st im s E i ∧ im i = 11 ∧ im (i + 1) = q)) → ∀ q, q < s → F q = rd_b (E q ∨ rd_cal im s E (i + 1) q) := by
        intro h q hq
        rw [hF q hq]
        exact rd_bc ⟨fun z => z.imp id fun z => rd_cal_s.mpr (Or.inl z), fun z => z.imp id fun z => (rd_cal_s.mp z).resolve_right (h q hq)⟩
      have bi := hb i
      refine pk_le s i (fun z => absurd z (by omega)) (fun _ => ⟨pk_in i 64 (by omega), rd_br1 (by omega) (fun z => ⟨pk_in i 64 (by omega), ?_⟩) (fun z => nm_r (nI_1 i) (hn F (N fun q hq h => ?_)))⟩)
      · rw [hC i hi, rd_cls, rd_c2_st] at z
        have hle := z.2.2.2.1
        refine pk_eq (im i) 11 (fun e => ?_) (fun e => nm_r (nI_1 i) (hn F (N fun q hq h => e h.2.1))) (rd_rd hI i (by omega) (by omega)) rfl
        have el : rd_len (im i) = 2 := by rw [e]; rfl
        have c1 := hb (i + 1)
        have hr := rd_rd hI (i + 1) (by omega) (by omega) (x := nI i + 1) (nI_1 i)
        refine ⟨pk_in (i + 1) 64 (by omega) (nI_1 i), pk_le s (im (i + 1)) (fun h => nm_r (nI_1 i) (hn F (N fun q hq hh => ?_))) (fun h => ⟨pk_in (i + 1) 64 (by omega) (nI_1 i), pk_in (im (i + 1)) 64 (by omega) hr, nm_r (e' := upd F (im (i + 1)) 1) ?_ (nm_r (nI_1 i) (hn _ fun q hq => ?_))⟩) rfl hr⟩
        · have := hh.2.2; omega
        · rw [hr, nI_clamp (by omega), rd_nb1]
        · by_cases eq : q = im (i + 1)
          · rw [eq, pk_us]
            exact (rd_b_t (Or.inr (rd_cal_s.mpr (Or.inr ⟨z, e, rfl⟩)))).symm
          · rw [pk_un eq, hF q hq]
            exact rd_bc ⟨fun z => z.imp id fun z => rd_cal_s.mpr (Or.inl z), fun z => z.imp id fun z => (rd_cal_s.mp z).resolve_right fun h => eq h.2.2.symm⟩
      · rw [hC i hi, rd_cls, rd_c2_st] at z
        exact z h.1
  · intro n i F hi hF hn
    refine pk_le s i (fun z => absurd z (by omega)) (fun _ => ⟨pk_in i 64 (by omega), pk_in i 64 (by omega), nm_r (e' := upd F i (rd_b (E i))) ?_ (nm_r (nI_1 i) (hn _ fun q hq => ?_))⟩)
    · rw [nI_clamp (by omega), hE i (by omega), rd_nbb]
    · by_cases e : q = i
      · subst e; exact pk_us
      · rw [pk_un e]; exact hF q (by omega)
end
end
section
/-! X: the layout, and analyse -/
section
variable {f_capacity f_size f_entryCount f_analysed f_outputSize f_status f_steps f_pc f_depth f_valueCount : Int32} {a_image a_entry a_reached a_classes a_symbolic a_functionStart a_newAddress a_output a_registers a_stack a_values : Nat → Int32} {im : Nat → Nat} {s : Nat} {E : Nat → Prop} {post : SX → Prop}
theorem xl_layOut {pd : Nat} (h0 : 0 < s) (hpd : pd ≤ 3) (hs : s ≤ 64) (hI : ∀ j, j < 64 → a_image j = nI (im j)) (hb : ∀ j, im j < 256) (hS : ∀ q, q < s → a_symbolic q = rd_b (rd_sym im s E s q)) (hF : ∀ q, q < s → a_functionStart q = rd_b (rd_fs im s E q)) (hp : ∀ A O, (∀ q, q < s → A q = nI (rd_na im s E pd q)) → (∀ i, i < rd_os im s E pd → O i = nI (rd_ob im s E pd i)) → post (f_capacity, nI s, f_entryCount, f_analysed, nI (rd_os im s E pd), f_status, f_steps, f_pc, f_depth, f_valueCount, a_image, a_entry, a_reached, a_classes, a_symbolic, a_functionStart, A, O, a_registers, a_stack, a_values)) : wpX_layOut post (f_capacity, nI s, f_entryCount, f_analysed, f_outputSize, f_status, f_steps, f_pc, f_depth, f_valueCount, a_image, a_entry, a_reached, a_classes, a_symbolic, a_functionStart, a_newAddress, a_output, a_registers, a_stack, a_values) (nI pd) := by
  have hos := rd_os_le im E h0 hs hpd
  have hcm : ∀ i, i ≤ s → pd * rd_cnt (rd_G im s E) i ≤ 3 * 64 := fun i hi => Nat.mul_le_mul hpd (Nat.le_trans (rd_cnt_le _ i) (by omega))
  refine pk_loop (fun n i A => wX_layOut_4 post (nI pd) f_capacity (nI s) f_entryCount f_analysed f_outputSize f_status f_steps f_pc f_depth f_valueCount n (nI (pd * rd_cnt (rd_G im s E) i)) (nI i) a_image a_entry a_reached a_classes a_symbolic a_functionStart A a_output a_registers a_stack a_values) (fun i A => ∀ q, q < i → A q = nI (rd_na im s E pd q)) s 0 a_newAddress (by omega) (fun q hq => absurd hq (by omega)) ?_ ?_
  · intro n A hA
    refine pk_le s s (fun _ => nm_r (e' := nI (rd_os im s E pd)) (nI_add _ _) ?_) (fun z => absurd z (by omega))
    refine pk_loop (fun n i O => wX_layOut_56 post f_capacity (nI s) f_entryCount f_analysed (nI (rd_os im s E pd)) f_status f_steps f_pc f_depth f_valueCount n (nI i) a_image a_entry a_reached a_classes a_symbolic a_functionStart A O a_registers a_stack a_values) (fun i O => ∀ j, j < i → O j = 1) (rd_os im s E pd) 0 a_output (by omega) (fun q hq => absurd hq (by omega)) ?_ ?_
    · intro n O hO
      refine pk_le (rd_os im s E pd) (rd_os im s E pd) (fun _ => ?_) (fun z => absurd z (by omega))
      refine pk_loop (fun n i O => wX_layOut_79 post f_capacity (nI s) f_entryCount f_analysed (nI (rd_os im s E pd)) f_status f_steps f_pc f_depth f_valueCount n (nI i) a_image a_entry a_reached a_classes a_symbolic a_functionStart A O a_registers a_stack a_values) (fun i O => (∀ q, q < i → O (rd_na im s E pd q) = nI (rd_val im s E pd q)) ∧ ∀ j, j < rd_os im s E pd → (∀ q, q < i → rd_na im s E pd q ≠ j) → O j = 1) s 0 O (by omega) ?_ ?_ ?_
      · exact ⟨fun q hq => absurd hq (by omega), fun j hj _ => hO j hj⟩
      · rintro n O ⟨hO1, hO2⟩
        refine pk_le s s (fun _ => hp A O hA fun i hi => ?_) (fun z => absurd z (by omega))
        by_cases h : ∃ q, q < s ∧ rd_na im s E pd q = i
        · obtain ⟨q, hq, rfl⟩ := h
          rw [rd_ob_t hq]; exact hO1 q hq
        · have hn : ∀ q, q < s → rd_na im s E pd q ≠ i := fun q hq e => h ⟨q, hq, e⟩
          rw [rd_ob_f hn]; exact hO2 i hi hn
      · rintro n i O hi ⟨hO1, hO2⟩ hn
        have T : ∀ x : Int32, x = nI (rd_val im s E pd i) → (∀ q, q < i + 1 → upd O (rd_na im s E pd i) x (rd_na im s E pd q) = nI (rd_val im s E pd q)) ∧ ∀ j, j < rd_os im s E pd → (∀ q, q < i + 1 → rd_na im s E pd q ≠ j) → upd O (rd_na im s E pd i) x j = 1 := by
          intro x hx
          refine ⟨fun q hq => ?_, fun j hj hq => ?_⟩
          · by_cases e : q = i
            · subst e; rw [pk_us]; exact hx
            · rw [pk_un fun z => e (rd_na_inj z)]; exact hO1 q (by omega)
          · rw [pk_un fun z => hq i (by omega) z.symm]
            exact hO2 j hj fun q hq' => hq q (by omega)
        have bi := hb i
        have hna := rd_na_os im E pd hi
        have hA' : A (nI i).toNatClampNeg = nI (rd_na im s E pd i) := by rw [nI_clamp (by omega)]; exact hA i hi
        have hS' : a_symbolic (nI i).toNatClampNeg = rd_b (rd_sym im s E s i) := by rw [nI_clamp (by omega)]; exact hS i hi
        refine pk_le s i (fun z => absurd z (by omega)) (fun _ => ⟨pk_in i 64 (by omega), nm_r (rd_rd hI i (by omega) (by omega)) ⟨pk_in i 64 (by omega), pk_in i 64 (by omega), ?_⟩⟩)
        rw [hS']
        refine rd_brb (fun h => ⟨pk_in (rd_na im s E pd i) 253 (by omega) hA', nm_r (e' := upd O (rd_na im s E pd i) (nI (im i))) ?_ (nm_r (nI_1 i) (hn _ (T _ ?_)))⟩) (fun h => ⟨pk_in (im i) 64 (by have := h.1; omega), pk_in (rd_na im s E pd i) 253 (by omega) hA', nm_r (e' := upd O (rd_na im s E pd i) (nI (rd_na im s E pd (im i)))) ?_ (nm_r (nI_1 i) (hn _ (T _ ?_)))⟩)
        · rw [hA', nI_clamp (by omega)]
        · unfold rd_val; rw [rd_if_f h]
        · rw [hA', nI_clamp (by omega), nI_clamp (by omega), hA _ h.1]
        · unfold rd_val; rw [rd_if_t h]
    · intro n i O hi hO hn
      refine pk_le (rd_os im s E pd) i (fun z => absurd z (by omega)) (fun _ => ⟨pk_in i 253 (by omega), nm_r (e' := upd O i 1) ?_ (nm_r (nI_1 i) (hn _ fun q hq => ?_))⟩)
      · rw [nI_clamp (by omega)]
      · by_cases e : q = i
        · subst e; exact pk_us
        · rw [pk_un e]; exact hO q (by omega)
  · intro n i A hi hA hn
    have K : wX_layOut_29 post (wX_layOut_4 post (nI pd) f_capacity (nI s) f_entryCount f_analysed f_outputSize f_status f_steps f_pc f_depth f_valueCount n) (nI pd) (nI (pd * rd_cnt (rd_G im s E) (i + 1))) (nI i) f_capacity (nI s) f_entryCount f_analysed f_outputSize f_status f_steps f_pc f_depth f_valueCount a_image a_entry a_reached a_classes a_symbolic a_functionStart A a_output a_registers a_stack a_values := by
      refine ⟨pk_in i 64 (by omega), nm_r (e' := upd A i (nI (rd_na im s E pd i))) ?_ (nm_r (nI_1 i) (hn _ fun q hq => ?_))⟩
      · rw [nI_clamp (by omega), nI_add]; rfl
      · by_cases e : q = i
        · subst e; exact pk_us
        · rw [pk_un e]; exact hA q (by omega)
    have hF' : a_functionStart (nI i).toNatClampNeg = rd_b (rd_fs im s E i) := by rw [nI_clamp (by omega)]; exact hF i hi
    refine pk_le s i (fun z => absurd z (by omega)) (fun _ => pk_le i 0 (fun z => ?_) (fun z => ⟨pk_in i 64 (by omega), ?_⟩))
    · have e : rd_cnt (rd_G im s E) (i + 1) = rd_cnt (rd_G im s E) i := rd_cnt_f fun h => absurd h.1 (by omega)
      rw [e] at K; exact K
    · rw [hF']
      refine rd_brb (fun h => ?_) (fun h => ?_)
      · have e : rd_cnt (rd_G im s E) (i + 1) = rd_cnt (rd_G im s E) i := rd_cnt_f fun z => h z.2
        rw [e] at K; exact K
      · have e : rd_cnt (rd_G im s E) (i + 1) = rd_cnt (rd_G im s E) i + 1 := rd_cnt_t ⟨z, h⟩
        refine nm_r ?_ K
        rw [nI_add, e]; rfl
/-- what X holds after an analysis -/
def rd_XA (im : Nat → Nat) (s : Nat) (E : Nat → Prop) (pd : Nat) (os : Int32) (cl sy fs na ou : Nat → Int32) : Prop :=
  (∀ q, q < s → cl q = rd_cls im s E q) ∧ (∀ q, q < s → sy q = rd_b (rd_sym im s E s q)) ∧ (∀ q, q < s → fs q = rd_b (rd_fs im s E q)) ∧ (∀ q, q < s → na q = nI (rd_na im s E pd q)) ∧ os = nI (rd_os im s E pd) ∧ (∀ i, i < rd_os im s E pd → ou i = nI (rd_ob im s E pd i))
theorem xl_analyse {post : Int32 → SX → Prop} {ne pd : Nat} (h0 : 0 < s) (hne : 0 < ne) (hne8 : ne ≤ 8) (hpd : pd ≤ 3) (hs : s ≤ 64) (hI : ∀ j, j < 64 → a_image j = nI (im j)) (hb : ∀ j, im j < 256) (hE : ∀ j, j < 64 → a_entry j = rd_b (E j))
    (hp : ∀ os R C S F A O, rd_XA im s E pd os C S F A O → post 1 (f_capacity, nI s, nI ne, 1, os, f_status, f_steps, f_pc, f_depth, f_valueCount, a_image, a_entry, R, C, S, F, A, O, a_registers, a_stack, a_values)) : wpX_analyse post (f_capacity, nI s, nI ne, f_analysed, f_outputSize, f_status, f_steps, f_pc, f_depth, f_valueCount, a_image, a_entry, a_reached, a_classes, a_symbolic, a_functionStart, a_newAddress, a_output, a_registers, a_stack, a_values) (nI pd) := by
  unfold wpX_analyse
  refine br_f (rd_lt0 (by omega)) (pk_lt 3 pd (fun z => absurd z (by omega)) (fun _ => pk_eq s 0 (fun z => absurd z (by omega)) (fun _ => pk_eq ne 0 (fun z => absurd z (by omega)) (fun _ => ?_))))
  refine xl_find hs hI hb hE fun R hR => ?_
  refine xl_classify hs hI hb hR fun C hC => ?_
  refine xl_markSymbols hs hI hb hC fun S hS => ?_
  refine xl_markFS hs hI hb hE hC fun F hF => ?_
  exact xl_layOut h0 hpd hs hI hb hS hF fun A O hA hO => hp _ R C S F A O ⟨hC, hS, hF, hA, rfl, hO⟩
end
end
section
/-! X: the counts -/
def rd_un (im : Nat → Nat) (s : Nat) (E : Nat → Prop) (q : Nat) : Prop := rd_st im s E q ∧ (im q = 14 ∨ (im q = 13 ∧ rd_tl im s q = 0))
def rd_ck (im : Nat → Nat) (s : Nat) (E : Nat → Prop) (j q : Nat) : Prop :=
  (j ≤ 4 ∧ rd_cls im s E q = nI j) ∨ (j = 5 ∧ rd_fs im s E q) ∨ (j = 6 ∧ rd_sym im s E s q) ∨ (j = 7 ∧ rd_st im s E q ∧ 0 < rd_tl im s q) ∨ (j = 8 ∧ rd_un im s E q)
theorem rd_ck_c {im : Nat → Nat} {s : Nat} {E : Nat → Prop} {j q : Nat} (h : j ≤ 4) : rd_ck im s E j q ↔ rd_cls im s E q = nI j :=
  ⟨fun z => by
    rcases z with z | z | z | z | z
    · exact z.2
    all_goals exact absurd z.1 (by omega), fun z => Or.inl ⟨h, z⟩⟩
theorem rd_ck_5 {im : Nat → Nat} {s : Nat} {E : Nat → Prop} {q : Nat} : rd_ck im s E 5 q ↔ rd_fs im s E q := by
  unfold rd_ck; simp
theorem rd_ck_6 {im : Nat → Nat} {s : Nat} {E : Nat → Prop} {q : Nat} : rd_ck im s E 6 q ↔ rd_sym im s E s q := by
  unfold rd_ck; simp
theorem rd_ck_7 {im : Nat → Nat} {s : Nat} {E : Nat → Prop} {q : Nat} : rd_ck im s E 7 q ↔ (rd_st im s E q ∧ 0 < rd_tl im s q) := by
  unfold rd_ck; simp
theorem rd_ck_8 {im : Nat → Nat} {s : Nat} {E : Nat → Prop} {q : Nat} : rd_ck im s E 8 q ↔ rd_un im s E q := by
  unfold rd_ck; simp
section
variable {f_capacity f_size f_entryCount f_analysed f_outputSize f_status f_steps f_pc f_depth f_valueCount : Int32} {a_image a_entry a_reached a_classes a_symbolic a_functionStart a_newAddress a_output a_registers a_stack a_values : Nat → Int32} {im : Nat → Nat} {s : Nat} {E : Nat → Prop} {post : Int32 → Prop}
theorem rd_brx {a : Nat → Int32} {i : Nat} {x : Int32} {A B : Prop} (hi : i < 2 ^ 31) (f : a i = x → A) (g : ¬ a i = x → B) : (a (nI i).toNatClampNeg = x → A) ∧ (¬ a (nI i).toNatClampNeg = x → B) := by
  rw [nI_clamp hi]; exact ⟨f, g⟩
theorem xl_cntClass {x : Int32} (hs : s ≤ 64) (hC : ∀ q, q < s → a_classes q = rd_cls im s E q) (hp : post (nI (rd_cnt (fun q => rd_cls im s E q = x) s))) : wpX_countClass post (f_capacity, nI s, f_entryCount, f_analysed, f_outputSize, f_status, f_steps, f_pc, f_depth, f_valueCount, a_image, a_entry, a_reached, a_classes, a_symbolic, a_functionStart, a_newAddress, a_output, a_registers, a_stack, a_values) x := by
  refine pk_loop (fun n i (_ : Unit) => wX_countClass_4 post x f_capacity (nI s) f_entryCount f_analysed f_outputSize f_status f_steps f_pc f_depth f_valueCount a_image a_entry a_reached a_classes a_symbolic a_functionStart a_newAddress a_output a_registers a_stack a_values n (nI (rd_cnt (fun q => rd_cls im s E q = x) i)) (nI i)) (fun _ _ => True) s 0 () (by omega) trivial ?_ ?_
  · intro n _ _
    exact pk_le s s (fun _ => hp) (fun z => absurd z (by omega))
  · intro n i _ hi _ hn
    refine pk_le s i (fun z => absurd z (by omega)) (fun _ => ⟨pk_in i 64 (by omega), rd_brx (by omega) (fun z => nm_r (nI_1 _) (nm_r (nI_1 i) ?_)) (fun z => nm_r (nI_1 i) ?_)⟩)
    · rw [hC i hi] at z
      have h := hn () trivial
      rw [rd_cnt_t (P := fun q => rd_cls im s E q = x) z] at h; exact h
    · rw [hC i hi] at z
      have h := hn () trivial
      rw [rd_cnt_f (P := fun q => rd_cls im s E q = x) z] at h; exact h
theorem xl_cnt_functionStart (hs : s ≤ 64) (hC : ∀ q, q < s → a_functionStart q = rd_b (rd_fs im s E q)) (hp : post (nI (rd_cnt (rd_fs im s E) s))) : wpX_countMarks__functionStart post (f_capacity, nI s, f_entryCount, f_analysed, f_outputSize, f_status, f_steps, f_pc, f_depth, f_valueCount, a_image, a_entry, a_reached, a_classes, a_symbolic, a_functionStart, a_newAddress, a_output, a_registers, a_stack, a_values) := by
  refine pk_loop (fun n i (_ : Unit) => wX_countMarks__functionStart_4 post f_capacity (nI s) f_entryCount f_analysed f_outputSize f_status f_steps f_pc f_depth f_valueCount a_image a_entry a_reached a_classes a_symbolic a_functionStart a_newAddress a_output a_registers a_stack a_values n (nI (rd_cnt (rd_fs im s E) i)) (nI i)) (fun _ _ => True) s 0 () (by omega) trivial ?_ ?_
  · intro n _ _
    exact pk_le s s (fun _ => hp) (fun z => absurd z (by omega))
  · intro n i _ hi _ hn
    refine pk_le s i (fun z => absurd z (by omega)) (fun _ => ⟨pk_in i 64 (by omega), rd_brx (by omega) (fun z => nm_r (nI_1 i) ?_) (fun z => nm_r (nI_1 _) (nm_r (nI_1 i) ?_))⟩)
    · rw [hC i hi, rd_b0] at z
      have h := hn () trivial
      rw [rd_cnt_f z] at h; exact h
    · rw [hC i hi, rd_b0, Classical.not_not] at z
      have h := hn () trivial
      rw [rd_cnt_t z] at h; exact h
theorem xl_cnt_symbolic (hs : s ≤ 64) (hC : ∀ q, q < s → a_symbolic q = rd_b (rd_sym im s E s q)) (hp : post (nI (rd_cnt (rd_sym im s E s) s))) : wpX_countMarks__symbolic post (f_capacity, nI s, f_entryCount, f_analysed, f_outputSize, f_status, f_steps, f_pc, f_depth, f_valueCount, a_image, a_entry, a_reached, a_classes, a_symbolic, a_functionStart, a_newAddress, a_output, a_registers, a_stack, a_values) := by
  refine pk_loop (fun n i (_ : Unit) => wX_countMarks__symbolic_4 post f_capacity (nI s) f_entryCount f_analysed f_outputSize f_status f_steps f_pc f_depth f_valueCount a_image a_entry a_reached a_classes a_symbolic a_functionStart a_newAddress a_output a_registers a_stack a_values n (nI (rd_cnt (rd_sym im s E s) i)) (nI i)) (fun _ _ => True) s 0 () (by omega) trivial ?_ ?_
  · intro n _ _
    exact pk_le s s (fun _ => hp) (fun z => absurd z (by omega))
  · intro n i _ hi _ hn
    refine pk_le s i (fun z => absurd z (by omega)) (fun _ => ⟨pk_in i 64 (by omega), rd_brx (by omega) (fun z => nm_r (nI_1 i) ?_) (fun z => nm_r (nI_1 _) (nm_r (nI_1 i) ?_))⟩)
    · rw [hC i hi, rd_b0] at z
      have h := hn () trivial
      rw [rd_cnt_f z] at h; exact h
    · rw [hC i hi, rd_b0, Classical.not_not] at z
      have h := hn () trivial
      rw [rd_cnt_t z] at h; exact h
theorem xl_cntTables (hs : s ≤ 64) (hI : ∀ j, j < 64 → a_image j = nI (im j)) (hb : ∀ j, im j < 256) (hC : ∀ q, q < s → a_classes q = rd_cls im s E q) (hp : post (nI (rd_cnt (fun q => rd_st im s E q ∧ 0 < rd_tl im s q) s))) : wpX_countTables post (f_capacity, nI s, f_entryCount, f_analysed, f_outputSize, f_status, f_steps, f_pc, f_depth, f_valueCount, a_image, a_entry, a_reached, a_classes, a_symbolic, a_functionStart, a_newAddress, a_output, a_registers, a_stack, a_values) := by
  refine pk_loop (fun n i (_ : Unit) => wX_countTables_4 post f_capacity (nI s) f_entryCount f_analysed f_outputSize f_status f_steps f_pc f_depth f_valueCount a_image a_entry a_reached a_classes a_symbolic a_functionStart a_newAddress a_output a_registers a_stack a_values n (nI (rd_cnt (fun q => rd_st im s E q ∧ 0 < rd_tl im s q) i)) (nI i)) (fun _ _ => True) s 0 () (by omega) trivial ?_ ?_
  · intro n _ _
    exact pk_le s s (fun _ => hp) (fun z => absurd z (by omega))
  · intro n i _ hi _ hn
    have h := hn () trivial
    refine pk_le s i (fun z => absurd z (by omega)) (fun _ => ⟨pk_in i 64 (by omega), rd_brx (by omega) (fun z => ?_) (fun z => nm_r (nI_1 i) ?_)⟩)
    · rw [hC i hi, rd_cls, rd_c2_st] at z
      refine xl_tl hs hI hb z.2 ?_
      have ht : rd_tl im s i ≤ 16 := by
        by_cases h0 : 0 < rd_tl im s i
        · exact (rd_tl_le h0).2.2.2
        · omega
      refine pk_le (rd_tl im s i) 0 (fun h0 => nm_r (nI_1 i) ?_) (fun h0 => nm_r (nI_1 _) (nm_r (nI_1 i) ?_))
      · rw [rd_cnt_f (P := fun q => rd_st im s E q ∧ 0 < rd_tl im s q) (fun y => absurd y.2 (by omega))] at h; exact h
      · rw [rd_cnt_t (P := fun q => rd_st im s E q ∧ 0 < rd_tl im s q) ⟨z, h0⟩] at h; exact h
    · rw [hC i hi, rd_cls, rd_c2_st] at z
      rw [rd_cnt_f (P := fun q => rd_st im s E q ∧ 0 < rd_tl im s q) (fun y => z y.1)] at h; exact h
theorem xl_isUn {p : Nat} (hs : s ≤ 64) (hI : ∀ j, j < 64 → a_image j = nI (im j)) (hb : ∀ j, im j < 256) (ho : rd_ok im s p) (hp : post (rd_b (im p = 14 ∨ (im p = 13 ∧ rd_tl im s p = 0)))) : wpX_isUnresolved post (f_capacity, nI s, f_entryCount, f_analysed, f_outputSize, f_status, f_steps, f_pc, f_depth, f_valueCount, a_image, a_entry, a_reached, a_classes, a_symbolic, a_functionStart, a_newAddress, a_output, a_registers, a_stack, a_values) (nI p) := by
  have hps := ho.1
  have bp := hb p
  have hr := rd_rd hI p (by omega) (by omega) (x := nI p)
  refine ⟨pk_in p 64 (by omega), pk_eq (im p) 14 (fun e => rd_pt hp (Or.inl e)) (fun e => ⟨pk_in p 64 (by omega), pk_eq (im p) 13 (fun e3 => ?_) (fun e3 => rd_pf hp (by omega)) hr rfl⟩) hr rfl⟩
  refine xl_tl hs hI hb ho ?_
  have ht : rd_tl im s p ≤ 16 := by
    by_cases h0 : 0 < rd_tl im s p
    · exact (rd_tl_le h0).2.2.2
    · omega
  exact pk_eq (rd_tl im s p) 0 (fun h0 => rd_pt hp (Or.inr ⟨e3, h0⟩)) (fun h0 => rd_pf hp (by omega))
theorem xl_cntUn (hs : s ≤ 64) (hI : ∀ j, j < 64 → a_image j = nI (im j)) (hb : ∀ j, im j < 256) (hC : ∀ q, q < s → a_classes q = rd_cls im s E q) (hp : post (nI (rd_cnt (rd_un im s E) s))) : wpX_countUnresolved post (f_capacity, nI s, f_entryCount, f_analysed, f_outputSize, f_status, f_steps, f_pc, f_depth, f_valueCount, a_image, a_entry, a_reached, a_classes, a_symbolic, a_functionStart, a_newAddress, a_output, a_registers, a_stack, a_values) := by
  refine pk_loop (fun n i (_ : Unit) => wX_countUnresolved_4 post f_capacity (nI s) f_entryCount f_analysed f_outputSize f_status f_steps f_pc f_depth f_valueCount a_image a_entry a_reached a_classes a_symbolic a_functionStart a_newAddress a_output a_registers a_stack a_values n (nI (rd_cnt (rd_un im s E) i)) (nI i)) (fun _ _ => True) s 0 () (by omega) trivial ?_ ?_
  · intro n _ _
    exact pk_le s s (fun _ => hp) (fun z => absurd z (by omega))
  · intro n i _ hi _ hn
    have h := hn () trivial
    refine pk_le s i (fun z => absurd z (by omega)) (fun _ => ⟨pk_in i 64 (by omega), rd_brx (by omega) (fun z => ?_) (fun z => nm_r (nI_1 i) ?_)⟩)
    · rw [hC i hi, rd_cls, rd_c2_st] at z
      refine xl_isUn hs hI hb z.2 ?_
      refine rd_brb (fun h0 => nm_r (nI_1 i) ?_) (fun h0 => nm_r (nI_1 _) (nm_r (nI_1 i) ?_))
      · rw [rd_cnt_f (P := rd_un im s E) (fun y => h0 y.2)] at h; exact h
      · rw [rd_cnt_t (P := rd_un im s E) ⟨z, h0⟩] at h; exact h
    · rw [hC i hi, rd_cls, rd_c2_st] at z
      rw [rd_cnt_f (P := rd_un im s E) (fun y => z y.1)] at h; exact h
theorem xl_count {j pd : Nat} (hj : j ≤ 8) (hs : s ≤ 64) (hI : ∀ j, j < 64 → a_image j = nI (im j)) (hb : ∀ j, im j < 256) (hA : rd_XA im s E pd f_outputSize a_classes a_symbolic a_functionStart a_newAddress a_output) (hp : post (nI (rd_cnt (rd_ck im s E j) s))) : wpX_count post (f_capacity, nI s, f_entryCount, 1, f_outputSize, f_status, f_steps, f_pc, f_depth, f_valueCount, a_image, a_entry, a_reached, a_classes, a_symbolic, a_functionStart, a_newAddress, a_output, a_registers, a_stack, a_values) (nI j) := by
  have hc : j = 0 ∨ j = 1 ∨ j = 2 ∨ j = 3 ∨ j = 4 ∨ j = 5 ∨ j = 6 ∨ j = 7 ∨ j = 8 := by omega
  have C : j ≤ 4 → wX_count_84 post (nI j) f_capacity (nI s) f_entryCount 1 f_outputSize f_status f_steps f_pc f_depth f_valueCount a_image a_entry a_reached a_classes a_symbolic a_functionStart a_newAddress a_output a_registers a_stack a_values := by
    intro h4
    unfold wX_count_84
    refine xl_cntClass hs hA.1 ?_
    rw [← rd_cnt_c fun q _ => rd_ck_c h4]; exact hp
  rcases hc with e | e | e | e | e | e | e | e | e <;> subst e <;>
    (refine br_f (by decide) (br_f (by decide) (br_f (by decide) (br_f (by decide) (br_f (by decide) ?_))))
     repeat (first | refine br_t (by decide) ?_ | refine br_f (by decide) ?_))
  · exact C (by omega)
  · exact C (by omega)
  · exact C (by omega)
  · exact C (by omega)
  · exact C (by omega)
  · exact xl_cnt_functionStart hs hA.2.2.1 (by rw [← rd_cnt_c fun q _ => rd_ck_5]; exact hp)
  · exact xl_cnt_symbolic hs hA.2.1 (by rw [← rd_cnt_c fun q _ => rd_ck_6]; exact hp)
  · exact xl_cntTables hs hI hb hA.1 (by rw [← rd_cnt_c fun q _ => rd_ck_7]; exact hp)
  · exact xl_cntUn hs hI hb hA.1 (by rw [← rd_cnt_c fun q _ => rd_ck_8]; exact hp)
end
end
section
/-! The pictures of both states, and the relation -/
/-- what holds of the picture itself -/
def rd_B (c s ne pd : Nat) (im : Nat → Nat) (E : Nat → Prop) (an : Prop) (ms : rd_MS) : Prop :=
  8 ≤ c ∧ c ≤ 64 ∧ s ≤ c ∧ ne ≤ 8 ∧ (∀ j, im j < 256) ∧ (∀ q, E q → q < s) ∧ rd_MI ms ∧ (an → 0 < s ∧ pd ≤ 3)
def rd_XR (c s ne pd : Nat) (im : Nat → Nat) (E : Nat → Prop) (an : Prop) (st sp : Int32) (ms : rd_MS) (u : SX) : Prop :=
  ∃ (f_outputSize : Int32) (a_image a_entry a_reached a_classes a_symbolic a_functionStart a_newAddress a_output : Nat → Int32),
    u = (nI c, nI s, nI ne, rd_b an, f_outputSize, st, sp, nI ms.1, nI ms.2.2.2.1, nI ms.2.2.2.2.2, a_image, a_entry, a_reached, a_classes, a_symbolic, a_functionStart, a_newAddress, a_output, ms.2.1, ms.2.2.1, ms.2.2.2.2.1) ∧
    (∀ j, a_image j = nI (im j)) ∧ (∀ j, a_entry j = rd_b (E j)) ∧ (an → rd_XA im s E pd f_outputSize a_classes a_symbolic a_functionStart a_newAddress a_output)
def rd_YR (c s ne pd : Nat) (im : Nat → Nat) (E : Nat → Prop) (an : Prop) (st sp : Int32) (ms : rd_MS) (v : SY) : Prop :=
  ∃ (f_pad f_changed : Int32) (a_img a_ent a_inS a_mem : Nat → Int32) (en : Nat → Nat),
    v = (nI c, nI s, nI ne, rd_b an, f_pad, f_changed, st, sp, nI ms.1, nI ms.2.2.2.2.2, nI ms.2.2.2.1, a_img, a_ent, a_inS, ms.2.1, ms.2.2.2.2.1, ms.2.2.1, a_mem) ∧
    (∀ j, a_img j = nI (im j)) ∧ (∀ e, e < ne → a_ent e = nI (en e) ∧ en e < s) ∧ (∀ q, E q ↔ ∃ e, e < ne ∧ en e = q) ∧ (an → f_pad = nI pd ∧ ∀ q, q < s → (¬ a_inS q = 0 ↔ rd_LR im s E q))
def i_Rel (_ : Nat) (u : SX) (v : SY) : Prop :=
  ∃ (c s ne pd : Nat) (im : Nat → Nat) (E : Nat → Prop) (an : Prop) (st sp : Int32) (ms : rd_MS), rd_B c s ne pd im E an ms ∧ rd_XR c s ne pd im E an st sp ms u ∧ rd_YR c s ne pd im E an st sp ms v
end
section
/-! Y: the small methods -/
section
variable {f_cap f_size f_nent f_analysed f_pad f_changed f_status f_steps f_pc f_outCount f_depth : Int32} {a_img a_ent a_inS a_reg a_outs a_stack a_mem : Nat → Int32} {im m : Nat → Nat} {s : Nat} {E : Nat → Prop} {post : Int32 → Prop}
theorem yl_len {op : Nat} {x : Int32} (hx : x = nI op) (h : op ≤ 14) (hp : post (nI (rd_len op))) : wpY_len post (f_cap, nI s, f_nent, f_analysed, f_pad, f_changed, f_status, f_steps, f_pc, f_outCount, f_depth, a_img, a_ent, a_inS, a_reg, a_outs, a_stack, a_mem) x := by
  subst hx
  rcases rd_op15 h with e | e | e | e | e | e | e | e | e | e | e | e | e | e | e <;> subst e <;>
    repeat (first | exact br_t (by decide) hp | refine br_f (by decide) ?_ | exact hp)
theorem yl_get0 (hs : s ≤ 64) (hI : ∀ j, j < 64 → a_img j = nI (im j)) {i : Nat} (hi : i < s) {x : Int32} (hx : x = nI i) (hp : post (nI (im i))) : wpY_get post (f_cap, nI s, f_nent, f_analysed, f_pad, f_changed, f_status, f_steps, f_pc, f_outCount, f_depth, a_img, a_ent, a_inS, a_reg, a_outs, a_stack, a_mem) 0 x := by
  subst hx
  refine br_t rfl (br_f (rd_lt0 (by omega)) (pk_le s i (fun z => absurd z (by omega)) (fun _ => ⟨pk_in i 64 (by omega), ?_⟩)))
  rw [nI_clamp (by omega), hI i (by omega)]; exact hp
theorem yl_get1 {i : Nat} (hi : i < 256) {x : Int32} (hx : x = nI i) (hp : post (a_mem i)) : wpY_get post (f_cap, nI s, f_nent, f_analysed, f_pad, f_changed, f_status, f_steps, f_pc, f_outCount, f_depth, a_img, a_ent, a_inS, a_reg, a_outs, a_stack, a_mem) 1 x := by
  subst hx
  refine br_f (by decide) (br_f (rd_lt0 (by omega)) (pk_le 256 i (fun z => absurd z (by omega)) (fun _ => ⟨pk_in i 256 (by omega), ?_⟩)))
  rw [nI_clamp (by omega)]; exact hp
theorem yl_get1_any {i : Nat} (hi : i < 2 ^ 30) {x : Int32} (hx : x = nI i) (hp : ∀ r, post r) : wpY_get post (f_cap, nI s, f_nent, f_analysed, f_pad, f_changed, f_status, f_steps, f_pc, f_outCount, f_depth, a_img, a_ent, a_inS, a_reg, a_outs, a_stack, a_mem) 1 x := by
  subst hx
  exact br_f (by decide) (br_f (rd_lt0 (by omega)) (pk_le 256 i (fun _ => hp _) (fun _ => ⟨pk_in i 256 (by omega), hp _⟩)))
theorem yl_valid {w : Int32} {n p : Nat} (hn : n ≤ 256) (hpp : p < 2 ^ 30) (HG : ∀ i, i < n → ∀ x : Int32, x = nI i → ∀ post : Int32 → Prop, post (nI (m i)) → wpY_get post (f_cap, nI s, f_nent, f_analysed, f_pad, f_changed, f_status, f_steps, f_pc, f_outCount, f_depth, a_img, a_ent, a_inS, a_reg, a_outs, a_stack, a_mem) w x) (hb : ∀ j, m j < 256) (hp : post (rd_b (rd_ok m n p))) : wpY_valid post (f_cap, nI s, f_nent, f_analysed, f_pad, f_changed, f_status, f_steps, f_pc, f_outCount, f_depth, a_img, a_ent, a_inS, a_reg, a_outs, a_stack, a_mem) w (nI p) (nI n) := by
  have hl := rd_len_r (m p)
  have bp := hb p
  have b1 := hb (p + 1)
  have b2 := hb (p + 2)
  have b3 := hb (p + 3)
  have K134 : p < n → m p ≤ 14 → p + rd_len (m p) ≤ n → (rd_r1 (m p) → m (p + 1) ≤ 3) → (m p = 4 → m (p + 2) ≤ 3) → wY_valid_134 post w (nI p) (nI (m p)) f_cap (nI s) f_nent f_analysed f_pad f_changed f_status f_steps f_pc f_outCount f_depth a_img a_ent a_inS a_reg a_outs a_stack a_mem := by
    intro h1 h2 h3 h4 h5
    refine pk_eq (m p) 6 (fun e => ?_) (fun e => rd_pt hp ⟨h1, h2, h3, h4, h5, fun z => absurd z e⟩)
    have el : rd_len (m p) = 4 := by rw [e]; rfl
    refine HG (p + 3) (by omega) _ (nI_add p 3) _ ?_
    exact pk_le (m (p + 3)) 3 (fun z => rd_pt hp ⟨h1, h2, h3, h4, h5, fun _ => z⟩) (fun z => rd_pf hp fun y => absurd (y.2.2.2.2.2 e) (by omega))
  have K114 : p < n → m p ≤ 14 → p + rd_len (m p) ≤ n → (rd_r1 (m p) → m (p + 1) ≤ 3) → wY_valid_114 post w (nI p) (nI (m p)) f_cap (nI s) f_nent f_analysed f_pad f_changed f_status f_steps f_pc f_outCount f_depth a_img a_ent a_inS a_reg a_outs a_stack a_mem := by
    intro h1 h2 h3 h4
    refine pk_eq (m p) 4 (fun e => ?_) (fun e => K134 h1 h2 h3 h4 fun z => absurd z e)
    have el : rd_len (m p) = 3 := by rw [e]; rfl
    refine HG (p + 2) (by omega) _ (nI_add p 2) _ ?_
    exact pk_le (m (p + 2)) 3 (fun z => K134 h1 h2 h3 h4 fun _ => z) (fun z => rd_pf hp fun y => absurd (y.2.2.2.2.1 e) (by omega))
  have A1 : p < n → m p ≤ 14 → p + rd_len (m p) ≤ n → rd_r1 (m p) → wY_valid_88 post w (nI p) (nI (m p)) f_cap (nI s) f_nent f_analysed f_pad f_changed f_status f_steps f_pc f_outCount f_depth a_img a_ent a_inS a_reg a_outs a_stack a_mem := by
    intro h1 h2 h3 hr
    have h2l : 2 ≤ rd_len (m p) := by have := ((rd_r1_iff h2).mp hr).1; omega
    refine br_f (by decide) ?_
    refine HG (p + 1) (by omega) _ (nI_1 p) _ ?_
    exact pk_le (m (p + 1)) 3 (fun z => K114 h1 h2 h3 fun _ => z) (fun z => rd_pf hp fun y => absurd (y.2.2.2.1 hr) (by omega))
  have K60 : p < n → m p ≤ 14 → p + rd_len (m p) ≤ n → (m p < 2 ∨ 7 < m p) → wY_valid_60 post w (nI p) (nI (m p)) f_cap (nI s) f_nent f_analysed f_pad f_changed f_status f_steps f_pc f_outCount f_depth a_img a_ent a_inS a_reg a_outs a_stack a_mem := by
    intro h1 h2 h3 h7
    refine pk_eq (m p) 9 (fun e => A1 h1 h2 h3 (Or.inr (Or.inl e))) (fun e9 => ?_)
    refine pk_eq (m p) 10 (fun e => A1 h1 h2 h3 (Or.inr (Or.inr (Or.inl e)))) (fun e10 => ?_)
    refine pk_eq (m p) 13 (fun e => A1 h1 h2 h3 (Or.inr (Or.inr (Or.inr (Or.inl e))))) (fun e13 => ?_)
    refine pk_eq (m p) 14 (fun e => A1 h1 h2 h3 (Or.inr (Or.inr (Or.inr (Or.inr e))))) (fun e14 => ?_)
    refine br_t rfl (K114 h1 h2 h3 fun z => ?_)
    unfold rd_r1 at z; omega
  refine br_f (rd_lt0 (by omega)) (pk_lt p n (fun h1 => ?_) (fun h1 => rd_pf hp fun z => absurd z.1 (by omega)))
  refine HG p h1 _ rfl _ ?_
  refine br_f (rd_lt0 (by omega)) (pk_le (m p) 14 (fun h2 => ?_) (fun h2 => rd_pf hp fun z => absurd z.2.1 (by omega)))
  refine yl_len rfl h2 ?_
  refine pk_le (p + rd_len (m p)) n (fun h3 => ?_) (fun h3 => rd_pf hp fun z => absurd z.2.2.1 (by omega)) (nI_add _ _) rfl
  exact pk_lt (m p) 2 (fun z => K60 h1 h2 h3 (Or.inl z)) (fun z => pk_le (m p) 7 (fun y => A1 h1 h2 h3 (Or.inl ⟨z, y⟩)) (fun y => K60 h1 h2 h3 (Or.inr y)))
theorem yl_vS {p : Nat} (hps : p < s) (hs : s ≤ 64) (hI : ∀ j, j < 64 → a_img j = nI (im j)) (hb : ∀ j, im j < 256) (hp : post (rd_b (rd_nz a_inS p ∧ rd_ok im s p))) : wpY_vS post (f_cap, nI s, f_nent, f_analysed, f_pad, f_changed, f_status, f_steps, f_pc, f_outCount, f_depth, a_img, a_ent, a_inS, a_reg, a_outs, a_stack, a_mem) (nI p) := by
  refine br_f (rd_lt0 (by omega)) (pk_le s p (fun z => absurd z (by omega)) (fun _ => ⟨pk_in p 64 (by omega), rd_br0 (by omega) (fun z => rd_pf hp fun y => y.1 z) (fun z => ?_)⟩))
  refine yl_valid (m := im) (by omega) (by omega) (fun i hi x hx post hp => yl_get0 hs hI hi hx hp) hb ?_
  exact rd_brb (fun h => rd_pf hp fun y => h y.2) (fun h => rd_pt hp ⟨z, h⟩)
theorem rd_tl_pos {p : Nat} : 0 < rd_tl im s p ↔ (rd_tb im s p ∧ 1 ≤ im (p - 2)) := by
  constructor
  · intro h
    have := rd_tl_le h
    exact ⟨this.1, by omega⟩
  · rintro ⟨h1, h2⟩
    have e : rd_tl im s p = im (p - 2) := rd_if_t h1
    omega
theorem yl_bd {p : Nat} (hps : p < s) (hs : s ≤ 64) (hI : ∀ j, j < 64 → a_img j = nI (im j)) (hb : ∀ j, im j < 256) (hp : post (rd_b ((rd_nz a_inS p ∧ rd_ok im s p) ∧ 0 < rd_tl im s p))) : wpY_bounded post (f_cap, nI s, f_nent, f_analysed, f_pad, f_changed, f_status, f_steps, f_pc, f_outCount, f_depth, a_img, a_ent, a_inS, a_reg, a_outs, a_stack, a_mem) (nI p) := by
  unfold wpY_bounded
  refine yl_vS hps hs hI hb ?_
  refine rd_brb (fun h => rd_pf hp fun y => h y.1) (fun ho => ?_)
  have hle := ho.2.2.2.1
  have bp := hb p
  have F : (¬ (rd_tb im s p ∧ 1 ≤ im (p - 2))) → post 0 := fun h => rd_pf hp fun y => h (rd_tl_pos.mp y.2)
  refine ⟨pk_in p 64 (by omega), pk_eq (im p) 13 (fun e => ?_) (fun e => F fun z => e z.1.1) (rd_rd hI p (by omega) (by omega)) rfl⟩
  have el : rd_len (im p) = 3 := by rw [e]; rfl
  refine pk_le 4 p (fun h4 => ?_) (fun h4 => F fun z => absurd z.1.2.1 (by omega))
  have s4 : nI p - 4 = nI (p - 4) := pk_sub h4
  have s3 : nI p - 3 = nI (p - 3) := pk_sub (b := 3) (by omega)
  have s2 : nI p - 2 = nI (p - 2) := pk_sub (b := 2) (by omega)
  have b4 := hb (p - 4)
  have b3 := hb (p - 3)
  have b2 := hb (p - 2)
  have c1 := hb (p + 1)
  have c2 := hb (p + 2)
  refine ⟨pk_in (p - 4) 64 (by omega) s4, pk_eq (im (p - 4)) 10 (fun e10 => ?_) (fun e10 => F fun z => e10 z.1.2.2.1) (rd_rd hI (p - 4) (by omega) (by omega) s4) rfl⟩
  refine ⟨pk_in (p - 3) 64 (by omega) s3, pk_in (p + 1) 64 (by omega) (nI_1 p), pk_eq (im (p - 3)) (im (p + 1)) (fun e3 => ?_) (fun e3 => F fun z => e3 z.1.2.2.2.1) (rd_rd hI (p - 3) (by omega) (by omega) s3) (rd_rd hI (p + 1) (by omega) (by omega) (nI_1 p))⟩
  refine ⟨pk_in (p - 2) 64 (by omega) s2, nm_r (rd_rd hI (p - 2) (by omega) (by omega) s2) ?_⟩
  refine pk_lt (im (p - 2)) 1 (fun h1 => F fun z => absurd z.2 (by omega)) (fun h1 => ?_)
  refine pk_lt 16 (im (p - 2)) (fun h16 => F fun z => absurd z.1.2.2.2.2.1 (by omega)) (fun h16 => ?_)
  refine ⟨pk_in (p + 2) 64 (by omega) (nI_add p 2), pk_lt s (im (p + 2) + im (p - 2)) (fun hz => F fun z => absurd z.1.2.2.2.2.2 (by omega)) (fun hz => rd_pt hp ⟨ho, rd_tl_pos.mpr ⟨⟨e, h4, e10, e3, h16, hz⟩, h1⟩⟩) rfl ?_⟩
  rw [rd_rd hI (p + 2) (by omega) (by omega) (x := nI p + 2) (nI_add p 2), nI_add]
end
end
section
/-! Y: the reached set, and analyse -/
section
variable {f_cap f_size f_nent f_analysed f_pad f_changed f_status f_steps f_pc f_outCount f_depth : Int32} {a_img a_ent a_inS a_reg a_outs a_stack a_mem : Nat → Int32} {im : Nat → Nat} {s : Nat} {E R0 : Nat → Prop} {post : SY → Prop}
/-- what the flag says of a pass that began at R0 -/
def rd_Ch (s : Nat) (R0 : Nat → Prop) (c : Int32) (S : Nat → Int32) : Prop :=
  (c = 0 → ∀ q, q < s → rd_nz S q → R0 q) ∧ (¬ c = 0 → ∃ q, q < s ∧ rd_nz S q ∧ ¬ R0 q) ∧ (∀ q, q < s → R0 q → rd_nz S q)
theorem yl_mark {a : Nat} {x : Int32} (hx : x = nI a) (hs : s ≤ 64) (ha : a < 2 ^ 31) (hp : ∀ c S, (∀ q, q < s → (rd_nz S q ↔ (rd_nz a_inS q ∨ q = a))) → (rd_Ch s R0 f_changed a_inS → rd_Ch s R0 c S) → post (f_cap, nI s, f_nent, f_analysed, f_pad, c, f_status, f_steps, f_pc, f_outCount, f_depth, a_img, a_ent, S, a_reg, a_outs, a_stack, a_mem)) : wpY_mark post (f_cap, nI s, f_nent, f_analysed, f_pad, f_changed, f_status, f_steps, f_pc, f_outCount, f_depth, a_img, a_ent, a_inS, a_reg, a_outs, a_stack, a_mem) x := by
  subst hx
  refine br_f (rd_lt0 (by omega)) (pk_le s a (fun h => hp _ _ (fun q hq => ⟨Or.inl, fun z => z.resolve_right (by omega)⟩) id) (fun h => ⟨pk_in a 64 (by omega), rd_br0 (by omega) (fun z => ⟨pk_in a 64 (by omega), nm_r (e' := upd a_inS a 1) ?_ (hp _ _ (fun q _ => rd_nz_u) fun hC => ?_)⟩) (fun z => hp _ _ (fun q hq => ⟨Or.inl, fun y => y.elim id fun e => by rw [e]; exact z⟩) id)⟩))
  · rw [rd_nb1, nI_clamp ha]
  · refine ⟨fun e => absurd e (by decide), fun _ => ⟨a, h, rd_nz_u.mpr (Or.inr rfl), fun hr => hC.2.2 a h hr z⟩, fun q hq hr => rd_nz_u.mpr (Or.inl (hC.2.2 q hq hr))⟩
theorem yl_succ {p : Nat} (hs : s ≤ 64) (hI : ∀ j, j < 64 → a_img j = nI (im j)) (hb : ∀ j, im j < 256) (hz : rd_nz a_inS p) (ho : rd_ok im s p) (hp : ∀ c S, (∀ q, q < s → (rd_nz S q ↔ (rd_nz a_inS q ∨ rd_sc im s p q))) → (rd_Ch s R0 f_changed a_inS → rd_Ch s R0 c S) → post (f_cap, nI s, f_nent, f_analysed, f_pad, c, f_status, f_steps, f_pc, f_outCount, f_depth, a_img, a_ent, S, a_reg, a_outs, a_stack, a_mem)) : wpY_addSucc post (f_cap, nI s, f_nent, f_analysed, f_pad, f_changed, f_status, f_steps, f_pc, f_outCount, f_depth, a_img, a_ent, a_inS, a_reg, a_outs, a_stack, a_mem) (nI p) := by
  have hps := ho.1
  have hle := ho.2.2.1
  have hl := rd_len_r (im p)
  have b1 := hb (p + 1)
  have b2 := hb (p + 2)
  have b3 := hb (p + 3)
  have H0 : (∀ q, ¬ rd_sc im s p q) → post (f_cap, nI s, f_nent, f_analysed, f_pad, f_changed, f_status, f_steps, f_pc, f_outCount, f_depth, a_img, a_ent, a_inS, a_reg, a_outs, a_stack, a_mem) := fun h => hp _ _ (fun q _ => ⟨Or.inl, fun z => z.resolve_right (h q)⟩) id
  have H2 : rd_len (im p) = 4 → (∀ q, rd_sc im s p q ↔ (q = im (p + 3) ∨ q = p + 4)) → wY_addSucc_81 post (nI p) f_cap (nI s) f_nent f_analysed f_pad f_changed f_status f_steps f_pc f_outCount f_depth a_img a_ent a_inS a_reg a_outs a_stack a_mem := by
    intro h4 h
    refine ⟨pk_in (p + 3) 64 (by omega) (nI_add p 3), ?_⟩
    refine yl_mark (R0 := R0) (rd_rd hI (p + 3) (by omega) (by omega) (nI_add p 3)) hs (by omega) (fun c S hS hC => ?_)
    exact yl_mark (R0 := R0) (nI_add p 4) hs (by omega) fun c2 S2 hS2 hC2 => hp c2 S2 (fun q hq => by rw [hS2 q hq, hS q hq, h q, or_assoc]) (fun z => hC2 (hC z))
  refine ⟨pk_in p 64 (by omega), nm_r (rd_rd hI p (by omega) (by omega)) ?_⟩
  rcases rd_op15 ho.2.1 with e | e | e | e | e | e | e | e | e | e | e | e | e | e | e
  all_goals (repeat (first | refine br_t (by rw [e]; decide) ?_ | refine br_f (by rw [e]; decide) ?_))
  · exact H0 fun q => rd_sc_n (by omega)
  · exact yl_mark (R0 := R0) (nI_add p 1) hs (by omega) fun c S hS hC => hp c S (fun q hq => by rw [hS q hq, rd_sc_q (by omega), e]; exact Iff.rfl) hC
  · exact yl_mark (R0 := R0) (nI_add p 3) hs (by omega) fun c S hS hC => hp c S (fun q hq => by rw [hS q hq, rd_sc_q (by omega), e]; exact Iff.rfl) hC
  · exact yl_mark (R0 := R0) (nI_add p 3) hs (by omega) fun c S hS hC => hp c S (fun q hq => by rw [hS q hq, rd_sc_q (by omega), e]; exact Iff.rfl) hC
  · exact yl_mark (R0 := R0) (nI_add p 3) hs (by omega) fun c S hS hC => hp c S (fun q hq => by rw [hS q hq, rd_sc_q (by omega), e]; exact Iff.rfl) hC
  · exact yl_mark (R0 := R0) (nI_add p 3) hs (by omega) fun c S hS hC => hp c S (fun q hq => by rw [hS q hq, rd_sc_q (by omega), e]; exact Iff.rfl) hC
  · exact yl_mark (R0 := R0) (nI_add p 4) hs (by omega) fun c S hS hC => hp c S (fun q hq => by rw [hS q hq, rd_sc_q (by omega), e]; exact Iff.rfl) hC
  · exact yl_mark (R0 := R0) (nI_add p 2) hs (by omega) fun c S hS hC => hp c S (fun q hq => by rw [hS q hq, rd_sc_q (by omega), e]; exact Iff.rfl) hC
  · have el : rd_len (im p) = 2 := by rw [e]; rfl
    refine ⟨pk_in (p + 1) 64 (by omega) (nI_1 p), ?_⟩
    exact yl_mark (R0 := R0) (rd_rd hI (p + 1) (by omega) (by omega) (nI_1 p)) hs (by omega) fun c S hS hC => hp c S (fun q hq => by rw [hS q hq, rd_sc_8 e]) hC
  · have el : rd_len (im p) = 4 := by rw [e]; rfl
    exact H2 el fun q => rd_sc_9 (by omega)
  · have el : rd_len (im p) = 4 := by rw [e]; rfl
    exact H2 el fun q => rd_sc_9 (by omega)
  · have el : rd_len (im p) = 2 := by rw [e]; rfl
    refine ⟨pk_in (p + 1) 64 (by omega) (nI_1 p), ?_⟩
    refine yl_mark (R0 := R0) (rd_rd hI (p + 1) (by omega) (by omega) (nI_1 p)) hs (by omega) fun c S hS hC => ?_
    exact yl_mark (R0 := R0) (nI_add p 2) hs (by omega) fun c2 S2 hS2 hC2 => hp c2 S2 (fun q hq => by rw [hS2 q hq, hS q hq, rd_sc_11 e, or_assoc]) (fun z => hC2 (hC z))
  · exact H0 fun q => rd_sc_n (by omega)
  · refine yl_bd hps hs hI hb ?_
    refine rd_brb (fun h => H0 fun q hq => ?_) (fun h => ?_)
    · obtain ⟨j, hj, -⟩ := (rd_sc_13 e).mp hq
      exact h ⟨⟨hz, ho⟩, by omega⟩
    · have ht := rd_tl_le h.2
      have el : rd_len (im p) = 3 := by rw [e]; rfl
      have h4 := ht.1.2.1
      have s2 : nI p - 2 = nI (p - 2) := pk_sub (b := 2) (by omega)
      refine ⟨pk_in (p + 2) 64 (by omega) (nI_add p 2), nm_r (rd_rd hI (p + 2) (by omega) (by omega) (nI_add p 2)) ⟨pk_in (p - 2) 64 (by omega) s2, nm_r (e' := nI (rd_tl im s p)) ?_ ?_⟩⟩
      · rw [rd_rd hI (p - 2) (by omega) (by omega) s2, ht.2.1]
      refine pk_loop (fun n i (σ : Int32 × (Nat → Int32)) => wY_addSucc_137 post (nI (im (p + 2))) (nI (rd_tl im s p)) n (nI i) f_cap (nI s) f_nent f_analysed f_pad σ.1 f_status f_steps f_pc f_outCount f_depth a_img a_ent σ.2 a_reg a_outs a_stack a_mem)
        (fun i σ => (∀ q, q < s → (rd_nz σ.2 q ↔ (rd_nz a_inS q ∨ ∃ j, j < i ∧ q = im (im (p + 2) + j)))) ∧ (rd_Ch s R0 f_changed a_inS → rd_Ch s R0 σ.1 σ.2)) (rd_tl im s p) 0 (f_changed, a_inS) (by omega) ?_ ?_ ?_
      · exact ⟨fun q _ => ⟨Or.inl, fun z => z.elim id fun ⟨j, hj, _⟩ => absurd hj (by omega)⟩, id⟩
      · rintro n ⟨c, S⟩ ⟨hS, hC⟩
        exact pk_le (rd_tl im s p) (rd_tl im s p) (fun _ => hp c S (fun q hq => by rw [hS q hq, rd_sc_13 e]) hC) (fun z => absurd z (by omega))
      · rintro n i ⟨c, S⟩ hi ⟨hS, hC⟩ hn
        have ci := hb (im (p + 2) + i)
        refine pk_le (rd_tl im s p) i (fun z => absurd z (by omega)) (fun _ => ⟨pk_in (im (p + 2) + i) 64 (by omega) (nI_add _ _), ?_⟩)
        refine yl_mark (R0 := R0) (rd_rd hI (im (p + 2) + i) (by omega) (by omega) (nI_add _ _)) hs (by omega) (fun c2 S2 hS2 hC2 => nm_r (nI_1 i) (hn (c2, S2) ⟨fun q hq => ?_, fun z => hC2 (hC z)⟩))
        show rd_nz S2 q ↔ _
        rw [hS2 q hq]
        have h1 := hS q hq
        dsimp only at h1
        rw [h1]
        constructor
        · rintro ((z | ⟨j, hj, e⟩) | z)
          · exact Or.inl z
          · exact Or.inr ⟨j, by omega, e⟩
          · exact Or.inr ⟨i, by omega, z⟩
        · rintro (z | ⟨j, hj, e⟩)
          · exact Or.inl (Or.inl z)
          · by_cases ej : j = i
            · exact Or.inr (by rw [e, ej])
            · exact Or.inl (Or.inr ⟨j, by omega, e⟩)
  · exact H0 fun q => rd_sc_n (by omega)
theorem yl_analyse {post : Int32 → SY → Prop} {ne pd : Nat} {en : Nat → Nat} (h0 : 0 < s) (hne : 0 < ne) (hne8 : ne ≤ 8) (hpd : pd ≤ 3) (hs : s ≤ 64) (hI : ∀ j, j < 64 → a_img j = nI (im j)) (hb : ∀ j, im j < 256) (hEn : ∀ e, e < ne → a_ent e = nI (en e) ∧ en e < s) (hEE : ∀ q, E q ↔ ∃ e, e < ne ∧ en e = q)
    (hp : ∀ c S, (∀ q, q < s → (rd_nz S q ↔ rd_LR im s E q)) → post 1 (f_cap, nI s, nI ne, 1, nI pd, c, f_status, f_steps, f_pc, f_outCount, f_depth, a_img, a_ent, S, a_reg, a_outs, a_stack, a_mem)) : wpY_analyse post (f_cap, nI s, nI ne, f_analysed, f_pad, f_changed, f_status, f_steps, f_pc, f_outCount, f_depth, a_img, a_ent, a_inS, a_reg, a_outs, a_stack, a_mem) (nI pd) := by
  refine br_f (rd_lt0 (by omega)) (pk_lt 3 pd (fun z => absurd z (by omega)) (fun _ => pk_eq s 0 (fun z => absurd z (by omega)) (fun _ => pk_eq ne 0 (fun z => absurd z (by omega)) (fun _ => ?_))))
  refine pk_loop (fun n i S => wY_analyse_32 post f_cap (nI s) (nI ne) f_analysed (nI pd) f_changed f_status f_steps f_pc f_outCount f_depth n (nI i) a_img a_ent S a_reg a_outs a_stack a_mem) (fun i S => ∀ q, q < i → S q = 0) 64 0 a_inS (by omega) (fun q hq => absurd hq (by omega)) ?_ ?_
  · intro n S hS
    refine pk_le 64 64 (fun _ => ?_) (fun z => absurd z (by omega))
    refine pk_loop (fun n i S => wY_analyse_53 post f_cap (nI s) (nI ne) f_analysed (nI pd) f_changed f_status f_steps f_pc f_outCount f_depth n (nI i) a_img a_ent S a_reg a_outs a_stack a_mem) (fun i S => ∀ q, q < 64 → (rd_nz S q ↔ ∃ e, e < i ∧ en e = q)) ne 0 S (by omega) ?_ ?_ ?_
    · exact fun q hq => ⟨fun z => absurd (hS q hq) z, fun ⟨e, he, _⟩ => absurd he (by omega)⟩
    · intro n S hS
      refine pk_le ne ne (fun _ => ?_) (fun z => absurd z (by omega))
      refine pk_loop (fun n k (σ : Int32 × (Nat → Int32)) => wY_analyse_81 post n (nI k) f_cap (nI s) (nI ne) f_analysed (nI pd) σ.1 f_status f_steps f_pc f_outCount f_depth a_img a_ent σ.2 a_reg a_outs a_stack a_mem)
        (fun k σ => (∀ q, q < s → E q → rd_nz σ.2 q) ∧ (∀ q, q < s → rd_nz σ.2 q → rd_LR im s E q) ∧ k ≤ rd_cnt (rd_nz σ.2) s) 70 0 (f_changed, S) (by omega) ?_ ?_ ?_
      · exact ⟨fun q hq he => (hS q (by omega)).mpr ((hEE q).mp he), fun q hq hr => rd_LR_e hq ((hEE q).mpr ((hS q (by omega)).mp hr)), Nat.zero_le _⟩
      · rintro n ⟨c, S⟩ ⟨-, -, h⟩
        have := rd_cnt_le (rd_nz S) s
        dsimp only at h
        omega
      · rintro n k ⟨c, S⟩ hk ⟨hJ1, hJ2, hJ3⟩ hn
        dsimp only at hJ1 hJ2 hJ3
        have hks := rd_cnt_le (rd_nz S) s
        refine pk_le 70 k (fun z => absurd z (by omega)) (fun _ => ?_)
        refine pk_loop (fun n' i (σ : Int32 × (Nat → Int32)) => wY_analyse_94 post (wY_analyse_81 post n) (nI k) n' (nI i) f_cap (nI s) (nI ne) f_analysed (nI pd) σ.1 f_status f_steps f_pc f_outCount f_depth a_img a_ent σ.2 a_reg a_outs a_stack a_mem)
          (fun i σ => rd_Ps im s E (rd_nz S) (rd_nz σ.2) i ∧ rd_Ch s (rd_nz S) σ.1 σ.2) s 0 (0, S) (by omega) ?_ ?_ ?_
        · exact ⟨⟨fun _ _ h => h, hJ2, fun p' hp' => absurd hp' (by omega)⟩, fun _ _ _ h => h, fun z => absurd rfl z, fun _ _ h => h⟩
        · rintro n' ⟨c', S'⟩ ⟨hP, hC⟩
          dsimp only at hP hC
          refine pk_le s s (fun _ => br_c (fun e => hp c' S' fun q hq => ?_) (fun e => nm_r (nI_1 k) (hn (c', S') ⟨fun q hq he => hP.1 q hq (hJ1 q hq he), hP.2.1, ?_⟩))) (fun z => absurd z (by omega))
          · refine ⟨hP.2.1 q hq, ?_⟩
            rcases rd_Ps_end hJ1 hP with h | ⟨x, hx, hx1, hx2⟩
            · exact h q hq
            · exact absurd (hC.1 e x hx hx1) hx2
          · obtain ⟨x, hx, hx1, hx2⟩ := hC.2.1 e
            have := rd_cnt_lt hP.1 x hx hx2 hx1
            show k + 1 ≤ rd_cnt (rd_nz S') s
            omega
        · rintro n' i ⟨c', S'⟩ hi ⟨hP, hC⟩ hn'
          dsimp only at hP hC
          refine pk_le s i (fun z => absurd z (by omega)) (fun _ => ?_)
          refine yl_vS hi hs hI hb ?_
          refine rd_brb (fun h => nm_r (nI_1 i) (hn' (c', S') ⟨rd_Ps_skip hP fun h0 ho => h ⟨hP.1 i hi h0, ho⟩, hC⟩)) (fun h => ?_)
          exact yl_succ (R0 := rd_nz S) hs hI hb h.1 h.2 fun c2 S2 hS2 hC2 => nm_r (nI_1 i) (hn' (c2, S2) ⟨rd_Ps_add hP h.1 h.2 hS2, hC2 hC⟩)
    · intro n i S hi hS hn
      obtain ⟨h1, h2⟩ := hEn i hi
      have h1' : a_ent (nI i).toNatClampNeg = nI (en i) := by rw [nI_clamp (by omega)]; exact h1
      refine pk_le ne i (fun z => absurd z (by omega)) (fun _ => ⟨pk_in i 8 (by omega), pk_in (en i) 64 (by omega) h1', nm_r (e' := upd S (en i) 1) ?_ (nm_r (nI_1 i) (hn _ fun q hq => ?_))⟩)
      · rw [h1', nI_clamp (by omega), rd_nb1]
      · rw [rd_nz_u, hS q hq]
        constructor
        · rintro (⟨e, he, h⟩ | h)
          · exact ⟨e, by omega, h⟩
          · exact ⟨i, by omega, h.symm⟩
        · rintro ⟨e, he, h⟩
          by_cases ee : e = i
          · exact Or.inr (by rw [← h, ee])
          · exact Or.inl ⟨e, by omega, h⟩
  · intro n i S hi hS hn
    refine pk_le 64 i (fun z => absurd z (by omega)) (fun _ => ⟨pk_in i 64 (by omega), nm_r (e' := upd S i 0) ?_ (nm_r (nI_1 i) (hn _ fun q hq => ?_))⟩)
    · rw [nI_clamp (by omega), rd_nb0]
    · by_cases e : q = i
      · subst e; exact pk_us
      · rw [pk_un e]; exact hS q (by omega)
end
end
section
/-! Y: what it answers of an analysis -/
section
variable {f_cap f_size f_nent f_analysed f_pad f_changed f_status f_steps f_pc f_outCount f_depth : Int32} {a_img a_ent a_inS a_reg a_outs a_stack a_mem : Nat → Int32} {im : Nat → Nat} {s : Nat} {E : Nat → Prop} {post : Int32 → Prop}
theorem yr_vS {p : Nat} (hps : p < s) (hs : s ≤ 64) (hI : ∀ j, j < 64 → a_img j = nI (im j)) (hb : ∀ j, im j < 256) (hS : ∀ q, q < s → (rd_nz a_inS q ↔ rd_LR im s E q)) (hp : post (rd_b (rd_st im s E p))) : wpY_vS post (f_cap, nI s, f_nent, f_analysed, f_pad, f_changed, f_status, f_steps, f_pc, f_outCount, f_depth, a_img, a_ent, a_inS, a_reg, a_outs, a_stack, a_mem) (nI p) := by
  refine yl_vS hps hs hI hb ?_
  rw [rd_bc (Q := rd_st im s E p) ⟨fun h => ⟨(hS p hps).mp h.1, h.2⟩, fun h => ⟨(hS p hps).mpr h.1, h.2⟩⟩]; exact hp
theorem yr_bd {p : Nat} (hps : p < s) (hs : s ≤ 64) (hI : ∀ j, j < 64 → a_img j = nI (im j)) (hb : ∀ j, im j < 256) (hS : ∀ q, q < s → (rd_nz a_inS q ↔ rd_LR im s E q)) (hp : post (rd_b (rd_st im s E p ∧ 0 < rd_tl im s p))) : wpY_bounded post (f_cap, nI s, f_nent, f_analysed, f_pad, f_changed, f_status, f_steps, f_pc, f_outCount, f_depth, a_img, a_ent, a_inS, a_reg, a_outs, a_stack, a_mem) (nI p) := by
  refine yl_bd hps hs hI hb ?_
  rw [rd_bc (Q := rd_st im s E p ∧ 0 < rd_tl im s p) ⟨fun h => ⟨⟨(hS p hps).mp h.1.1, h.1.2⟩, h.2⟩, fun h => ⟨⟨(hS p hps).mpr h.1.1, h.1.2⟩, h.2⟩⟩]; exact hp
theorem yr_tab {q : Nat} (hq : q < 2 ^ 30) (hs : s ≤ 64) (hI : ∀ j, j < 64 → a_img j = nI (im j)) (hb : ∀ j, im j < 256) (hS : ∀ q, q < s → (rd_nz a_inS q ↔ rd_LR im s E q)) (hp : post (rd_b (rd_tab im s E s q))) : wpY_inTable post (f_cap, nI s, f_nent, f_analysed, f_pad, f_changed, f_status, f_steps, f_pc, f_outCount, f_depth, a_img, a_ent, a_inS, a_reg, a_outs, a_stack, a_mem) (nI q) := by
  refine pk_loop (fun n i (_ : Unit) => wY_inTable_2 post (nI q) f_cap (nI s) f_nent f_analysed f_pad f_changed f_status f_steps f_pc f_outCount f_depth a_img a_ent a_inS a_reg a_outs a_stack a_mem n (nI i)) (fun i _ => ¬ rd_tab im s E i q) s 0 () (by omega) rd_tab_0 ?_ ?_
  · intro n _ h
    exact pk_le s s (fun _ => rd_pf hp h) (fun z => absurd z (by omega))
  · intro n i _ hi h hn
    have N : ¬ (rd_st im s E i ∧ im (i + 2) ≤ q ∧ q < im (i + 2) + rd_tl im s i) → wY_inTable_2 post (nI q) f_cap (nI s) f_nent f_analysed f_pad f_changed f_status f_steps f_pc f_outCount f_depth a_img a_ent a_inS a_reg a_outs a_stack a_mem n (nI (i + 1)) := fun z => hn () fun y => (rd_tab_s.mp y).elim h z
    refine pk_le s i (fun z => absurd z (by omega)) (fun _ => ?_)
    refine yr_bd hi hs hI hb hS ?_
    refine rd_brb (fun z => nm_r (nI_1 i) (N fun y => z ⟨y.1, by omega⟩)) (fun z => ?_)
    have ht := rd_tl_le z.2
    have hle := z.1.2.2.2.1
    have el : rd_len (im i) = 3 := by rw [ht.1.1]; rfl
    have h4 := ht.1.2.1
    have c2 := hb (i + 2)
    have s2 : nI i - 2 = nI (i - 2) := pk_sub (b := 2) (by omega)
    refine ⟨pk_in (i + 2) 64 (by omega) (nI_add i 2), nm_r (rd_rd hI (i + 2) (by omega) (by omega) (nI_add i 2)) ⟨pk_in (i - 2) 64 (by omega) s2, nm_r (e' := nI (rd_tl im s i)) ?_ ?_⟩⟩
    · rw [rd_rd hI (i - 2) (by omega) (by omega) s2, ht.2.1]
    refine pk_lt q (im (i + 2)) (fun y => nm_r (nI_1 i) (N (by omega))) (fun y => pk_le (im (i + 2) + rd_tl im s i) q (fun y2 => nm_r (nI_1 i) (N (by omega))) (fun y2 => rd_pt hp ⟨i, hi, z.1, y, y2⟩) (nI_add _ _) rfl)
theorem rd_m1 {q : Nat} (hq : q < 2 ^ 31) : ¬ (-1 : Int32) = nI q := by
  intro h
  have h2 := congrArg Int32.toInt h
  rw [nI_toInt hq] at h2
  have h3 : (-1 : Int32).toInt = -1 := by decide
  omega
theorem yr_slot {q : Nat} (hq : q < 2 ^ 30) (hs : s ≤ 64) (hI : ∀ j, j < 64 → a_img j = nI (im j)) (hb : ∀ j, im j < 256) (hS : ∀ q, q < s → (rd_nz a_inS q ↔ rd_LR im s E q)) (hp : post (rd_b (rd_slot im s E s q))) : wpY_isSlot post (f_cap, nI s, f_nent, f_analysed, f_pad, f_changed, f_status, f_steps, f_pc, f_outCount, f_depth, a_img, a_ent, a_inS, a_reg, a_outs, a_stack, a_mem) (nI q) := by
  refine pk_loop (fun n i (_ : Unit) => wY_isSlot_2 post (nI q) f_cap (nI s) f_nent f_analysed f_pad f_changed f_status f_steps f_pc f_outCount f_depth a_img a_ent a_inS a_reg a_outs a_stack a_mem n (nI i)) (fun i _ => ¬ rd_slot im s E i q) s 0 () (by omega) rd_slot_0 ?_ ?_
  · intro n _ h
    exact pk_le s s (fun _ => rd_pf hp h) (fun z => absurd z (by omega))
  · intro n i _ hi h hn
    have N : ¬ (rd_st im s E i ∧ 0 < rd_slo (im i) ∧ q = i + rd_slo (im i)) → wY_isSlot_2 post (nI q) f_cap (nI s) f_nent f_analysed f_pad f_changed f_status f_steps f_pc f_outCount f_depth a_img a_ent a_inS a_reg a_outs a_stack a_mem n (nI (i + 1)) := fun z => hn () fun y => (rd_slot_s.mp y).elim h z
    refine pk_le s i (fun z => absurd z (by omega)) (fun _ => ?_)
    refine yr_vS hi hs hI hb hS ?_
    refine rd_brb (fun z => nm_r (nI_1 i) (N fun y => z y.1)) (fun z => ⟨pk_in i 64 (by omega), nm_r (rd_rd hI i (by omega) (by omega)) ?_⟩)
    have K : ∀ t, 0 < t → t ≤ 3 → rd_slo (im i) = t → wY_isSlot_87 post (wY_isSlot_2 post (nI q) f_cap (nI s) f_nent f_analysed f_pad f_changed f_status f_steps f_pc f_outCount f_depth a_img a_ent a_inS a_reg a_outs a_stack a_mem n) (nI q) (nI i) (nI (i + t)) f_cap (nI s) f_nent f_analysed f_pad f_changed f_status f_steps f_pc f_outCount f_depth a_img a_ent a_inS a_reg a_outs a_stack a_mem := by
      intro t ht0 ht3 e
      exact pk_eq (i + t) q (fun y => rd_pt hp ⟨i, hi, z, by omega, by omega⟩) (fun y => nm_r (nI_1 i) (N (by omega)))
    have K0 : rd_slo (im i) = 0 → wY_isSlot_87 post (wY_isSlot_2 post (nI q) f_cap (nI s) f_nent f_analysed f_pad f_changed f_status f_steps f_pc f_outCount f_depth a_img a_ent a_inS a_reg a_outs a_stack a_mem n) (nI q) (nI i) (-1) f_cap (nI s) f_nent f_analysed f_pad f_changed f_status f_steps f_pc f_outCount f_depth a_img a_ent a_inS a_reg a_outs a_stack a_mem := fun e => br_f (rd_m1 (by omega)) (nm_r (nI_1 i) (N (by omega)))
    rcases rd_op15 z.2.2.1 with e | e | e | e | e | e | e | e | e | e | e | e | e | e | e
    all_goals (repeat (first | refine br_t (by rw [e]; decide) ?_ | refine br_f (by rw [e]; decide) ?_ | refine nm_r (nI_add i 2) ?_ | refine nm_r (nI_add i 1) ?_ | refine nm_r (nI_add i 3) ?_))
    · exact K0 (by rw [e]; rfl)
    · exact K0 (by rw [e]; rfl)
    · exact K0 (by rw [e]; rfl)
    · exact K 2 (by omega) (by omega) (by rw [e]; rfl)
    · exact K0 (by rw [e]; rfl)
    · exact K0 (by rw [e]; rfl)
    · exact K 2 (by omega) (by omega) (by rw [e]; rfl)
    · exact K0 (by rw [e]; rfl)
    · exact K 1 (by omega) (by omega) (by rw [e]; rfl)
    · exact K 3 (by omega) (by omega) (by rw [e]; rfl)
    · exact K 3 (by omega) (by omega) (by rw [e]; rfl)
    · exact K 1 (by omega) (by omega) (by rw [e]; rfl)
    · exact K0 (by rw [e]; rfl)
    · exact K 2 (by omega) (by omega) (by rw [e]; rfl)
    · exact K0 (by rw [e]; rfl)
theorem yr_sym {q : Nat} (hq : q < s) (hs : s ≤ 64) (hI : ∀ j, j < 64 → a_img j = nI (im j)) (hb : ∀ j, im j < 256) (hS : ∀ q, q < s → (rd_nz a_inS q ↔ rd_LR im s E q)) (hp : post (rd_b (rd_sym im s E s q))) : wpY_sym post (f_cap, nI s, f_nent, f_analysed, f_pad, f_changed, f_status, f_steps, f_pc, f_outCount, f_depth, a_img, a_ent, a_inS, a_reg, a_outs, a_stack, a_mem) (nI q) := by
  have bq := hb q
  refine ⟨pk_in q 64 (by omega), pk_le s (im q) (fun h => rd_pf hp fun z => absurd z.1 (by omega)) (fun h => ?_) rfl (rd_rd hI q (by omega) (by omega))⟩
  refine yr_slot (by omega) hs hI hb hS ?_
  refine rd_brb (fun h1 => ?_) (fun h1 => rd_pt hp ⟨h, Or.inl h1⟩)
  refine yr_tab (by omega) hs hI hb hS ?_
  exact rd_brb (fun h2 => rd_pf hp fun z => z.2.elim h1 h2) (fun h2 => rd_pt hp ⟨h, Or.inr h2⟩)
theorem yr_cls {q : Nat} (hq : q < s) (hs : s ≤ 64) (hI : ∀ j, j < 64 → a_img j = nI (im j)) (hb : ∀ j, im j < 256) (hS : ∀ q, q < s → (rd_nz a_inS q ↔ rd_LR im s E q)) (hp : post (rd_cls im s E q)) : wpY_cls post (f_cap, nI s, f_nent, f_analysed, f_pad, f_changed, f_status, f_steps, f_pc, f_outCount, f_depth, a_img, a_ent, a_inS, a_reg, a_outs, a_stack, a_mem) (nI q) := by
  refine ⟨pk_in q 64 (by omega), rd_br0 (by omega) (fun z => ?_) (fun z => ?_)⟩
  · have hL : ¬ rd_LR im s E q := fun h => (hS q hq).mpr h z
    refine pk_loop (fun n i (_ : Unit) => wY_cls_30 post (nI q) f_cap (nI s) f_nent f_analysed f_pad f_changed f_status f_steps f_pc f_outCount f_depth a_img a_ent a_inS a_reg a_outs a_stack a_mem n (nI i)) (fun i _ => ¬ rd_opd im s E i q) s 0 () (by omega) rd_opd_0 ?_ ?_
    · intro n _ h
      refine pk_le s s (fun _ => ?_) (fun z => absurd z (by omega))
      refine yr_tab (by omega) hs hI hb hS ?_
      refine rd_brb (fun ht => ?_) (fun ht => ?_)
      · have e : rd_cls im s E q = 0 := rd_c2_0.mpr ⟨hL, h, ht⟩
        rw [e] at hp; exact hp
      · have e : rd_cls im s E q = 3 := by unfold rd_cls rd_c2; rw [rd_if_f hL, rd_if_f h, rd_if_t ht]
        rw [e] at hp; exact hp
    · intro n i _ hi h hn
      have N : ¬ (rd_st im s E i ∧ i < q ∧ q < i + rd_len (im i)) → wY_cls_30 post (nI q) f_cap (nI s) f_nent f_analysed f_pad f_changed f_status f_steps f_pc f_outCount f_depth a_img a_ent a_inS a_reg a_outs a_stack a_mem n (nI (i + 1)) := fun z => hn () fun y => (rd_opd_s.mp y).elim h z
      have hl := rd_len_r (im i)
      refine pk_le s i (fun z => absurd z (by omega)) (fun _ => ?_)
      refine yr_vS hi hs hI hb hS ?_
      refine rd_brb (fun z => nm_r (nI_1 i) (N fun y => z y.1)) (fun z => pk_le q i (fun y => nm_r (nI_1 i) (N (by omega))) (fun y => ⟨pk_in i 64 (by omega), ?_⟩))
      refine yl_len (rd_rd hI i (by omega) (by omega)) z.2.2.1 ?_
      refine pk_le (i + rd_len (im i)) q (fun y2 => nm_r (nI_1 i) (N (by omega))) (fun y2 => ?_) (nI_add _ _) rfl
      have e : rd_cls im s E q = 2 := by unfold rd_cls rd_c2; rw [rd_if_f hL, rd_if_t ⟨i, hi, z, y, y2⟩]
      rw [e] at hp; exact hp
  · have hL : rd_LR im s E q := (hS q hq).mp z
    refine yl_valid (m := im) (by omega) (by omega) (fun i hi x hx post hp => yl_get0 hs hI hi hx hp) hb ?_
    refine rd_brb (fun h => ?_) (fun h => ?_)
    · have e : rd_cls im s E q = 4 := by unfold rd_cls rd_c2; rw [rd_if_t hL, rd_if_f h]
      rw [e] at hp; exact hp
    · have e : rd_cls im s E q = 1 := by unfold rd_cls rd_c2; rw [rd_if_t hL, rd_if_t h]
      rw [e] at hp; exact hp
theorem yr_fs {ne : Nat} {en : Nat → Nat} {q : Nat} (hq : q < 2 ^ 30) (hs : s ≤ 64) (hI : ∀ j, j < 64 → a_img j = nI (im j)) (hb : ∀ j, im j < 256) (hS : ∀ q, q < s → (rd_nz a_inS q ↔ rd_LR im s E q)) (hne8 : ne ≤ 8) (hEn : ∀ e, e < ne → a_ent e = nI (en e) ∧ en e < s) (hEE : ∀ q, E q ↔ ∃ e, e < ne ∧ en e = q) (hp : post (rd_b (rd_fs im s E q))) : wpY_isF0 post (f_cap, nI s, nI ne, f_analysed, f_pad, f_changed, f_status, f_steps, f_pc, f_outCount, f_depth, a_img, a_ent, a_inS, a_reg, a_outs, a_stack, a_mem) (nI q) := by
  refine pk_loop (fun n i (_ : Unit) => wY_isF0_2 post (nI q) f_cap (nI s) (nI ne) f_analysed f_pad f_changed f_status f_steps f_pc f_outCount f_depth a_img a_ent a_inS a_reg a_outs a_stack a_mem n (nI i)) (fun i _ => ∀ e, e < i → en e ≠ q) ne 0 () (by omega) (fun e he => absurd he (by omega)) ?_ ?_
  · intro n _ h
    have hE : ¬ E q := fun z => by
      obtain ⟨e, he, hh⟩ := (hEE q).mp z
      exact h e he hh
    refine pk_le ne ne (fun _ => ?_) (fun z => absurd z (by omega))
    refine pk_loop (fun n i (_ : Unit) => wY_isF0_30 post (nI q) f_cap (nI s) (nI ne) f_analysed f_pad f_changed f_status f_steps f_pc f_outCount f_depth a_img a_ent a_inS a_reg a_outs a_stack a_mem n (nI i)) (fun i _ => ¬ rd_cal im s E i q) s 0 () (by omega) rd_cal_0 ?_ ?_
    · intro n _ h
      exact pk_le s s (fun _ => rd_pf hp fun z => z.elim hE h) (fun z => absurd z (by omega))
    · intro n i _ hi h hn
      have N : ¬ (rd_st im s E i ∧ im i = 11 ∧ im (i + 1) = q) → wY_isF0_30 post (nI q) f_cap (nI s) (nI ne) f_analysed f_pad f_changed f_status f_steps f_pc f_outCount f_depth a_img a_ent a_inS a_reg a_outs a_stack a_mem n (nI (i + 1)) := fun z => hn () fun y => (rd_cal_s.mp y).elim h z
      have bi := hb i
      have bi1 := hb (i + 1)
      refine pk_le s i (fun z => absurd z (by omega)) (fun _ => ?_)
      refine yr_vS hi hs hI hb hS ?_
      refine rd_brb (fun z => nm_r (nI_1 i) (N fun y => z y.1)) (fun z => ⟨pk_in i 64 (by omega), pk_eq (im i) 11 (fun e => ?_) (fun e => nm_r (nI_1 i) (N fun y => e y.2.1)) (rd_rd hI i (by omega) (by omega)) rfl⟩)
      have hle := z.2.2.2.1
      have el : rd_len (im i) = 2 := by rw [e]; rfl
      exact ⟨pk_in (i + 1) 64 (by omega) (nI_1 i), pk_eq (im (i + 1)) q (fun y => rd_pt hp (Or.inr ⟨i, hi, z, e, y⟩)) (fun y => nm_r (nI_1 i) (N fun w => y w.2.2)) (rd_rd hI (i + 1) (by omega) (by omega) (nI_1 i)) rfl⟩
  · intro n i _ hi h hn
    obtain ⟨h1, h2⟩ := hEn i hi
    refine pk_le ne i (fun z => absurd z (by omega)) (fun _ => ⟨pk_in i 8 (by omega), pk_eq (en i) q (fun e => rd_pt hp (Or.inl ((hEE q).mpr ⟨i, hi, e⟩))) (fun e => nm_r (nI_1 i) (hn () fun e' he' => ?_)) ?_ rfl⟩)
    · by_cases ee : e' = i
      · rw [ee]; exact e
      · exact h e' (by omega)
    · rw [nI_clamp (by omega)]; exact h1
theorem yr_m0 {ne pd : Nat} {en : Nat → Nat} {a : Nat} {x : Int32} (hx : x = nI a) (ha : a < s) (hs : s ≤ 64) (hI : ∀ j, j < 64 → a_img j = nI (im j)) (hb : ∀ j, im j < 256) (hS : ∀ q, q < s → (rd_nz a_inS q ↔ rd_LR im s E q)) (hne8 : ne ≤ 8) (hEn : ∀ e, e < ne → a_ent e = nI (en e) ∧ en e < s) (hEE : ∀ q, E q ↔ ∃ e, e < ne ∧ en e = q) (hp : post (nI (rd_na im s E pd a))) : wpY_m0 post (f_cap, nI s, nI ne, f_analysed, nI pd, f_changed, f_status, f_steps, f_pc, f_outCount, f_depth, a_img, a_ent, a_inS, a_reg, a_outs, a_stack, a_mem) x := by
  subst hx
  have e1 : rd_cnt (rd_G im s E) 1 = 0 := Nat.le_zero.mp (rd_G_le im s E 0)
  suffices L : ∃ n, wY_m0_4 post (nI a) f_cap (nI s) (nI ne) f_analysed (nI pd) f_changed f_status f_steps f_pc f_outCount f_depth a_img a_ent a_inS a_reg a_outs a_stack a_mem n (nI (rd_cnt (rd_G im s E) 1)) (nI 1) by
    rw [e1] at L; exact L
  refine pk_loop (fun n i (_ : Unit) => wY_m0_4 post (nI a) f_cap (nI s) (nI ne) f_analysed (nI pd) f_changed f_status f_steps f_pc f_outCount f_depth a_img a_ent a_inS a_reg a_outs a_stack a_mem n (nI (rd_cnt (rd_G im s E) i)) (nI i)) (fun i _ => 1 ≤ i) (a + 1) 1 () (by omega) (Nat.le_refl 1) ?_ ?_
  · intro n _ _
    refine pk_lt a (a + 1) (fun _ => ?_) (fun z => absurd z (by omega))
    rw [pk_mul, nI_add]; exact hp
  · intro n i _ hi h1 hn
    have h := hn () (by omega)
    refine pk_lt a i (fun z => absurd z (by omega)) (fun _ => ?_)
    refine yr_fs (by omega) hs hI hb hS hne8 hEn hEE ?_
    refine rd_brb (fun z => nm_r (nI_1 i) ?_) (fun z => nm_r (nI_1 _) (nm_r (nI_1 i) ?_))
    · rw [rd_cnt_f (fun y : rd_G im s E i => z y.2)] at h; exact h
    · rw [rd_cnt_t (P := rd_G im s E) ⟨h1, z⟩] at h; exact h
theorem yr_os {ne pd : Nat} {en : Nat → Nat} (h0 : 0 < s) (hs : s ≤ 64) (hI : ∀ j, j < 64 → a_img j = nI (im j)) (hb : ∀ j, im j < 256) (hS : ∀ q, q < s → (rd_nz a_inS q ↔ rd_LR im s E q)) (hne8 : ne ≤ 8) (hEn : ∀ e, e < ne → a_ent e = nI (en e) ∧ en e < s) (hEE : ∀ q, E q ↔ ∃ e, e < ne ∧ en e = q) (hp : post (nI (rd_os im s E pd))) : wpY_outSize0 post (f_cap, nI s, nI ne, f_analysed, nI pd, f_changed, f_status, f_steps, f_pc, f_outCount, f_depth, a_img, a_ent, a_inS, a_reg, a_outs, a_stack, a_mem) := by
  have e1 : rd_cnt (rd_G im s E) 1 = 0 := Nat.le_zero.mp (rd_G_le im s E 0)
  suffices L : ∃ n, wY_outSize0_4 post f_cap (nI s) (nI ne) f_analysed (nI pd) f_changed f_status f_steps f_pc f_outCount f_depth a_img a_ent a_inS a_reg a_outs a_stack a_mem n (nI (rd_cnt (rd_G im s E) 1)) (nI 1) by
    rw [e1] at L; exact L
  refine pk_loop (fun n i (_ : Unit) => wY_outSize0_4 post f_cap (nI s) (nI ne) f_analysed (nI pd) f_changed f_status f_steps f_pc f_outCount f_depth a_img a_ent a_inS a_reg a_outs a_stack a_mem n (nI (rd_cnt (rd_G im s E) i)) (nI i)) (fun i _ => 1 ≤ i) s 1 () (by omega) (Nat.le_refl 1) ?_ ?_
  · intro n _ _
    refine pk_le s s (fun _ => ?_) (fun z => absurd z (by omega))
    rw [pk_mul, nI_add]; exact hp
  · intro n i _ hi h1 hn
    have h := hn () (by omega)
    refine pk_le s i (fun z => absurd z (by omega)) (fun _ => ?_)
    refine yr_fs (by omega) hs hI hb hS hne8 hEn hEE ?_
    refine rd_brb (fun z => nm_r (nI_1 i) ?_) (fun z => nm_r (nI_1 _) (nm_r (nI_1 i) ?_))
    · rw [rd_cnt_f (fun y : rd_G im s E i => z y.2)] at h; exact h
    · rw [rd_cnt_t (P := rd_G im s E) ⟨h1, z⟩] at h; exact h
theorem yr_out {ne pd : Nat} {en : Nat → Nat} {i : Nat} (hi30 : i < 2 ^ 30) (h0 : 0 < s) (hpd : pd ≤ 3) (hs : s ≤ 64) (hI : ∀ j, j < 64 → a_img j = nI (im j)) (hb : ∀ j, im j < 256) (hS : ∀ q, q < s → (rd_nz a_inS q ↔ rd_LR im s E q)) (hne8 : ne ≤ 8) (hEn : ∀ e, e < ne → a_ent e = nI (en e) ∧ en e < s) (hEE : ∀ q, E q ↔ ∃ e, e < ne ∧ en e = q) (hp : post (nI (rd_ob im s E pd i))) : wpY_out0 post (f_cap, nI s, nI ne, f_analysed, nI pd, f_changed, f_status, f_steps, f_pc, f_outCount, f_depth, a_img, a_ent, a_inS, a_reg, a_outs, a_stack, a_mem) (nI i) := by
  have hos := rd_os_le im E h0 hs hpd
  refine pk_loop (fun n q (_ : Unit) => wY_out0_2 post (nI i) f_cap (nI s) (nI ne) f_analysed (nI pd) f_changed f_status f_steps f_pc f_outCount f_depth a_img a_ent a_inS a_reg a_outs a_stack a_mem n (nI q)) (fun q _ => ∀ q', q' < q → rd_na im s E pd q' ≠ i) s 0 () (by omega) (fun e he => absurd he (by omega)) ?_ ?_
  · intro n _ h
    refine pk_le s s (fun _ => ?_) (fun z => absurd z (by omega))
    rw [rd_ob_f h] at hp; exact hp
  · intro n q _ hq h hn
    have hna := rd_na_os im E pd hq
    refine pk_le s q (fun z => absurd z (by omega)) (fun _ => ?_)
    refine yr_m0 rfl hq hs hI hb hS hne8 hEn hEE ?_
    refine pk_eq (rd_na im s E pd q) i (fun e => ?_) (fun e => nm_r (nI_1 q) (hn () fun q' hq' => ?_))
    · rw [← e, rd_ob_t hq] at hp
      refine yr_sym hq hs hI hb hS ?_
      refine rd_brb (fun z => ⟨pk_in q 64 (by omega), ?_⟩) (fun z => ⟨pk_in q 64 (by omega), ?_⟩)
      · rw [nI_clamp (by omega), hI q (by omega)]
        unfold rd_val at hp
        rw [rd_if_f z] at hp; exact hp
      · refine yr_m0 (rd_rd hI q (by omega) (by omega)) z.1 hs hI hb hS hne8 hEn hEE ?_
        unfold rd_val at hp
        rw [rd_if_t z] at hp; exact hp
    · by_cases ee : q' = q
      · rw [ee]; exact e
      · exact h q' (by omega)
theorem yr_count {ne pd : Nat} {en : Nat → Nat} {j : Nat} (hj : j ≤ 8) (hs : s ≤ 64) (hI : ∀ j, j < 64 → a_img j = nI (im j)) (hb : ∀ j, im j < 256) (hS : ∀ q, q < s → (rd_nz a_inS q ↔ rd_LR im s E q)) (hne8 : ne ≤ 8) (hEn : ∀ e, e < ne → a_ent e = nI (en e) ∧ en e < s) (hEE : ∀ q, E q ↔ ∃ e, e < ne ∧ en e = q) (hp : post (nI (rd_cnt (rd_ck im s E j) s))) : wpY_count post (f_cap, nI s, nI ne, 1, nI pd, f_changed, f_status, f_steps, f_pc, f_outCount, f_depth, a_img, a_ent, a_inS, a_reg, a_outs, a_stack, a_mem) (nI j) := by
  refine pk_eq j 9 (fun z => absurd z (by omega)) (fun _ => pk_eq j 10 (fun z => absurd z (by omega)) (fun _ => br_f (rd_lt0 (by omega)) (pk_lt 8 j (fun z => absurd z (by omega)) (fun _ => br_f (by decide) ?_))))
  refine pk_loop (fun n i (_ : Unit) => wY_count_45 post (nI j) f_cap (nI s) (nI ne) 1 (nI pd) f_changed f_status f_steps f_pc f_outCount f_depth a_img a_ent a_inS a_reg a_outs a_stack a_mem n (nI (rd_cnt (rd_ck im s E j) i)) (nI i)) (fun _ _ => True) s 0 () (by omega) trivial ?_ ?_
  · intro n _ _
    exact pk_le s s (fun _ => hp) (fun z => absurd z (by omega))
  · intro n i _ hi _ hn
    have h := hn () trivial
    have Ht : rd_ck im s E j i → wY_count_45 post (nI j) f_cap (nI s) (nI ne) 1 (nI pd) f_changed f_status f_steps f_pc f_outCount f_depth a_img a_ent a_inS a_reg a_outs a_stack a_mem n (nI (rd_cnt (rd_ck im s E j) i + 1)) (nI (i + 1)) := fun z => by
      rw [rd_cnt_t z] at h; exact h
    have Hf : ¬ rd_ck im s E j i → wY_count_45 post (nI j) f_cap (nI s) (nI ne) 1 (nI pd) f_changed f_status f_steps f_pc f_outCount f_depth a_img a_ent a_inS a_reg a_outs a_stack a_mem n (nI (rd_cnt (rd_ck im s E j) i)) (nI (i + 1)) := fun z => by
      rw [rd_cnt_f z] at h; exact h
    generalize rd_cnt (rd_ck im s E j) i = c at Ht Hf ⊢
    refine pk_le s i (fun z => absurd z (by omega)) (fun _ => ?_)
    by_cases h4 : j ≤ 4
    · have K : ∀ c : Nat, (wY_count_45 post (nI j) f_cap (nI s) (nI ne) 1 (nI pd) f_changed f_status f_steps f_pc f_outCount f_depth a_img a_ent a_inS a_reg a_outs a_stack a_mem n) (nI c) (nI (i + 1)) → wY_count_70 post (wY_count_45 post (nI j) f_cap (nI s) (nI ne) 1 (nI pd) f_changed f_status f_steps f_pc f_outCount f_depth a_img a_ent a_inS a_reg a_outs a_stack a_mem n) (nI j) (nI c) (nI i) f_cap (nI s) (nI ne) 1 (nI pd) f_changed f_status f_steps f_pc f_outCount f_depth a_img a_ent a_inS a_reg a_outs a_stack a_mem := by
        intro c hc
        exact pk_eq j 5 (fun z => absurd z (by omega)) (fun _ => pk_eq j 6 (fun z => absurd z (by omega)) (fun _ => pk_eq j 7 (fun z => absurd z (by omega)) (fun _ => pk_eq j 8 (fun z => absurd z (by omega)) (fun _ => nm_r (nI_1 i) hc))))
      refine pk_lt 4 j (fun z => absurd z (by omega)) (fun _ => ?_)
      refine yr_cls hi hs hI hb hS ?_
      exact br_c (fun z => nm_r (nI_1 _) (K _ (Ht ((rd_ck_c h4).mpr z)))) (fun z => K _ (Hf fun y => z ((rd_ck_c h4).mp y)))
    · refine pk_lt 4 j (fun _ => ?_) (fun z => absurd z (by omega))
      refine pk_eq j 5 (fun e => ?_) (fun e5 => ?_)
      · subst e
        have K : ∀ c : Nat, (wY_count_45 post (nI 5) f_cap (nI s) (nI ne) 1 (nI pd) f_changed f_status f_steps f_pc f_outCount f_depth a_img a_ent a_inS a_reg a_outs a_stack a_mem n) (nI c) (nI (i + 1)) → wY_count_86 post (wY_count_45 post (nI 5) f_cap (nI s) (nI ne) 1 (nI pd) f_changed f_status f_steps f_pc f_outCount f_depth a_img a_ent a_inS a_reg a_outs a_stack a_mem n) (nI 5) (nI c) (nI i) f_cap (nI s) (nI ne) 1 (nI pd) f_changed f_status f_steps f_pc f_outCount f_depth a_img a_ent a_inS a_reg a_outs a_stack a_mem := fun c hc => br_f (by decide) (br_f (by decide) (br_f (by decide) (nm_r (nI_1 i) hc)))
        refine yr_fs (by omega) hs hI hb hS hne8 hEn hEE ?_
        exact rd_brb (fun z => K _ (Hf fun y => z (rd_ck_5.mp y))) (fun z => nm_r (nI_1 _) (K _ (Ht (rd_ck_5.mpr z))))
      refine pk_eq j 6 (fun e => ?_) (fun e6 => ?_)
      · subst e
        have K : ∀ c : Nat, (wY_count_45 post (nI 6) f_cap (nI s) (nI ne) 1 (nI pd) f_changed f_status f_steps f_pc f_outCount f_depth a_img a_ent a_inS a_reg a_outs a_stack a_mem n) (nI c) (nI (i + 1)) → wY_count_103 post (wY_count_45 post (nI 6) f_cap (nI s) (nI ne) 1 (nI pd) f_changed f_status f_steps f_pc f_outCount f_depth a_img a_ent a_inS a_reg a_outs a_stack a_mem n) (nI 6) (nI c) (nI i) f_cap (nI s) (nI ne) 1 (nI pd) f_changed f_status f_steps f_pc f_outCount f_depth a_img a_ent a_inS a_reg a_outs a_stack a_mem := fun c hc => br_f (by decide) (br_f (by decide) (nm_r (nI_1 i) hc))
        refine yr_sym hi hs hI hb hS ?_
        exact rd_brb (fun z => K _ (Hf fun y => z (rd_ck_6.mp y))) (fun z => nm_r (nI_1 _) (K _ (Ht (rd_ck_6.mpr z))))
      refine pk_eq j 7 (fun e => ?_) (fun e7 => ?_)
      · subst e
        have K : ∀ c : Nat, (wY_count_45 post (nI 7) f_cap (nI s) (nI ne) 1 (nI pd) f_changed f_status f_steps f_pc f_outCount f_depth a_img a_ent a_inS a_reg a_outs a_stack a_mem n) (nI c) (nI (i + 1)) → wY_count_120 post (wY_count_45 post (nI 7) f_cap (nI s) (nI ne) 1 (nI pd) f_changed f_status f_steps f_pc f_outCount f_depth a_img a_ent a_inS a_reg a_outs a_stack a_mem n) (nI 7) (nI c) (nI i) f_cap (nI s) (nI ne) 1 (nI pd) f_changed f_status f_steps f_pc f_outCount f_depth a_img a_ent a_inS a_reg a_outs a_stack a_mem := fun c hc => br_f (by decide) (nm_r (nI_1 i) hc)
        refine yr_bd hi hs hI hb hS ?_
        exact rd_brb (fun z => K _ (Hf fun y => z (rd_ck_7.mp y))) (fun z => nm_r (nI_1 _) (K _ (Ht (rd_ck_7.mpr z))))
      have e8 : j = 8 := by omega
      subst e8
      refine br_t (by decide) ?_
      have bi := hb i
      have hr := rd_rd hI i (by omega) (by omega) (x := nI i)
      have K : rd_st im s E i → ¬ (im i = 13 ∧ rd_tl im s i = 0) → wY_count_153 post (wY_count_45 post (nI 8) f_cap (nI s) (nI ne) 1 (nI pd) f_changed f_status f_steps f_pc f_outCount f_depth a_img a_ent a_inS a_reg a_outs a_stack a_mem n) (nI 8) (nI c) (nI i) f_cap (nI s) (nI ne) 1 (nI pd) f_changed f_status f_steps f_pc f_outCount f_depth a_img a_ent a_inS a_reg a_outs a_stack a_mem := by
        intro z hz
        exact ⟨pk_in i 64 (by omega), pk_eq (im i) 14 (fun e => nm_r (nI_1 _) (nm_r (nI_1 i) (Ht (rd_ck_8.mpr ⟨z, Or.inl e⟩)))) (fun e => nm_r (nI_1 i) (Hf fun y => (rd_ck_8.mp y).2.elim e hz)) hr rfl⟩
      refine yr_vS hi hs hI hb hS ?_
      refine rd_brb (fun z => nm_r (nI_1 i) (Hf fun y => z (rd_ck_8.mp y).1)) (fun z => ⟨pk_in i 64 (by omega), pk_eq (im i) 13 (fun e => ?_) (fun e => K z fun y => e y.1) hr rfl⟩)
      refine yr_bd hi hs hI hb hS ?_
      refine rd_brb (fun y => nm_r (nI_1 _) (nm_r (nI_1 i) (Ht (rd_ck_8.mpr ⟨z, Or.inr ⟨e, ?_⟩⟩)))) (fun y => K z fun w => ?_)
      · have : ¬ 0 < rd_tl im s i := fun w => y ⟨z, w⟩
        omega
      · have := y.2; omega
end
end
section
/-! X: the machine -/
theorem rd_add255 {x y : Int32} {v b : Nat} (hx : x = nI v) (hy : y = nI b) (h : v + b < 2 ^ 31) : (x + y) &&& 255 = nI ((v + b) % 256) := by
  subst hx hy
  rw [nI_add]
  exact pk_andN (by omega) 8 (by decide)
theorem rd_rv {a : Nat → Int32} (h : rd_By a) {x : Int32} {r : Nat} (hx : x = nI r) (hr : r < 2 ^ 31) : a x.toNatClampNeg = nI (rd_v (a r)) := by
  subst hx
  rw [nI_clamp hr]
  exact (rd_By_v h r).2
section
variable {f_capacity f_size f_entryCount f_analysed f_outputSize f_status f_steps f_pc f_depth f_valueCount : Int32} {a_image a_entry a_reached a_classes a_symbolic a_functionStart a_newAddress a_output a_registers a_stack a_values : Nat → Int32} {m : Nat → Nat} {s n p d c : Nat} {rg sk vl : Nat → Int32}
theorem xl_plus {post : Int32 → Prop} {x y : Int32} {v r : Nat} (hx : x = nI v) (hy : y = nI r) (hr : r < 4) (hv : v < 256) (hB : rd_By rg) (hp : post (nI ((v + rd_v (rg r)) % 256))) : wpX_plusRegister post (f_capacity, nI s, f_entryCount, f_analysed, f_outputSize, f_status, f_steps, f_pc, f_depth, f_valueCount, a_image, a_entry, a_reached, a_classes, a_symbolic, a_functionStart, a_newAddress, a_output, rg, a_stack, a_values) x y := by
  have hb := (rd_By_v hB r).1
  refine ⟨pk_in r 4 hr hy, ?_⟩
  rw [rd_add255 hx (rd_rv hB hy (by omega)) (by omega)]; exact hp
theorem xl_flt_image {post : Int32 → Prop} (hn : n ≤ 64) (hI : ∀ j, j < n → a_image j = nI (m j)) (hb : ∀ j, m j < 256) (hB : rd_By rg) (hd : d ≤ 8) (hc : c ≤ 16) (ho : rd_ok m n p) (hp : post (rd_b (rd_flt m n (m p) p rg d c))) : wpX_faults__image post (f_capacity, nI s, f_entryCount, f_analysed, f_outputSize, f_status, f_steps, nI p, nI d, nI c, a_image, a_entry, a_reached, a_classes, a_symbolic, a_functionStart, a_newAddress, a_output, rg, sk, vl) (nI n) := by
  obtain ⟨h1, h2, h3, h4, h5, h6⟩ := ho
  have b2 := hb (p + 2)
  refine ⟨pk_in p 64 (by omega), nm_r (rd_rd hI p h1 (by omega)) ?_⟩
  rcases rd_op15 h2 with e | e | e | e | e | e | e | e | e | e | e | e | e | e | e
  all_goals (repeat (first | refine br_t (by rw [e]; decide) ?_ | refine br_f (by rw [e]; decide) ?_))
  all_goals try (exact rd_pf hp fun z => by unfold rd_flt at z; omega)
  · have el : rd_len (m p) = 4 := by rw [e]; rfl
    have b3 := h6 e
    have hm := Nat.mod_lt (m (p + 2) + rd_v (rg (m (p + 3)))) (show 0 < 256 by omega)
    refine ⟨pk_in (p + 2) 64 (by omega) (nI_add p 2), pk_in (p + 3) 64 (by omega) (nI_add p 3), ?_⟩
    refine xl_plus (rd_rd hI (p + 2) (by omega) (by omega) (nI_add p 2)) (rd_rd hI (p + 3) (by omega) (by omega) (nI_add p 3)) (by omega) b2 hB ?_
    exact pk_lt ((m (p + 2) + rd_v (rg (m (p + 3)))) % 256) n (fun h => rd_pf hp fun z => by unfold rd_flt at z; omega) (fun h => rd_pt hp (Or.inl ⟨e, h⟩))
  · exact pk_lt c 16 (fun h => rd_pf hp fun z => by unfold rd_flt at z; omega) (fun h => rd_pt hp (Or.inr (Or.inr (Or.inl ⟨e, h⟩))))
  · exact pk_lt d 8 (fun h => rd_pf hp fun z => by unfold rd_flt at z; omega) (fun h => rd_pt hp (Or.inr (Or.inr (Or.inr (Or.inl ⟨e, h⟩)))))
  · exact pk_lt 0 d (fun h => rd_pf hp fun z => by unfold rd_flt at z; omega) (fun h => rd_pt hp (Or.inr (Or.inr (Or.inr (Or.inr ⟨e, by omega⟩)))))
  · have el : rd_len (m p) = 3 := by rw [e]; rfl
    have b1 := h4 (by rw [e]; unfold rd_r1; omega)
    have hm := Nat.mod_lt (m (p + 2) + rd_v (rg (m (p + 1)))) (show 0 < 256 by omega)
    refine ⟨pk_in (p + 2) 64 (by omega) (nI_add p 2), pk_in (p + 1) 64 (by omega) (nI_1 p), ?_⟩
    refine xl_plus (rd_rd hI (p + 2) (by omega) (by omega) (nI_add p 2)) (rd_rd hI (p + 1) (by omega) (by omega) (nI_1 p)) (by omega) b2 hB ?_
    exact pk_lt ((m (p + 2) + rd_v (rg (m (p + 1)))) % 256) n (fun h => rd_pf hp fun z => by unfold rd_flt at z; omega) (fun h => rd_pt hp (Or.inr (Or.inl ⟨e, h⟩)))
theorem xl_perf_image {post : SX → Prop} (hn : n ≤ 64) (hI : ∀ j, j < n → a_image j = nI (m j)) (hb : ∀ j, m j < 256) (hB : rd_By rg) (hK : rd_By sk) (hd : d ≤ 8) (hc : c ≤ 16) (ho : rd_ok m n p) (hf : ¬ rd_flt m n (m p) p rg d c) (h0 : ¬ m p = 0)
    (hp : ∀ p' rg' sk' d' vl' c', rd_nx m (m p) p rg sk d vl c = (p', rg', sk', d', vl', c') → post (f_capacity, nI s, f_entryCount, f_analysed, f_outputSize, f_status, f_steps, nI p', nI d', nI c', a_image, a_entry, a_reached, a_classes, a_symbolic, a_functionStart, a_newAddress, a_output, rg', sk', vl')) : wpX_perform__image post (f_capacity, nI s, f_entryCount, f_analysed, f_outputSize, f_status, f_steps, nI p, nI d, nI c, a_image, a_entry, a_reached, a_classes, a_symbolic, a_functionStart, a_newAddress, a_output, rg, sk, vl) := by
  obtain ⟨h1, h2, h3, h4, h5, h6⟩ := ho
  have b1 := hb (p + 1)
  have b2 := hb (p + 2)
  have b3 := hb (p + 3)
  unfold rd_flt at hf
  refine ⟨pk_in p 64 (by omega), nm_r (rd_rd hI p h1 (by omega)) ?_⟩
  rcases rd_op15 h2 with e | e | e | e | e | e | e | e | e | e | e | e | e | e | e
  all_goals (repeat (first | refine br_t (by rw [e]; decide) ?_ | refine br_f (by rw [e]; decide) ?_))
  · exact absurd e h0
  · exact nm_r (nI_1 p) (hp _ _ _ _ _ _ (by rw [e]; rfl))
  · have el : rd_len (m p) = 3 := by rw [e]; rfl
    have r1 := h4 (by rw [e]; unfold rd_r1; omega)
    refine ⟨pk_in (p + 1) 64 (by omega) (nI_1 p), nm_r (rd_rd hI (p + 1) (by omega) (by omega) (nI_1 p)) ⟨pk_in (p + 2) 64 (by omega) (nI_add p 2), nm_r (rd_rd hI (p + 2) (by omega) (by omega) (nI_add p 2)) (br_t (by rw [e]; decide) ⟨pk_in (m (p + 1)) 4 (by omega), nm_r (e' := upd rg (m (p + 1)) (nI (m (p + 2)))) (by rw [nI_clamp (by omega)]) ?_⟩)⟩⟩
    exact xl_len h2 (nm_r (e' := nI (p + 3)) (by rw [nI_add, el]) (hp _ _ _ _ _ _ (by rw [e]; rfl)))
  · have el : rd_len (m p) = 3 := by rw [e]; rfl
    have r1 := h4 (by rw [e]; unfold rd_r1; omega)
    refine ⟨pk_in (p + 1) 64 (by omega) (nI_1 p), nm_r (rd_rd hI (p + 1) (by omega) (by omega) (nI_1 p)) ⟨pk_in (p + 2) 64 (by omega) (nI_add p 2), nm_r (rd_rd hI (p + 2) (by omega) (by omega) (nI_add p 2)) (br_t (by rw [e]; decide) ⟨pk_in (m (p + 1)) 4 (by omega), nm_r (e' := upd rg (m (p + 1)) (nI (m (p + 2)))) (by rw [nI_clamp (by omega)]) ?_⟩)⟩⟩
    exact xl_len h2 (nm_r (e' := nI (p + 3)) (by rw [nI_add, el]) (hp _ _ _ _ _ _ (by rw [e]; rfl)))
  · have el : rd_len (m p) = 3 := by rw [e]; rfl
    have r1 := h4 (by rw [e]; unfold rd_r1; omega)
    have r2 := h5 e
    have hv := (rd_By_v hB (m (p + 1))).1
    refine ⟨pk_in (p + 1) 64 (by omega) (nI_1 p), nm_r (rd_rd hI (p + 1) (by omega) (by omega) (nI_1 p)) ⟨pk_in (p + 2) 64 (by omega) (nI_add p 2), nm_r (rd_rd hI (p + 2) (by omega) (by omega) (nI_add p 2)) (br_f (by rw [e]; decide) (br_f (by rw [e]; decide) (br_t (by rw [e]; decide) ⟨pk_in (m (p + 1)) 4 (by omega), ?_⟩)))⟩⟩
    refine xl_plus (rd_rv hB rfl (by omega)) rfl (by omega) hv hB ⟨pk_in (m (p + 1)) 4 (by omega), nm_r (e' := upd rg (m (p + 1)) (nI ((rd_v (rg (m (p + 1))) + rd_v (rg (m (p + 2)))) % 256))) (by rw [nI_clamp (by omega)]) ?_⟩
    exact xl_len h2 (nm_r (e' := nI (p + 3)) (by rw [nI_add, el]) (hp _ _ _ _ _ _ (by rw [e]; rfl)))
  · have el : rd_len (m p) = 3 := by rw [e]; rfl
    have r1 := h4 (by rw [e]; unfold rd_r1; omega)
    refine ⟨pk_in (p + 1) 64 (by omega) (nI_1 p), nm_r (rd_rd hI (p + 1) (by omega) (by omega) (nI_1 p)) ⟨pk_in (p + 2) 64 (by omega) (nI_add p 2), nm_r (rd_rd hI (p + 2) (by omega) (by omega) (nI_add p 2)) (br_f (by rw [e]; decide) (br_f (by rw [e]; decide) (br_f (by rw [e]; decide) (br_t (by rw [e]; decide) ?_))))⟩⟩
    refine xl_plus rfl rfl (by omega) b2 hB ⟨pk_in (m (p + 1)) 4 (by omega), nm_r (e' := upd rg (m (p + 1)) (nI ((m (p + 2) + rd_v (rg (m (p + 1)))) % 256))) (by rw [nI_clamp (by omega)]) ?_⟩
    exact xl_len h2 (nm_r (e' := nI (p + 3)) (by rw [nI_add, el]) (hp _ _ _ _ _ _ (by rw [e]; rfl)))
  · have el : rd_len (m p) = 4 := by rw [e]; rfl
    have r1 := h4 (by rw [e]; unfold rd_r1; omega)
    have r3 := h6 e
    have hlt : (m (p + 2) + rd_v (rg (m (p + 3)))) % 256 < n := by omega
    refine ⟨pk_in (p + 1) 64 (by omega) (nI_1 p), nm_r (rd_rd hI (p + 1) (by omega) (by omega) (nI_1 p)) ⟨pk_in (p + 2) 64 (by omega) (nI_add p 2), nm_r (rd_rd hI (p + 2) (by omega) (by omega) (nI_add p 2)) (br_f (by rw [e]; decide) (br_f (by rw [e]; decide) (br_f (by rw [e]; decide) (br_f (by rw [e]; decide) (br_t (by rw [e]; decide) ⟨pk_in (p + 3) 64 (by omega) (nI_add p 3), ?_⟩)))))⟩⟩
    refine xl_plus rfl (rd_rd hI (p + 3) (by omega) (by omega) (nI_add p 3)) (by omega) b2 hB ⟨pk_in ((m (p + 2) + rd_v (rg (m (p + 3)))) % 256) 64 (by omega), pk_in (m (p + 1)) 4 (by omega), nm_r (e' := upd rg (m (p + 1)) (nI (m ((m (p + 2) + rd_v (rg (m (p + 3)))) % 256)))) ?_ ?_⟩
    · rw [rd_rd hI _ hlt (by omega), nI_clamp (by omega)]
    exact xl_len h2 (nm_r (e' := nI (p + 4)) (by rw [nI_add, el]) (hp _ _ _ _ _ _ (by rw [e]; rfl)))
  · have el : rd_len (m p) = 2 := by rw [e]; rfl
    have r1 := h4 (by rw [e]; unfold rd_r1; omega)
    have hr := rd_rd hI (p + 1) (by omega) (by omega) (x := nI p + 1) (nI_1 p)
    refine ⟨pk_in (p + 1) 64 (by omega) (nI_1 p), pk_in (m (p + 1)) 4 (by omega) hr, pk_in c 16 (by omega), nm_r (e' := upd vl c (rg (m (p + 1)))) ?_ (nm_r (nI_1 c) (nm_r (nI_add p 2) (hp _ _ _ _ _ _ (by rw [e]; rfl))))⟩
    rw [hr, nI_clamp (by omega), nI_clamp (by omega)]
  · have el : rd_len (m p) = 2 := by rw [e]; rfl
    refine nm_r (nI_add p 2) ?_
    exact br_t (by rw [e]; decide) ⟨pk_in (p + 1) 64 (by omega) (nI_1 p), nm_r (rd_rd hI (p + 1) (by omega) (by omega) (nI_1 p)) (hp _ _ _ _ _ _ (by rw [e]; rfl))⟩
  · have el : rd_len (m p) = 4 := by rw [e]; rfl
    have r1 := h4 (by rw [e]; unfold rd_r1; omega)
    have hr := rd_rd hI (p + 1) (by omega) (by omega) (x := nI p + 1) (nI_1 p)
    have hv := (rd_By_v hB (m (p + 1))).1
    refine nm_r (nI_add p 4) (br_f (by rw [e]; decide) (br_f (by rw [e]; decide) (br_t (by rw [e]; decide) ⟨pk_in (p + 1) 64 (by omega) (nI_1 p), pk_in (m (p + 1)) 4 (by omega) hr, pk_in (p + 2) 64 (by omega) (nI_add p 2), ?_⟩)))
    refine pk_eq (rd_v (rg (m (p + 1)))) (m (p + 2)) (fun h => ⟨pk_in (p + 3) 64 (by omega) (nI_add p 3), nm_r (rd_rd hI (p + 3) (by omega) (by omega) (nI_add p 3)) (hp _ _ _ _ _ _ ?_)⟩) (fun h => hp _ _ _ _ _ _ ?_) (rd_rv hB hr (by omega)) (rd_rd hI (p + 2) (by omega) (by omega) (nI_add p 2))
    · rw [e]
      show (rd_if _ _ _, _) = _
      rw [rd_if_t h]
    · rw [e]
      show (rd_if _ _ _, _) = _
      rw [rd_if_f h]
  · have el : rd_len (m p) = 4 := by rw [e]; rfl
    have r1 := h4 (by rw [e]; unfold rd_r1; omega)
    have hr := rd_rd hI (p + 1) (by omega) (by omega) (x := nI p + 1) (nI_1 p)
    have hv := (rd_By_v hB (m (p + 1))).1
    refine nm_r (nI_add p 4) (br_f (by rw [e]; decide) (br_f (by rw [e]; decide) (br_f (by rw [e]; decide) (br_t (by rw [e]; decide) ⟨pk_in (p + 1) 64 (by omega) (nI_1 p), pk_in (m (p + 1)) 4 (by omega) hr, pk_in (p + 2) 64 (by omega) (nI_add p 2), ?_⟩))))
    refine pk_lt (rd_v (rg (m (p + 1)))) (m (p + 2)) (fun h => hp _ _ _ _ _ _ ?_) (fun h => ⟨pk_in (p + 3) 64 (by omega) (nI_add p 3), nm_r (rd_rd hI (p + 3) (by omega) (by omega) (nI_add p 3)) (hp _ _ _ _ _ _ ?_)⟩) (rd_rv hB hr (by omega)) (rd_rd hI (p + 2) (by omega) (by omega) (nI_add p 2))
    · rw [e]
      show (rd_if _ _ _, _) = _
      rw [rd_if_f (by omega)]
    · rw [e]
      show (rd_if _ _ _, _) = _
      rw [rd_if_t h]
  · have el : rd_len (m p) = 2 := by rw [e]; rfl
    refine nm_r (nI_add p 2) (br_f (by rw [e]; decide) (br_f (by rw [e]; decide) (br_f (by rw [e]; decide) (br_f (by rw [e]; decide) (br_t (by rw [e]; decide) ⟨pk_in d 8 (by omega), nm_r (e' := upd sk d (nI (p + 2))) (by rw [nI_clamp (by omega)]) (nm_r (nI_1 d) ⟨pk_in (p + 1) 64 (by omega) (nI_1 p), nm_r (rd_rd hI (p + 1) (by omega) (by omega) (nI_1 p)) (hp _ _ _ _ _ _ (by rw [e]; rfl))⟩)⟩)))))
  · have hsub : nI d - 1 = nI (d - 1) := pk_sub (b := 1) (by omega)
    refine nm_r (nI_add p 1) (br_f (by rw [e]; decide) (br_f (by rw [e]; decide) (br_f (by rw [e]; decide) (br_f (by rw [e]; decide) (br_f (by rw [e]; decide) (br_t (by rw [e]; decide) (nm_r hsub ⟨pk_in (d - 1) 8 (by omega), nm_r (rd_rv hK rfl (by omega)) (hp _ _ _ _ _ _ (by rw [e]; rfl))⟩)))))))
  · have el : rd_len (m p) = 3 := by rw [e]; rfl
    have r1 := h4 (by rw [e]; unfold rd_r1; omega)
    have hlt : (m (p + 2) + rd_v (rg (m (p + 1)))) % 256 < n := by omega
    refine nm_r (nI_add p 3) (br_f (by rw [e]; decide) (br_f (by rw [e]; decide) (br_f (by rw [e]; decide) (br_f (by rw [e]; decide) (br_f (by rw [e]; decide) (br_f (by rw [e]; decide) (br_t (by rw [e]; decide) ⟨pk_in (p + 2) 64 (by omega) (nI_add p 2), pk_in (p + 1) 64 (by omega) (nI_1 p), ?_⟩)))))))
    exact xl_plus (rd_rd hI (p + 2) (by omega) (by omega) (nI_add p 2)) (rd_rd hI (p + 1) (by omega) (by omega) (nI_1 p)) (by omega) b2 hB ⟨pk_in ((m (p + 2) + rd_v (rg (m (p + 1)))) % 256) 64 (by omega), nm_r (rd_rd hI _ hlt (by omega)) (hp _ _ _ _ _ _ (by rw [e]; rfl))⟩
  · have el : rd_len (m p) = 2 := by rw [e]; rfl
    have r1 := h4 (by rw [e]; unfold rd_r1; omega)
    have hr := rd_rd hI (p + 1) (by omega) (by omega) (x := nI p + 1) (nI_1 p)
    refine nm_r (nI_add p 2) (br_f (by rw [e]; decide) (br_f (by rw [e]; decide) (br_f (by rw [e]; decide) (br_f (by rw [e]; decide) (br_f (by rw [e]; decide) (br_f (by rw [e]; decide) (br_f (by rw [e]; decide) (br_t (by rw [e]; decide) ⟨pk_in (p + 1) 64 (by omega) (nI_1 p), pk_in (m (p + 1)) 4 (by omega) hr, nm_r (rd_rv hB hr (by omega)) (hp _ _ _ _ _ _ (by rw [e]; rfl))⟩))))))))
theorem xl_halt_image {post : SX → Prop} (hn : n ≤ 64) (hI : ∀ j, j < n → a_image j = nI (m j)) (ho : rd_ok m n p) (h0 : m p = 0) (hp : post (f_capacity, nI s, f_entryCount, f_analysed, f_outputSize, 1, f_steps, nI p, nI d, nI c, a_image, a_entry, a_reached, a_classes, a_symbolic, a_functionStart, a_newAddress, a_output, rg, sk, vl)) : wpX_perform__image post (f_capacity, nI s, f_entryCount, f_analysed, f_outputSize, f_status, f_steps, nI p, nI d, nI c, a_image, a_entry, a_reached, a_classes, a_symbolic, a_functionStart, a_newAddress, a_output, rg, sk, vl) := by
  have h1 := ho.1
  refine ⟨pk_in p 64 (by omega), nm_r (rd_rd hI p h1 (by omega)) ?_⟩
  exact br_f (by rw [h0]; decide) (br_f (by rw [h0]; decide) (br_t (by rw [h0]; decide) hp))
theorem xl_flt_output {post : Int32 → Prop} (hn : n ≤ 253) (hI : ∀ j, j < n → a_output j = nI (m j)) (hb : ∀ j, m j < 256) (hB : rd_By rg) (hd : d ≤ 8) (hc : c ≤ 16) (ho : rd_ok m n p) (hp : post (rd_b (rd_flt m n (m p) p rg d c))) : wpX_faults__output post (f_capacity, nI s, f_entryCount, f_analysed, f_outputSize, f_status, f_steps, nI p, nI d, nI c, a_image, a_entry, a_reached, a_classes, a_symbolic, a_functionStart, a_newAddress, a_output, rg, sk, vl) (nI n) := by
  obtain ⟨h1, h2, h3, h4, h5, h6⟩ := ho
  have b2 := hb (p + 2)
  refine ⟨pk_in p 253 (by omega), nm_r (rd_rd hI p h1 (by omega)) ?_⟩
  rcases rd_op15 h2 with e | e | e | e | e | e | e | e | e | e | e | e | e | e | e
  all_goals (repeat (first | refine br_t (by rw [e]; decide) ?_ | refine br_f (by rw [e]; decide) ?_))
  all_goals try (exact rd_pf hp fun z => by unfold rd_flt at z; omega)
  · have el : rd_len (m p) = 4 := by rw [e]; rfl
    have b3 := h6 e
    have hm := Nat.mod_lt (m (p + 2) + rd_v (rg (m (p + 3)))) (show 0 < 256 by omega)
    refine ⟨pk_in (p + 2) 253 (by omega) (nI_add p 2), pk_in (p + 3) 253 (by omega) (nI_add p 3), ?_⟩
    refine xl_plus (rd_rd hI (p + 2) (by omega) (by omega) (nI_add p 2)) (rd_rd hI (p + 3) (by omega) (by omega) (nI_add p 3)) (by omega) b2 hB ?_
    exact pk_lt ((m (p + 2) + rd_v (rg (m (p + 3)))) % 256) n (fun h => rd_pf hp fun z => by unfold rd_flt at z; omega) (fun h => rd_pt hp (Or.inl ⟨e, h⟩))
  · exact pk_lt c 16 (fun h => rd_pf hp fun z => by unfold rd_flt at z; omega) (fun h => rd_pt hp (Or.inr (Or.inr (Or.inl ⟨e, h⟩))))
  · exact pk_lt d 8 (fun h => rd_pf hp fun z => by unfold rd_flt at z; omega) (fun h => rd_pt hp (Or.inr (Or.inr (Or.inr (Or.inl ⟨e, h⟩)))))
  · exact pk_lt 0 d (fun h => rd_pf hp fun z => by unfold rd_flt at z; omega) (fun h => rd_pt hp (Or.inr (Or.inr (Or.inr (Or.inr ⟨e, by omega⟩)))))
  · have el : rd_len (m p) = 3 := by rw [e]; rfl
    have b1 := h4 (by rw [e]; unfold rd_r1; omega)
    have hm := Nat.mod_lt (m (p + 2) + rd_v (rg (m (p + 1)))) (show 0 < 256 by omega)
    refine ⟨pk_in (p + 2) 253 (by omega) (nI_add p 2), pk_in (p + 1) 253 (by omega) (nI_1 p), ?_⟩
    refine xl_plus (rd_rd hI (p + 2) (by omega) (by omega) (nI_add p 2)) (rd_rd hI (p + 1) (by omega) (by omega) (nI_1 p)) (by omega) b2 hB ?_
    exact pk_lt ((m (p + 2) + rd_v (rg (m (p + 1)))) % 256) n (fun h => rd_pf hp fun z => by unfold rd_flt at z; omega) (fun h => rd_pt hp (Or.inr (Or.inl ⟨e, h⟩)))
theorem xl_perf_output {post : SX → Prop} (hn : n ≤ 253) (hI : ∀ j, j < n → a_output j = nI (m j)) (hb : ∀ j, m j < 256) (hB : rd_By rg) (hK : rd_By sk) (hd : d ≤ 8) (hc : c ≤ 16) (ho : rd_ok m n p) (hf : ¬ rd_flt m n (m p) p rg d c) (h0 : ¬ m p = 0)
    (hp : ∀ p' rg' sk' d' vl' c', rd_nx m (m p) p rg sk d vl c = (p', rg', sk', d', vl', c') → post (f_capacity, nI s, f_entryCount, f_analysed, f_outputSize, f_status, f_steps, nI p', nI d', nI c', a_image, a_entry, a_reached, a_classes, a_symbolic, a_functionStart, a_newAddress, a_output, rg', sk', vl')) : wpX_perform__output post (f_capacity, nI s, f_entryCount, f_analysed, f_outputSize, f_status, f_steps, nI p, nI d, nI c, a_image, a_entry, a_reached, a_classes, a_symbolic, a_functionStart, a_newAddress, a_output, rg, sk, vl) := by
  obtain ⟨h1, h2, h3, h4, h5, h6⟩ := ho
  have b1 := hb (p + 1)
  have b2 := hb (p + 2)
  have b3 := hb (p + 3)
  unfold rd_flt at hf
  refine ⟨pk_in p 253 (by omega), nm_r (rd_rd hI p h1 (by omega)) ?_⟩
  rcases rd_op15 h2 with e | e | e | e | e | e | e | e | e | e | e | e | e | e | e
  all_goals (repeat (first | refine br_t (by rw [e]; decide) ?_ | refine br_f (by rw [e]; decide) ?_))
  · exact absurd e h0
  · exact nm_r (nI_1 p) (hp _ _ _ _ _ _ (by rw [e]; rfl))
  · have el : rd_len (m p) = 3 := by rw [e]; rfl
    have r1 := h4 (by rw [e]; unfold rd_r1; omega)
    refine ⟨pk_in (p + 1) 253 (by omega) (nI_1 p), nm_r (rd_rd hI (p + 1) (by omega) (by omega) (nI_1 p)) ⟨pk_in (p + 2) 253 (by omega) (nI_add p 2), nm_r (rd_rd hI (p + 2) (by omega) (by omega) (nI_add p 2)) (br_t (by rw [e]; decide) ⟨pk_in (m (p + 1)) 4 (by omega), nm_r (e' := upd rg (m (p + 1)) (nI (m (p + 2)))) (by rw [nI_clamp (by omega)]) ?_⟩)⟩⟩
    exact xl_len h2 (nm_r (e' := nI (p + 3)) (by rw [nI_add, el]) (hp _ _ _ _ _ _ (by rw [e]; rfl)))
  · have el : rd_len (m p) = 3 := by rw [e]; rfl
    have r1 := h4 (by rw [e]; unfold rd_r1; omega)
    refine ⟨pk_in (p + 1) 253 (by omega) (nI_1 p), nm_r (rd_rd hI (p + 1) (by omega) (by omega) (nI_1 p)) ⟨pk_in (p + 2) 253 (by omega) (nI_add p 2), nm_r (rd_rd hI (p + 2) (by omega) (by omega) (nI_add p 2)) (br_t (by rw [e]; decide) ⟨pk_in (m (p + 1)) 4 (by omega), nm_r (e' := upd rg (m (p + 1)) (nI (m (p + 2)))) (by rw [nI_clamp (by omega)]) ?_⟩)⟩⟩
    exact xl_len h2 (nm_r (e' := nI (p + 3)) (by rw [nI_add, el]) (hp _ _ _ _ _ _ (by rw [e]; rfl)))
  · have el : rd_len (m p) = 3 := by rw [e]; rfl
    have r1 := h4 (by rw [e]; unfold rd_r1; omega)
    have r2 := h5 e
    have hv := (rd_By_v hB (m (p + 1))).1
    refine ⟨pk_in (p + 1) 253 (by omega) (nI_1 p), nm_r (rd_rd hI (p + 1) (by omega) (by omega) (nI_1 p)) ⟨pk_in (p + 2) 253 (by omega) (nI_add p 2), nm_r (rd_rd hI (p + 2) (by omega) (by omega) (nI_add p 2)) (br_f (by rw [e]; decide) (br_f (by rw [e]; decide) (br_t (by rw [e]; decide) ⟨pk_in (m (p + 1)) 4 (by omega), ?_⟩)))⟩⟩
    refine xl_plus (rd_rv hB rfl (by omega)) rfl (by omega) hv hB ⟨pk_in (m (p + 1)) 4 (by omega), nm_r (e' := upd rg (m (p + 1)) (nI ((rd_v (rg (m (p + 1))) + rd_v (rg (m (p + 2)))) % 256))) (by rw [nI_clamp (by omega)]) ?_⟩
    exact xl_len h2 (nm_r (e' := nI (p + 3)) (by rw [nI_add, el]) (hp _ _ _ _ _ _ (by rw [e]; rfl)))
  · have el : rd_len (m p) = 3 := by rw [e]; rfl
    have r1 := h4 (by rw [e]; unfold rd_r1; omega)
    refine ⟨pk_in (p + 1) 253 (by omega) (nI_1 p), nm_r (rd_rd hI (p + 1) (by omega) (by omega) (nI_1 p)) ⟨pk_in (p + 2) 253 (by omega) (nI_add p 2), nm_r (rd_rd hI (p + 2) (by omega) (by omega) (nI_add p 2)) (br_f (by rw [e]; decide) (br_f (by rw [e]; decide) (br_f (by rw [e]; decide) (br_t (by rw [e]; decide) ?_))))⟩⟩
    refine xl_plus rfl rfl (by omega) b2 hB ⟨pk_in (m (p + 1)) 4 (by omega), nm_r (e' := upd rg (m (p + 1)) (nI ((m (p + 2) + rd_v (rg (m (p + 1)))) % 256))) (by rw [nI_clamp (by omega)]) ?_⟩
    exact xl_len h2 (nm_r (e' := nI (p + 3)) (by rw [nI_add, el]) (hp _ _ _ _ _ _ (by rw [e]; rfl)))
  · have el : rd_len (m p) = 4 := by rw [e]; rfl
    have r1 := h4 (by rw [e]; unfold rd_r1; omega)
    have r3 := h6 e
    have hlt : (m (p + 2) + rd_v (rg (m (p + 3)))) % 256 < n := by omega
    refine ⟨pk_in (p + 1) 253 (by omega) (nI_1 p), nm_r (rd_rd hI (p + 1) (by omega) (by omega) (nI_1 p)) ⟨pk_in (p + 2) 253 (by omega) (nI_add p 2), nm_r (rd_rd hI (p + 2) (by omega) (by omega) (nI_add p 2)) (br_f (by rw [e]; decide) (br_f (by rw [e]; decide) (br_f (by rw [e]; decide) (br_f (by rw [e]; decide) (br_t (by rw [e]; decide) ⟨pk_in (p + 3) 253 (by omega) (nI_add p 3), ?_⟩)))))⟩⟩
    refine xl_plus rfl (rd_rd hI (p + 3) (by omega) (by omega) (nI_add p 3)) (by omega) b2 hB ⟨pk_in ((m (p + 2) + rd_v (rg (m (p + 3)))) % 256) 253 (by omega), pk_in (m (p + 1)) 4 (by omega), nm_r (e' := upd rg (m (p + 1)) (nI (m ((m (p + 2) + rd_v (rg (m (p + 3)))) % 256)))) ?_ ?_⟩
    · rw [rd_rd hI _ hlt (by omega), nI_clamp (by omega)]
    exact xl_len h2 (nm_r (e' := nI (p + 4)) (by rw [nI_add, el]) (hp _ _ _ _ _ _ (by rw [e]; rfl)))
  · have el : rd_len (m p) = 2 := by rw [e]; rfl
    have r1 := h4 (by rw [e]; unfold rd_r1; omega)
    have hr := rd_rd hI (p + 1) (by omega) (by omega) (x := nI p + 1) (nI_1 p)
    refine ⟨pk_in (p + 1) 253 (by omega) (nI_1 p), pk_in (m (p + 1)) 4 (by omega) hr, pk_in c 16 (by omega), nm_r (e' := upd vl c (rg (m (p + 1)))) ?_ (nm_r (nI_1 c) (nm_r (nI_add p 2) (hp _ _ _ _ _ _ (by rw [e]; rfl))))⟩
    rw [hr, nI_clamp (by omega), nI_clamp (by omega)]
  · have el : rd_len (m p) = 2 := by rw [e]; rfl
    refine nm_r (nI_add p 2) ?_
    exact br_t (by rw [e]; decide) ⟨pk_in (p + 1) 253 (by omega) (nI_1 p), nm_r (rd_rd hI (p + 1) (by omega) (by omega) (nI_1 p)) (hp _ _ _ _ _ _ (by rw [e]; rfl))⟩
  · have el : rd_len (m p) = 4 := by rw [e]; rfl
    have r1 := h4 (by rw [e]; unfold rd_r1; omega)
    have hr := rd_rd hI (p + 1) (by omega) (by omega) (x := nI p + 1) (nI_1 p)
    have hv := (rd_By_v hB (m (p + 1))).1
    refine nm_r (nI_add p 4) (br_f (by rw [e]; decide) (br_f (by rw [e]; decide) (br_t (by rw [e]; decide) ⟨pk_in (p + 1) 253 (by omega) (nI_1 p), pk_in (m (p + 1)) 4 (by omega) hr, pk_in (p + 2) 253 (by omega) (nI_add p 2), ?_⟩)))
    refine pk_eq (rd_v (rg (m (p + 1)))) (m (p + 2)) (fun h => ⟨pk_in (p + 3) 253 (by omega) (nI_add p 3), nm_r (rd_rd hI (p + 3) (by omega) (by omega) (nI_add p 3)) (hp _ _ _ _ _ _ ?_)⟩) (fun h => hp _ _ _ _ _ _ ?_) (rd_rv hB hr (by omega)) (rd_rd hI (p + 2) (by omega) (by omega) (nI_add p 2))
    · rw [e]
      show (rd_if _ _ _, _) = _
      rw [rd_if_t h]
    · rw [e]
      show (rd_if _ _ _, _) = _
      rw [rd_if_f h]
  · have el : rd_len (m p) = 4 := by rw [e]; rfl
    have r1 := h4 (by rw [e]; unfold rd_r1; omega)
    have hr := rd_rd hI (p + 1) (by omega) (by omega) (x := nI p + 1) (nI_1 p)
    have hv := (rd_By_v hB (m (p + 1))).1
    refine nm_r (nI_add p 4) (br_f (by rw [e]; decide) (br_f (by rw [e]; decide) (br_f (by rw [e]; decide) (br_t (by rw [e]; decide) ⟨pk_in (p + 1) 253 (by omega) (nI_1 p), pk_in (m (p + 1)) 4 (by omega) hr, pk_in (p + 2) 253 (by omega) (nI_add p 2), ?_⟩))))
    refine pk_lt (rd_v (rg (m (p + 1)))) (m (p + 2)) (fun h => hp _ _ _ _ _ _ ?_) (fun h => ⟨pk_in (p + 3) 253 (by omega) (nI_add p 3), nm_r (rd_rd hI (p + 3) (by omega) (by omega) (nI_add p 3)) (hp _ _ _ _ _ _ ?_)⟩) (rd_rv hB hr (by omega)) (rd_rd hI (p + 2) (by omega) (by omega) (nI_add p 2))
    · rw [e]
      show (rd_if _ _ _, _) = _
      rw [rd_if_f (by omega)]
    · rw [e]
      show (rd_if _ _ _, _) = _
      rw [rd_if_t h]
  · have el : rd_len (m p) = 2 := by rw [e]; rfl
    refine nm_r (nI_add p 2) (br_f (by rw [e]; decide) (br_f (by rw [e]; decide) (br_f (by rw [e]; decide) (br_f (by rw [e]; decide) (br_t (by rw [e]; decide) ⟨pk_in d 8 (by omega), nm_r (e' := upd sk d (nI (p + 2))) (by rw [nI_clamp (by omega)]) (nm_r (nI_1 d) ⟨pk_in (p + 1) 253 (by omega) (nI_1 p), nm_r (rd_rd hI (p + 1) (by omega) (by omega) (nI_1 p)) (hp _ _ _ _ _ _ (by rw [e]; rfl))⟩)⟩)))))
  · have hsub : nI d - 1 = nI (d - 1) := pk_sub (b := 1) (by omega)
    refine nm_r (nI_add p 1) (br_f (by rw [e]; decide) (br_f (by rw [e]; decide) (br_f (by rw [e]; decide) (br_f (by rw [e]; decide) (br_f (by rw [e]; decide) (br_t (by rw [e]; decide) (nm_r hsub ⟨pk_in (d - 1) 8 (by omega), nm_r (rd_rv hK rfl (by omega)) (hp _ _ _ _ _ _ (by rw [e]; rfl))⟩)))))))
  · have el : rd_len (m p) = 3 := by rw [e]; rfl
    have r1 := h4 (by rw [e]; unfold rd_r1; omega)
    have hlt : (m (p + 2) + rd_v (rg (m (p + 1)))) % 256 < n := by omega
    refine nm_r (nI_add p 3) (br_f (by rw [e]; decide) (br_f (by rw [e]; decide) (br_f (by rw [e]; decide) (br_f (by rw [e]; decide) (br_f (by rw [e]; decide) (br_f (by rw [e]; decide) (br_t (by rw [e]; decide) ⟨pk_in (p + 2) 253 (by omega) (nI_add p 2), pk_in (p + 1) 253 (by omega) (nI_1 p), ?_⟩)))))))
    exact xl_plus (rd_rd hI (p + 2) (by omega) (by omega) (nI_add p 2)) (rd_rd hI (p + 1) (by omega) (by omega) (nI_1 p)) (by omega) b2 hB ⟨pk_in ((m (p + 2) + rd_v (rg (m (p + 1)))) % 256) 253 (by omega), nm_r (rd_rd hI _ hlt (by omega)) (hp _ _ _ _ _ _ (by rw [e]; rfl))⟩
  · have el : rd_len (m p) = 2 := by rw [e]; rfl
    have r1 := h4 (by rw [e]; unfold rd_r1; omega)
    have hr := rd_rd hI (p + 1) (by omega) (by omega) (x := nI p + 1) (nI_1 p)
    refine nm_r (nI_add p 2) (br_f (by rw [e]; decide) (br_f (by rw [e]; decide) (br_f (by rw [e]; decide) (br_f (by rw [e]; decide) (br_f (by rw [e]; decide) (br_f (by rw [e]; decide) (br_f (by rw [e]; decide) (br_t (by rw [e]; decide) ⟨pk_in (p + 1) 253 (by omega) (nI_1 p), pk_in (m (p + 1)) 4 (by omega) hr, nm_r (rd_rv hB hr (by omega)) (hp _ _ _ _ _ _ (by rw [e]; rfl))⟩))))))))
theorem xl_halt_output {post : SX → Prop} (hn : n ≤ 253) (hI : ∀ j, j < n → a_output j = nI (m j)) (ho : rd_ok m n p) (h0 : m p = 0) (hp : post (f_capacity, nI s, f_entryCount, f_analysed, f_outputSize, 1, f_steps, nI p, nI d, nI c, a_image, a_entry, a_reached, a_classes, a_symbolic, a_functionStart, a_newAddress, a_output, rg, sk, vl)) : wpX_perform__output post (f_capacity, nI s, f_entryCount, f_analysed, f_outputSize, f_status, f_steps, nI p, nI d, nI c, a_image, a_entry, a_reached, a_classes, a_symbolic, a_functionStart, a_newAddress, a_output, rg, sk, vl) := by
  have h1 := ho.1
  refine ⟨pk_in p 253 (by omega), nm_r (rd_rd hI p h1 (by omega)) ?_⟩
  exact br_f (by rw [h0]; decide) (br_f (by rw [h0]; decide) (br_t (by rw [h0]; decide) hp))
end
end
section
/-! X: the machine's loop -/
section
variable {f_capacity f_size f_entryCount f_analysed f_outputSize f_status f_steps f_pc f_depth f_valueCount : Int32} {a_image a_entry a_reached a_classes a_symbolic a_functionStart a_newAddress a_output a_registers a_stack a_values : Nat → Int32} {m : Nat → Nat} {s n mx : Nat} {post : SX → Prop}
/-- X's state with what the machine left in it -/
def rd_Xm (f_capacity f_size f_entryCount f_analysed f_outputSize f_status f_steps f_pc f_depth f_valueCount : Int32) (a_image a_entry a_reached a_classes a_symbolic a_functionStart a_newAddress a_output a_registers a_stack a_values : Nat → Int32) (w : Int32 × Nat × rd_MS) : SX := (f_capacity, f_size, f_entryCount, f_analysed, f_outputSize, w.1, nI w.2.1, nI w.2.2.1, nI w.2.2.2.2.2.1, nI w.2.2.2.2.2.2.2, a_image, a_entry, a_reached, a_classes, a_symbolic, a_functionStart, a_newAddress, a_output, w.2.2.2.1, w.2.2.2.2.1, w.2.2.2.2.2.2.1)
theorem xl_loop_image (hn : n ≤ 64) (hmx : mx ≤ 2000) (hI : ∀ j, j < n → a_image j = nI (m j)) (hb : ∀ j, m j < 256) : ∀ (k st F : Nat) (u : rd_MS), rd_MI u → st + k = mx → k + 2 ≤ F → post (rd_Xm f_capacity (nI s) f_entryCount f_analysed f_outputSize f_status f_steps f_pc f_depth f_valueCount a_image a_entry a_reached a_classes a_symbolic a_functionStart a_newAddress a_output a_registers a_stack a_values (rd_exec m n k st u)) → wX_execute__image_3 post (nI n) (nI mx) F (nI st) f_capacity (nI s) f_entryCount f_analysed f_outputSize 0 (nI st) (nI u.1) (nI u.2.2.2.1) (nI u.2.2.2.2.2) a_image a_entry a_reached a_classes a_symbolic a_functionStart a_newAddress a_output u.2.1 u.2.2.1 u.2.2.2.2.1 := by
  intro k
  induction k with
  | zero =>
    intro st F u hu hst hF hp
    obtain ⟨F, rfl⟩ : ∃ G, F = G + 1 := ⟨F - 1, by omega⟩
    exact pk_le mx st (fun _ => br_t rfl hp) (fun z => absurd z (by omega))
  | succ k ih =>
    intro st F u hu hst hF hp
    obtain ⟨F, rfl⟩ : ∃ G, F = G + 2 := ⟨F - 2, by omega⟩
    obtain ⟨p, rg, sk, d, vl, c⟩ := u
    have hMI := hu
    obtain ⟨hpp, hB, hK, hd, hc⟩ := hu
    dsimp only at hpp hB hK hd hc
    have B : ∀ h : ¬ rd_ok m n p ∨ rd_fl m n (p, rg, sk, d, vl, c), wX_execute__image_3 post (nI n) (nI mx) (F + 1) (nI (st + 1)) f_capacity (nI s) f_entryCount f_analysed f_outputSize 2 (nI st) (nI p) (nI d) (nI c) a_image a_entry a_reached a_classes a_symbolic a_functionStart a_newAddress a_output rg sk vl := by
      intro h
      rw [rd_exec_b (u := (p, rg, sk, d, vl, c)) k st h] at hp
      have h2 : ¬ (2 : Int32) = 0 := by decide
      exact pk_le mx (st + 1) (fun _ => br_f h2 hp) (fun _ => br_f h2 (br_f h2 hp))
    refine pk_le mx st (fun z => absurd z (by omega)) (fun _ => br_t rfl ?_)
    refine xl_dec_image hn hI hb (by omega) ?_
    refine rd_brb (fun h => nm_r (nI_1 st) (B (Or.inl h))) (fun ho => ?_)
    refine xl_flt_image hn hI hb hB hd hc ho ?_
    refine rd_brb (fun hf => ?_) (fun hf => nm_r (nI_1 st) (B (Or.inr hf)))
    by_cases h0 : m p = 0
    · refine xl_halt_image hn hI ho h0 (nm_r (nI_1 st) (nm_r (nI_1 st) ?_))
      rw [rd_exec_h (u := (p, rg, sk, d, vl, c)) k st ho hf h0] at hp
      have h1 : ¬ (1 : Int32) = 0 := by decide
      exact pk_le mx (st + 1) (fun _ => br_f h1 hp) (fun _ => br_f h1 (br_f h1 hp))
    · rw [rd_exec_n (u := (p, rg, sk, d, vl, c)) k st ho hf h0] at hp
      have hM := rd_MI_nxt (u := (p, rg, sk, d, vl, c)) (by omega) hb hMI ho hf h0
      refine xl_perf_image hn hI hb hB hK hd hc ho hf h0 fun p' rg' sk' d' vl' c' e => nm_r (nI_1 st) (nm_r (nI_1 st) ?_)
      have e' : rd_nxt m (p, rg, sk, d, vl, c) = (p', rg', sk', d', vl', c') := e
      rw [e'] at hp hM
      exact ih (st + 1) (F + 1) (p', rg', sk', d', vl', c') hM (by omega) (by omega) hp
theorem xl_loop_output (hn : n ≤ 253) (hmx : mx ≤ 2000) (hI : ∀ j, j < n → a_output j = nI (m j)) (hb : ∀ j, m j < 256) : ∀ (k st F : Nat) (u : rd_MS), rd_MI u → st + k = mx → k + 2 ≤ F → post (rd_Xm f_capacity (nI s) f_entryCount f_analysed f_outputSize f_status f_steps f_pc f_depth f_valueCount a_image a_entry a_reached a_classes a_symbolic a_functionStart a_newAddress a_output a_registers a_stack a_values (rd_exec m n k st u)) → wX_execute__output_3 post (nI n) (nI mx) F (nI st) f_capacity (nI s) f_entryCount f_analysed f_outputSize 0 (nI st) (nI u.1) (nI u.2.2.2.1) (nI u.2.2.2.2.2) a_image a_entry a_reached a_classes a_symbolic a_functionStart a_newAddress a_output u.2.1 u.2.2.1 u.2.2.2.2.1 := by
  intro k
  induction k with
  | zero =>
    intro st F u hu hst hF hp
    obtain ⟨F, rfl⟩ : ∃ G, F = G + 1 := ⟨F - 1, by omega⟩
    exact pk_le mx st (fun _ => br_t rfl hp) (fun z => absurd z (by omega))
  | succ k ih =>
    intro st F u hu hst hF hp
    obtain ⟨F, rfl⟩ : ∃ G, F = G + 2 := ⟨F - 2, by omega⟩
    obtain ⟨p, rg, sk, d, vl, c⟩ := u
    have hMI := hu
    obtain ⟨hpp, hB, hK, hd, hc⟩ := hu
    dsimp only at hpp hB hK hd hc
    have B : ∀ h : ¬ rd_ok m n p ∨ rd_fl m n (p, rg, sk, d, vl, c), wX_execute__output_3 post (nI n) (nI mx) (F + 1) (nI (st + 1)) f_capacity (nI s) f_entryCount f_analysed f_outputSize 2 (nI st) (nI p) (nI d) (nI c) a_image a_entry a_reached a_classes a_symbolic a_functionStart a_newAddress a_output rg sk vl := by
      intro h
      rw [rd_exec_b (u := (p, rg, sk, d, vl, c)) k st h] at hp
      have h2 : ¬ (2 : Int32) = 0 := by decide
      exact pk_le mx (st + 1) (fun _ => br_f h2 hp) (fun _ => br_f h2 (br_f h2 hp))
    refine pk_le mx st (fun z => absurd z (by omega)) (fun _ => br_t rfl ?_)
    refine xl_dec_output hn hI hb (by omega) ?_
    refine rd_brb (fun h => nm_r (nI_1 st) (B (Or.inl h))) (fun ho => ?_)
    refine xl_flt_output hn hI hb hB hd hc ho ?_
    refine rd_brb (fun hf => ?_) (fun hf => nm_r (nI_1 st) (B (Or.inr hf)))
    by_cases h0 : m p = 0
    · refine xl_halt_output hn hI ho h0 (nm_r (nI_1 st) (nm_r (nI_1 st) ?_))
      rw [rd_exec_h (u := (p, rg, sk, d, vl, c)) k st ho hf h0] at hp
      have h1 : ¬ (1 : Int32) = 0 := by decide
      exact pk_le mx (st + 1) (fun _ => br_f h1 hp) (fun _ => br_f h1 (br_f h1 hp))
    · rw [rd_exec_n (u := (p, rg, sk, d, vl, c)) k st ho hf h0] at hp
      have hM := rd_MI_nxt (u := (p, rg, sk, d, vl, c)) (by omega) hb hMI ho hf h0
      refine xl_perf_output hn hI hb hB hK hd hc ho hf h0 fun p' rg' sk' d' vl' c' e => nm_r (nI_1 st) (nm_r (nI_1 st) ?_)
      have e' : rd_nxt m (p, rg, sk, d, vl, c) = (p', rg', sk', d', vl', c') := e
      rw [e'] at hp hM
      exact ih (st + 1) (F + 1) (p', rg', sk', d', vl', c') hM (by omega) (by omega) hp
end
end
section
/-! Y: the machine -/
section
variable {f_cap f_size f_nent f_analysed f_pad f_changed f_status f_steps f_pc f_outCount f_depth : Int32} {a_img a_ent a_inS a_reg a_outs a_stack a_mem : Nat → Int32} {m : Nat → Nat} {s n mx : Nat} {post : Int32 → SY → Prop}
def rd_Ym (f_cap f_size f_nent f_analysed f_pad f_changed f_status f_steps f_pc f_outCount f_depth : Int32) (a_img a_ent a_inS a_reg a_outs a_stack a_mem : Nat → Int32) (w : Int32 × Nat × rd_MS) : SY := (f_cap, f_size, f_nent, f_analysed, f_pad, f_changed, w.1, nI w.2.1, nI w.2.2.1, nI w.2.2.2.2.2.2.2, nI w.2.2.2.2.2.1, a_img, a_ent, a_inS, w.2.2.2.1, w.2.2.2.2.2.2.1, w.2.2.2.2.1, a_mem)
theorem yl_getf {post : Int32 → Prop} (hn : n ≤ 253) (hm : ∀ j, j < n → a_mem j = nI (m j)) {i : Nat} (hi : i < 2 ^ 30) {x : Int32} (hx : x = nI i) (hp : ∀ r, (i < n → r = nI (m i)) → post r) : wpY_get post (f_cap, nI s, f_nent, f_analysed, f_pad, f_changed, f_status, f_steps, f_pc, f_outCount, f_depth, a_img, a_ent, a_inS, a_reg, a_outs, a_stack, a_mem) 1 x := by
  by_cases h : i < n
  · exact yl_get1 (by omega) hx (hp _ fun _ => hm i h)
  · exact yl_get1_any hi hx fun r => hp r fun z => absurd z h
theorem rd_and3 {r : Nat} (h : r ≤ 3) : nI r &&& 3 = nI r := by
  have e := pk_andN (n := r) (by omega) (m := 3) 2 (by decide)
  rw [e]
  congr 1
  exact Nat.mod_eq_of_lt (by omega)
theorem yl_step {J : Int32 → Int32 → Int32 → Int32 → Int32 → (Nat → Int32) → (Nat → Int32) → (Nat → Int32) → (Nat → Int32) → (Nat → Int32) → (Nat → Int32) → (Nat → Int32) → Prop} {st it p d c : Nat} {rg sk vl : Nat → Int32} {r1 r2 r3 : Int32} (hn : n ≤ 253) (hm : ∀ j, j < n → a_mem j = nI (m j)) (hb : ∀ j, m j < 256) (hB : rd_By rg) (hK : rd_By sk) (hd : d ≤ 8) (hc : c ≤ 16) (ho : rd_ok m n p)
    (hr1 : p + 1 < n → r1 = nI (m (p + 1))) (hr2 : p + 2 < n → r2 = nI (m (p + 2))) (hr3 : p + 3 < n → r3 = nI (m (p + 3)))
    (hF : rd_flt m n (m p) p rg d c → post 1 (f_cap, nI s, f_nent, f_analysed, f_pad, f_changed, 2, nI st, nI p, nI c, nI d, a_img, a_ent, a_inS, rg, vl, sk, a_mem))
    (hH : ¬ rd_flt m n (m p) p rg d c → m p = 0 → post 1 (f_cap, nI s, f_nent, f_analysed, f_pad, f_changed, 1, nI (st + 1), nI p, nI c, nI d, a_img, a_ent, a_inS, rg, vl, sk, a_mem))
    (hJ' : ¬ rd_flt m n (m p) p rg d c → ¬ m p = 0 → ∀ p' rg' sk' d' vl' c', rd_nx m (m p) p rg sk d vl c = (p', rg', sk', d', vl', c') → J (nI (it + 1)) (nI (st + 1)) (nI p') (nI c') (nI d') a_img a_ent a_inS rg' vl' sk' a_mem) :
    ∀ x10 : Int32, x10 = r1 &&& 3 → ((nI (m p) = 6 → (vp_in (r3 &&& 3) 4 ∧ (∀ x11 : Int32, x11 = (r2 + (rg (r3 &&& 3).toNatClampNeg)) &&& 255 → (wY_run_282 post J (nI mx) (nI n) (nI it) (nI (m p)) r1 r2 r3 x10 x11 f_cap (nI s) f_nent f_analysed f_pad f_changed 0 (nI st) (nI p) (nI c) (nI d) a_img a_ent a_inS rg vl sk a_mem)))) ∧ (¬ nI (m p) = 6 → (wY_run_282 post J (nI mx) (nI n) (nI it) (nI (m p)) r1 r2 r3 x10 0 f_cap (nI s) f_nent f_analysed f_pad f_changed 0 (nI st) (nI p) (nI c) (nI d) a_img a_ent a_inS rg vl sk a_mem))) := by
  obtain ⟨h1, h2, h3, h4, h5, h6⟩ := ho
  have b1 := hb (p + 1)
  have b2 := hb (p + 2)
  have b3 := hb (p + 3)
  have NF : (m p ≠ 6 ∧ m p ≠ 13 ∧ m p ≠ 7 ∧ m p ≠ 11 ∧ m p ≠ 12) → ¬ rd_flt m n (m p) p rg d c := fun h z => by unfold rd_flt at z; omega
  rcases rd_op15 h2 with e | e | e | e | e | e | e | e | e | e | e | e | e | e | e
  · have hf := NF (by omega)
    refine nm_e ?_
    (repeat (first | refine br_t (by rw [e]; decide) ?_ | refine br_f (by rw [e]; decide) ?_ | refine br_t rfl ?_))
    exact nm_r (nI_1 st) (hH hf e)
  · have hJ := hJ' (NF (by omega)) (by omega)
    refine nm_e ?_
    (repeat (first | refine br_t (by rw [e]; decide) ?_ | refine br_f (by rw [e]; decide) ?_ | refine br_t rfl ?_))
    refine nm_r (nI_add p 1) ?_
    (repeat (first | refine br_t (by rw [e]; decide) ?_ | refine br_f (by rw [e]; decide) ?_ | refine br_t rfl ?_))
    exact nm_r (nI_1 st) (nm_r (nI_1 it) (hJ _ _ _ _ _ _ (by rw [e]; rfl)))
  · have hJ := hJ' (NF (by omega)) (by omega)
    have el : rd_len (m p) = 3 := by rw [e]; rfl
    obtain rfl := hr1 (by omega)
    obtain rfl := hr2 (by omega)
    have k1 := h4 (by rw [e]; unfold rd_r1; omega)
    refine nm_r (rd_and3 k1) ?_
    (repeat (first | refine br_t (by rw [e]; decide) ?_ | refine br_f (by rw [e]; decide) ?_ | refine br_t rfl ?_))
    refine nm_r (nI_add p 3) ?_
    (repeat (first | refine br_t (by rw [e]; decide) ?_ | refine br_f (by rw [e]; decide) ?_ | refine br_t rfl ?_))
    refine ⟨pk_in (m (p + 1)) 4 (by omega), nm_r (e' := upd rg (m (p + 1)) (nI (m (p + 2)))) (by rw [nI_clamp (by omega)]) ?_⟩
    (repeat (first | refine br_t (by rw [e]; decide) ?_ | refine br_f (by rw [e]; decide) ?_ | refine br_t rfl ?_))
    exact nm_r (nI_1 st) (nm_r (nI_1 it) (hJ _ _ _ _ _ _ (by rw [e]; rfl)))
  · have hJ := hJ' (NF (by omega)) (by omega)
    have el : rd_len (m p) = 3 := by rw [e]; rfl
    obtain rfl := hr1 (by omega)
    obtain rfl := hr2 (by omega)
    have k1 := h4 (by rw [e]; unfold rd_r1; omega)
    refine nm_r (rd_and3 k1) ?_
    (repeat (first | refine br_t (by rw [e]; decide) ?_ | refine br_f (by rw [e]; decide) ?_ | refine br_t rfl ?_))
    refine nm_r (nI_add p 3) ?_
    (repeat (first | refine br_t (by rw [e]; decide) ?_ | refine br_f (by rw [e]; decide) ?_ | refine br_t rfl ?_))
    refine ⟨pk_in (m (p + 1)) 4 (by omega), nm_r (e' := upd rg (m (p + 1)) (nI (m (p + 2)))) (by rw [nI_clamp (by omega)]) ?_⟩
    (repeat (first | refine br_t (by rw [e]; decide) ?_ | refine br_f (by rw [e]; decide) ?_ | refine br_t rfl ?_))
    exact nm_r (nI_1 st) (nm_r (nI_1 it) (hJ _ _ _ _ _ _ (by rw [e]; rfl)))
  · have hJ := hJ' (NF (by omega)) (by omega)
    have el : rd_len (m p) = 3 := by rw [e]; rfl
    obtain rfl := hr1 (by omega)
    obtain rfl := hr2 (by omega)
    have k1 := h4 (by rw [e]; unfold rd_r1; omega)
    have k2 := h5 e
    have v1 := (rd_By_v hB (m (p + 1))).1
    have v2 := (rd_By_v hB (m (p + 2))).1
    refine nm_r (rd_and3 k1) ?_
    (repeat (first | refine br_t (by rw [e]; decide) ?_ | refine br_f (by rw [e]; decide) ?_ | refine br_t rfl ?_))
    refine nm_r (nI_add p 3) ?_
    (repeat (first | refine br_t (by rw [e]; decide) ?_ | refine br_f (by rw [e]; decide) ?_ | refine br_t rfl ?_))
    refine ⟨pk_in (m (p + 1)) 4 (by omega), pk_in (m (p + 2)) 4 (by omega) (rd_and3 k2), pk_in (m (p + 1)) 4 (by omega), nm_r (e' := upd rg (m (p + 1)) (nI ((rd_v (rg (m (p + 1))) + rd_v (rg (m (p + 2)))) % 256))) ?_ ?_⟩
    · rw [rd_add255 (rd_rv hB rfl (by omega)) (rd_rv hB (rd_and3 k2) (by omega)) (by omega), nI_clamp (by omega)]
    (repeat (first | refine br_t (by rw [e]; decide) ?_ | refine br_f (by rw [e]; decide) ?_ | refine br_t rfl ?_))
    exact nm_r (nI_1 st) (nm_r (nI_1 it) (hJ _ _ _ _ _ _ (by rw [e]; rfl)))
  · have hJ := hJ' (NF (by omega)) (by omega)
    have el : rd_len (m p) = 3 := by rw [e]; rfl
    obtain rfl := hr1 (by omega)
    obtain rfl := hr2 (by omega)
    have k1 := h4 (by rw [e]; unfold rd_r1; omega)
    have v1 := (rd_By_v hB (m (p + 1))).1
    refine nm_r (rd_and3 k1) ?_
    (repeat (first | refine br_t (by rw [e]; decide) ?_ | refine br_f (by rw [e]; decide) ?_ | refine br_t rfl ?_))
    refine nm_r (nI_add p 3) ?_
    (repeat (first | refine br_t (by rw [e]; decide) ?_ | refine br_f (by rw [e]; decide) ?_ | refine br_t rfl ?_))
    refine ⟨pk_in (m (p + 1)) 4 (by omega), pk_in (m (p + 1)) 4 (by omega), nm_r (e' := upd rg (m (p + 1)) (nI ((m (p + 2) + rd_v (rg (m (p + 1)))) % 256))) ?_ ?_⟩
    · rw [rd_add255 (rd_rv hB rfl (by omega)) rfl (by omega), nI_clamp (by omega), Nat.add_comm (m (p + 2))]
    (repeat (first | refine br_t (by rw [e]; decide) ?_ | refine br_f (by rw [e]; decide) ?_ | refine br_t rfl ?_))
    exact nm_r (nI_1 st) (nm_r (nI_1 it) (hJ _ _ _ _ _ _ (by rw [e]; rfl)))
  · have el : rd_len (m p) = 4 := by rw [e]; rfl
    obtain rfl := hr1 (by omega)
    obtain rfl := hr2 (by omega)
    obtain rfl := hr3 (by omega)
    have k1 := h4 (by rw [e]; unfold rd_r1; omega)
    have k3 := h6 e
    have v3 := (rd_By_v hB (m (p + 3))).1
    have hmod := Nat.mod_lt (m (p + 2) + rd_v (rg (m (p + 3)))) (show 0 < 256 by omega)
    refine nm_r (rd_and3 k1) ?_
    refine br_t (by rw [e]; decide) ⟨pk_in (m (p + 3)) 4 (by omega) (rd_and3 k3), nm_r (e' := nI ((m (p + 2) + rd_v (rg (m (p + 3)))) % 256)) (rd_add255 rfl (rd_rv hB (rd_and3 k3) (by omega)) (by omega)) ?_⟩
    (repeat (first | refine br_t (by rw [e]; decide) ?_ | refine br_f (by rw [e]; decide) ?_ | refine br_t rfl ?_))
    refine pk_lt ((m (p + 2) + rd_v (rg (m (p + 3)))) % 256) n (fun hlt => ?_) (fun hge => ?_)
    · have hJ := hJ' (fun z => by unfold rd_flt at z; omega) (by omega)
      (repeat (first | refine br_t (by rw [e]; decide) ?_ | refine br_f (by rw [e]; decide) ?_ | refine br_t rfl ?_))
      refine nm_r (nI_add p 4) ?_
      (repeat (first | refine br_t (by rw [e]; decide) ?_ | refine br_f (by rw [e]; decide) ?_ | refine br_t rfl ?_))
      refine yl_get1 (by omega) rfl ?_
      refine ⟨pk_in (m (p + 1)) 4 (by omega), nm_r (e' := upd rg (m (p + 1)) (nI (m ((m (p + 2) + rd_v (rg (m (p + 3)))) % 256)))) ?_ ?_⟩
      · rw [nI_clamp (by omega), hm _ hlt]
      (repeat (first | refine br_t (by rw [e]; decide) ?_ | refine br_f (by rw [e]; decide) ?_ | refine br_t rfl ?_))
      exact nm_r (nI_1 st) (nm_r (nI_1 it) (hJ _ _ _ _ _ _ (by rw [e]; rfl)))
    · have hh := hF (Or.inl ⟨e, hge⟩)
      (repeat (first | refine br_t (by rw [e]; decide) ?_ | refine br_f (by rw [e]; decide) ?_ | refine br_t rfl ?_))
      exact br_f (by decide) hh
  · have el : rd_len (m p) = 2 := by rw [e]; rfl
    obtain rfl := hr1 (by omega)
    have k1 := h4 (by rw [e]; unfold rd_r1; omega)
    refine nm_r (rd_and3 k1) ?_
    (repeat (first | refine br_t (by rw [e]; decide) ?_ | refine br_f (by rw [e]; decide) ?_ | refine br_t rfl ?_))
    refine pk_lt c 16 (fun hlt => ?_) (fun hge => ?_)
    · have hJ := hJ' (fun z => by unfold rd_flt at z; omega) (by omega)
      (repeat (first | refine br_t (by rw [e]; decide) ?_ | refine br_f (by rw [e]; decide) ?_ | refine br_t rfl ?_))
      refine nm_r (nI_add p 2) ?_
      (repeat (first | refine br_t (by rw [e]; decide) ?_ | refine br_f (by rw [e]; decide) ?_ | refine br_t rfl ?_))
      refine pk_le 16 c (fun z => absurd z (by omega)) (fun _ => ⟨pk_in (m (p + 1)) 4 (by omega), pk_in c 16 (by omega), nm_r (e' := upd vl c (rg (m (p + 1)))) (by rw [nI_clamp (by omega), nI_clamp (by omega)]) (nm_r (nI_1 c) ?_)⟩)
      (repeat (first | refine br_t (by rw [e]; decide) ?_ | refine br_f (by rw [e]; decide) ?_ | refine br_t rfl ?_))
      exact nm_r (nI_1 st) (nm_r (nI_1 it) (hJ _ _ _ _ _ _ (by rw [e]; rfl)))
    · have hh := hF (Or.inr (Or.inr (Or.inl ⟨e, hge⟩)))
      (repeat (first | refine br_t (by rw [e]; decide) ?_ | refine br_f (by rw [e]; decide) ?_ | refine br_t rfl ?_))
      exact br_f (by decide) hh
  · have hJ := hJ' (NF (by omega)) (by omega)
    have el : rd_len (m p) = 2 := by rw [e]; rfl
    obtain rfl := hr1 (by omega)
    refine nm_e ?_
    (repeat (first | refine br_t (by rw [e]; decide) ?_ | refine br_f (by rw [e]; decide) ?_ | refine br_t rfl ?_))
    refine nm_r (nI_add p 2) ?_
    (repeat (first | refine br_t (by rw [e]; decide) ?_ | refine br_f (by rw [e]; decide) ?_ | refine br_t rfl ?_))
    exact nm_r (nI_1 st) (nm_r (nI_1 it) (hJ _ _ _ _ _ _ (by rw [e]; rfl)))
  · have hJ := hJ' (NF (by omega)) (by omega)
    have el : rd_len (m p) = 4 := by rw [e]; rfl
    obtain rfl := hr1 (by omega)
    obtain rfl := hr2 (by omega)
    obtain rfl := hr3 (by omega)
    have k1 := h4 (by rw [e]; unfold rd_r1; omega)
    have v1 := (rd_By_v hB (m (p + 1))).1
    refine nm_r (rd_and3 k1) ?_
    (repeat (first | refine br_t (by rw [e]; decide) ?_ | refine br_f (by rw [e]; decide) ?_ | refine br_t rfl ?_))
    refine nm_r (nI_add p 4) ?_
    (repeat (first | refine br_t (by rw [e]; decide) ?_ | refine br_f (by rw [e]; decide) ?_ | refine br_t rfl ?_))
    refine ⟨pk_in (m (p + 1)) 4 (by omega), pk_eq (rd_v (rg (m (p + 1)))) (m (p + 2)) (fun h => ?_) (fun h => ?_) (rd_rv hB rfl (by omega)) rfl⟩
    · (repeat (first | refine br_t (by rw [e]; decide) ?_ | refine br_f (by rw [e]; decide) ?_ | refine br_t rfl ?_))
      refine nm_r (nI_1 st) (nm_r (nI_1 it) (hJ _ _ _ _ _ _ ?_))
      rw [e]
      show (rd_if _ _ _, _) = _
      rw [rd_if_t h]
    · (repeat (first | refine br_t (by rw [e]; decide) ?_ | refine br_f (by rw [e]; decide) ?_ | refine br_t rfl ?_))
      refine nm_r (nI_1 st) (nm_r (nI_1 it) (hJ _ _ _ _ _ _ ?_))
      rw [e]
      show (rd_if _ _ _, _) = _
      rw [rd_if_f h]
  · have hJ := hJ' (NF (by omega)) (by omega)
    have el : rd_len (m p) = 4 := by rw [e]; rfl
    obtain rfl := hr1 (by omega)
    obtain rfl := hr2 (by omega)
    obtain rfl := hr3 (by omega)
    have k1 := h4 (by rw [e]; unfold rd_r1; omega)
    have v1 := (rd_By_v hB (m (p + 1))).1
    refine nm_r (rd_and3 k1) ?_
    (repeat (first | refine br_t (by rw [e]; decide) ?_ | refine br_f (by rw [e]; decide) ?_ | refine br_t rfl ?_))
    refine nm_r (nI_add p 4) ?_
    (repeat (first | refine br_t (by rw [e]; decide) ?_ | refine br_f (by rw [e]; decide) ?_ | refine br_t rfl ?_))
    refine ⟨pk_in (m (p + 1)) 4 (by omega), pk_lt (rd_v (rg (m (p + 1)))) (m (p + 2)) (fun h => ?_) (fun h => ?_) (rd_rv hB rfl (by omega)) rfl⟩
    · (repeat (first | refine br_t (by rw [e]; decide) ?_ | refine br_f (by rw [e]; decide) ?_ | refine br_t rfl ?_))
      refine nm_r (nI_1 st) (nm_r (nI_1 it) (hJ _ _ _ _ _ _ ?_))
      rw [e]
      show (rd_if _ _ _, _) = _
      rw [rd_if_f (by omega)]
    · (repeat (first | refine br_t (by rw [e]; decide) ?_ | refine br_f (by rw [e]; decide) ?_ | refine br_t rfl ?_))
      refine nm_r (nI_1 st) (nm_r (nI_1 it) (hJ _ _ _ _ _ _ ?_))
      rw [e]
      show (rd_if _ _ _, _) = _
      rw [rd_if_t h]
  · have el : rd_len (m p) = 2 := by rw [e]; rfl
    obtain rfl := hr1 (by omega)
    refine nm_e ?_
    (repeat (first | refine br_t (by rw [e]; decide) ?_ | refine br_f (by rw [e]; decide) ?_ | refine br_t rfl ?_))
    refine pk_lt d 8 (fun hlt => ?_) (fun hge => ?_)
    · have hJ := hJ' (fun z => by unfold rd_flt at z; omega) (by omega)
      (repeat (first | refine br_t (by rw [e]; decide) ?_ | refine br_f (by rw [e]; decide) ?_ | refine br_t rfl ?_))
      refine nm_r (nI_add p 2) ?_
      (repeat (first | refine br_t (by rw [e]; decide) ?_ | refine br_f (by rw [e]; decide) ?_ | refine br_t rfl ?_))
      refine pk_le 8 d (fun z => absurd z (by omega)) (fun _ => ⟨pk_in d 8 (by omega), nm_r (e' := upd sk d (nI (p + 2))) (by rw [nI_clamp (by omega), ← nI_add]; rfl) (nm_r (nI_1 d) ?_)⟩)
      (repeat (first | refine br_t (by rw [e]; decide) ?_ | refine br_f (by rw [e]; decide) ?_ | refine br_t rfl ?_))
      exact nm_r (nI_1 st) (nm_r (nI_1 it) (hJ _ _ _ _ _ _ (by rw [e]; rfl)))
    · have hh := hF (Or.inr (Or.inr (Or.inr (Or.inl ⟨e, hge⟩))))
      (repeat (first | refine br_t (by rw [e]; decide) ?_ | refine br_f (by rw [e]; decide) ?_ | refine br_t rfl ?_))
      exact br_f (by decide) hh
  · refine nm_e ?_
    (repeat (first | refine br_t (by rw [e]; decide) ?_ | refine br_f (by rw [e]; decide) ?_ | refine br_t rfl ?_))
    refine pk_lt 0 d (fun hlt => ?_) (fun hge => ?_)
    · have hJ := hJ' (fun z => by unfold rd_flt at z; omega) (by omega)
      have hsub : nI d - 1 = nI (d - 1) := pk_sub (b := 1) (by omega)
      (repeat (first | refine br_t (by rw [e]; decide) ?_ | refine br_f (by rw [e]; decide) ?_ | refine br_t rfl ?_))
      refine nm_r (nI_add p 1) ?_
      (repeat (first | refine br_t (by rw [e]; decide) ?_ | refine br_f (by rw [e]; decide) ?_ | refine br_t rfl ?_))
      refine pk_le d 0 (fun z => absurd z (by omega)) (fun _ => nm_r hsub ⟨pk_in (d - 1) 8 (by omega), nm_r (rd_rv hK rfl (by omega)) ?_⟩)
      (repeat (first | refine br_t (by rw [e]; decide) ?_ | refine br_f (by rw [e]; decide) ?_ | refine br_t rfl ?_))
      exact nm_r (nI_1 st) (nm_r (nI_1 it) (hJ _ _ _ _ _ _ (by rw [e]; rfl)))
    · have hh := hF (Or.inr (Or.inr (Or.inr (Or.inr ⟨e, by omega⟩))))
      (repeat (first | refine br_t (by rw [e]; decide) ?_ | refine br_f (by rw [e]; decide) ?_ | refine br_t rfl ?_))
      exact br_f (by decide) hh
  · have el : rd_len (m p) = 3 := by rw [e]; rfl
    obtain rfl := hr1 (by omega)
    obtain rfl := hr2 (by omega)
    have k1 := h4 (by rw [e]; unfold rd_r1; omega)
    have v1 := (rd_By_v hB (m (p + 1))).1
    have hmod := Nat.mod_lt (m (p + 2) + rd_v (rg (m (p + 1)))) (show 0 < 256 by omega)
    refine nm_r (rd_and3 k1) ?_
    (repeat (first | refine br_t (by rw [e]; decide) ?_ | refine br_f (by rw [e]; decide) ?_ | refine br_t rfl ?_))
    refine ⟨pk_in (m (p + 1)) 4 (by omega), nm_r (e' := nI ((m (p + 2) + rd_v (rg (m (p + 1)))) % 256)) (rd_add255 rfl (rd_rv hB rfl (by omega)) (by omega)) ?_⟩
    (repeat (first | refine br_t (by rw [e]; decide) ?_ | refine br_f (by rw [e]; decide) ?_ | refine br_t rfl ?_))
    refine pk_lt ((m (p + 2) + rd_v (rg (m (p + 1)))) % 256) n (fun hlt => ?_) (fun hge => ?_)
    · have hJ := hJ' (fun z => by unfold rd_flt at z; omega) (by omega)
      (repeat (first | refine br_t (by rw [e]; decide) ?_ | refine br_f (by rw [e]; decide) ?_ | refine br_t rfl ?_))
      refine nm_r (nI_add p 3) ?_
      (repeat (first | refine br_t (by rw [e]; decide) ?_ | refine br_f (by rw [e]; decide) ?_ | refine br_t rfl ?_))
      refine yl_get1 (by omega) rfl ?_
      rw [hm _ hlt]
      (repeat (first | refine br_t (by rw [e]; decide) ?_ | refine br_f (by rw [e]; decide) ?_ | refine br_t rfl ?_))
      exact nm_r (nI_1 st) (nm_r (nI_1 it) (hJ _ _ _ _ _ _ (by rw [e]; rfl)))
    · have hh := hF (Or.inr (Or.inl ⟨e, hge⟩))
      (repeat (first | refine br_t (by rw [e]; decide) ?_ | refine br_f (by rw [e]; decide) ?_ | refine br_t rfl ?_))
      exact br_f (by decide) hh
  · have hJ := hJ' (NF (by omega)) (by omega)
    have el : rd_len (m p) = 2 := by rw [e]; rfl
    obtain rfl := hr1 (by omega)
    have k1 := h4 (by rw [e]; unfold rd_r1; omega)
    refine nm_r (rd_and3 k1) ?_
    (repeat (first | refine br_t (by rw [e]; decide) ?_ | refine br_f (by rw [e]; decide) ?_ | refine br_t rfl ?_))
    refine nm_r (nI_add p 2) ?_
    (repeat (first | refine br_t (by rw [e]; decide) ?_ | refine br_f (by rw [e]; decide) ?_ | refine br_t rfl ?_))
    refine ⟨pk_in (m (p + 1)) 4 (by omega), nm_r (rd_rv hB rfl (by omega)) ?_⟩
    exact nm_r (nI_1 st) (nm_r (nI_1 it) (hJ _ _ _ _ _ _ (by rw [e]; rfl)))
theorem yl_loop (hn : n ≤ 253) (hmx : mx ≤ 2000) (hm : ∀ j, j < n → a_mem j = nI (m j)) (hb : ∀ j, m j < 256) : ∀ (k st F : Nat) (u : rd_MS), rd_MI u → st + k = mx → k + 1 ≤ F → post 1 (rd_Ym f_cap (nI s) f_nent f_analysed f_pad f_changed f_status f_steps f_pc f_outCount f_depth a_img a_ent a_inS a_reg a_outs a_stack a_mem (rd_exec m n k st u)) → wY_run_145 post (nI mx) (nI n) f_cap (nI s) f_nent f_analysed f_pad f_changed 0 F (nI st) (nI st) (nI u.1) (nI u.2.2.2.2.2) (nI u.2.2.2.1) a_img a_ent a_inS u.2.1 u.2.2.2.2.1 u.2.2.1 a_mem := by
  intro k
  induction k with
  | zero =>
    intro st F u hu hst hF hp
    obtain ⟨F, rfl⟩ : ∃ G, F = G + 1 := ⟨F - 1, by omega⟩
    exact pk_lt mx st (fun z => absurd z (by omega)) (fun _ => pk_eq st mx (fun _ => hp) (fun z => absurd hst z))
  | succ k ih =>
    intro st F u hu hst hF hp
    obtain ⟨F, rfl⟩ : ∃ G, F = G + 1 := ⟨F - 1, by omega⟩
    obtain ⟨p, rg, sk, d, vl, c⟩ := u
    have hMI := hu
    obtain ⟨hpp, hB, hK, hd, hc⟩ := hu
    dsimp only at hpp hB hK hd hc
    have bp := hb p
    have B : (¬ rd_ok m n p ∨ rd_fl m n (p, rg, sk, d, vl, c)) → post 1 (f_cap, nI s, f_nent, f_analysed, f_pad, f_changed, 2, nI st, nI p, nI c, nI d, a_img, a_ent, a_inS, rg, vl, sk, a_mem) := by
      intro h
      rw [rd_exec_b (u := (p, rg, sk, d, vl, c)) k st h] at hp
      exact hp
    refine pk_lt mx st (fun z => absurd z (by omega)) (fun _ => pk_eq st mx (fun z => absurd z (by omega)) (fun _ => pk_le n p (fun z => B (Or.inl fun y => absurd y.1 (by omega))) (fun hpn => ?_)))
    refine yl_valid (m := m) (by omega) (by omega) (fun i hi x hx post hp => yl_get1 (by omega) hx (by rw [hm i hi]; exact hp)) hb ?_
    refine rd_brb (fun h => B (Or.inl h)) (fun ho => ⟨pk_in p 256 (by omega), nm_r (rd_rd hm p hpn (by omega)) ?_⟩)
    refine yl_getf hn hm (by omega) (nI_1 p) fun r1 hr1 => ?_
    refine yl_getf hn hm (by omega) (nI_add p 2) fun r2 hr2 => ?_
    refine yl_getf hn hm (by omega) (nI_add p 3) fun r3 hr3 => ?_
    refine yl_step hn hm hb hB hK hd hc ho hr1 hr2 hr3 (fun hf => B (Or.inr hf)) (fun hf h0 => ?_) (fun hf h0 p' rg' sk' d' vl' c' e => ?_)
    · rw [rd_exec_h (u := (p, rg, sk, d, vl, c)) k st ho hf h0] at hp
      exact hp
    · rw [rd_exec_n (u := (p, rg, sk, d, vl, c)) k st ho hf h0] at hp
      have hM := rd_MI_nxt (u := (p, rg, sk, d, vl, c)) hn hb hMI ho hf h0
      have e' : rd_nxt m (p, rg, sk, d, vl, c) = (p', rg', sk', d', vl', c') := e
      rw [e'] at hp hM
      exact ih (st + 1) F (p', rg', sk', d', vl', c') hM (by omega) (by omega) hp
end
end
section
/-! clearing a run, and run, on both sides -/
def rd_z4 (a : Nat → Int32) : Nat → Int32 := upd (upd (upd (upd a 0 0) 1 0) 2 0) 3 0
theorem rd_By_z4 {a : Nat → Int32} (h : rd_By a) : rd_By (rd_z4 a) :=
  rd_By_u (b := 0) (rd_By_u (b := 0) (rd_By_u (b := 0) (rd_By_u (b := 0) h 0 (by omega)) 1 (by omega)) 2 (by omega)) 3 (by omega)
section
variable {f_capacity f_size f_entryCount f_analysed f_outputSize f_status f_steps f_pc f_depth f_valueCount : Int32} {a_image a_entry a_reached a_classes a_symbolic a_functionStart a_newAddress a_output a_registers a_stack a_values : Nat → Int32} {s : Nat}
theorem xl_clear {post : SX → Prop} (hp : post (f_capacity, f_size, f_entryCount, f_analysed, f_outputSize, 0, 0, 0, 0, 0, a_image, a_entry, a_reached, a_classes, a_symbolic, a_functionStart, a_newAddress, a_output, rd_z4 a_registers, a_stack, a_values)) : wpX_clearRun post (f_capacity, f_size, f_entryCount, f_analysed, f_outputSize, f_status, f_steps, f_pc, f_depth, f_valueCount, a_image, a_entry, a_reached, a_classes, a_symbolic, a_functionStart, a_newAddress, a_output, a_registers, a_stack, a_values) :=
  ⟨5, br_f (by decide) ⟨pk_in 0 4 (by omega), nm_r (e' := upd a_registers 0 0) rfl (nm_r (e' := nI 1) rfl
    (br_f (by decide) ⟨pk_in 1 4 (by omega), nm_r (e' := upd (upd a_registers 0 0) 1 0) rfl (nm_r (e' := nI 2) rfl
    (br_f (by decide) ⟨pk_in 2 4 (by omega), nm_r (e' := upd (upd (upd a_registers 0 0) 1 0) 2 0) rfl (nm_r (e' := nI 3) rfl
    (br_f (by decide) ⟨pk_in 3 4 (by omega), nm_r (e' := rd_z4 a_registers) rfl (nm_r (e' := nI 4) rfl
    (br_t (by decide) hp))⟩))⟩))⟩))⟩⟩
end
section
variable {f_cap f_size f_nent f_analysed f_pad f_changed f_status f_steps f_pc f_outCount f_depth : Int32} {a_img a_ent a_inS a_reg a_outs a_stack a_mem : Nat → Int32} {s : Nat}
theorem yl_clear {post : SY → Prop} (hp : post (f_cap, f_size, f_nent, f_analysed, f_pad, f_changed, 0, 0, 0, 0, 0, a_img, a_ent, a_inS, rd_z4 a_reg, a_outs, a_stack, a_mem)) : wpY_clearRun post (f_cap, f_size, f_nent, f_analysed, f_pad, f_changed, f_status, f_steps, f_pc, f_outCount, f_depth, a_img, a_ent, a_inS, a_reg, a_outs, a_stack, a_mem) :=
  ⟨5, br_f (by decide) ⟨pk_in 0 4 (by omega), nm_r (e' := upd a_reg 0 0) rfl (nm_r (e' := nI 1) rfl
    (br_f (by decide) ⟨pk_in 1 4 (by omega), nm_r (e' := upd (upd a_reg 0 0) 1 0) rfl (nm_r (e' := nI 2) rfl
    (br_f (by decide) ⟨pk_in 2 4 (by omega), nm_r (e' := upd (upd (upd a_reg 0 0) 1 0) 2 0) rfl (nm_r (e' := nI 3) rfl
    (br_f (by decide) ⟨pk_in 3 4 (by omega), nm_r (e' := rd_z4 a_reg) rfl (nm_r (e' := nI 4) rfl
    (br_t (by decide) hp))⟩))⟩))⟩))⟩⟩
end
end
section
/-! run on both sides, where it is accepted -/
section
variable {f_capacity f_size f_entryCount f_analysed f_outputSize f_status f_steps f_pc f_depth f_valueCount : Int32} {a_image a_entry a_reached a_classes a_symbolic a_functionStart a_newAddress a_output a_registers a_stack a_values : Nat → Int32} {im : Nat → Nat} {s : Nat} {E : Nat → Prop} {post : Int32 → SX → Prop}
theorem xl_run0 {j mx : Nat} (hj : j < s) (h1 : 1 ≤ mx) (h2 : mx ≤ 2000) (hs : s ≤ 64) (hI : ∀ j, j < 64 → a_image j = nI (im j)) (hb : ∀ j, im j < 256) (hB : rd_By a_registers) (hK : rd_By a_stack)
    (hp : post 1 (rd_Xm f_capacity (nI s) f_entryCount f_analysed f_outputSize f_status f_steps f_pc f_depth f_valueCount a_image a_entry a_reached a_classes a_symbolic a_functionStart a_newAddress a_output a_registers a_stack a_values (rd_exec im s mx 0 (j, rd_z4 a_registers, a_stack, 0, a_values, 0)))) : wpX_run post (f_capacity, nI s, f_entryCount, f_analysed, f_outputSize, f_status, f_steps, f_pc, f_depth, f_valueCount, a_image, a_entry, a_reached, a_classes, a_symbolic, a_functionStart, a_newAddress, a_output, a_registers, a_stack, a_values) 0 (nI j) (nI mx) := by
  refine br_t rfl ?_
  refine pk_lt mx 1 (fun z => absurd z (by omega)) (fun _ => pk_lt 2000 mx (fun z => absurd z (by omega)) (fun _ => ?_))
  refine xl_inI_t hj hs (br_f (by decide) (br_f (by decide) ?_))
  unfold wX_run_47
  refine xl_clear (br_t rfl ?_)
  refine ⟨mx + 2, ?_⟩
  exact xl_loop_image (f_status := f_status) (f_steps := f_steps) (f_pc := f_pc) (f_depth := f_depth) (f_valueCount := f_valueCount) (a_registers := a_registers) (a_stack := a_stack) (a_values := a_values) hs h2 (fun i hi => hI i (by omega)) hb mx 0 (mx + 2) (j, rd_z4 a_registers, a_stack, 0, a_values, 0) ⟨by show j < 256; omega, rd_By_z4 hB, hK, by show 0 ≤ 8; omega, by show 0 ≤ 16; omega⟩ (by omega) (by omega) hp
theorem xl_run1 {j mx pd : Nat} (hj : j < s) (h1 : 1 ≤ mx) (h2 : mx ≤ 2000) (hpd : pd ≤ 3) (hs : s ≤ 64) (hI : ∀ j, j < 64 → a_image j = nI (im j)) (hb : ∀ j, im j < 256) (hB : rd_By a_registers) (hK : rd_By a_stack) (hA : rd_XA im s E pd f_outputSize a_classes a_symbolic a_functionStart a_newAddress a_output) (han : ¬ f_analysed = 0)
    (hp : post 1 (rd_Xm f_capacity (nI s) f_entryCount f_analysed f_outputSize f_status f_steps f_pc f_depth f_valueCount a_image a_entry a_reached a_classes a_symbolic a_functionStart a_newAddress a_output a_registers a_stack a_values (rd_exec (rd_ob im s E pd) (rd_os im s E pd) mx 0 (rd_na im s E pd j, rd_z4 a_registers, a_stack, 0, a_values, 0)))) : wpX_run post (f_capacity, nI s, f_entryCount, f_analysed, f_outputSize, f_status, f_steps, f_pc, f_depth, f_valueCount, a_image, a_entry, a_reached, a_classes, a_symbolic, a_functionStart, a_newAddress, a_output, a_registers, a_stack, a_values) 1 (nI j) (nI mx) := by
  obtain ⟨-, -, -, hA4, rfl, hA6⟩ := hA
  have hos := rd_os_le im E (pd := pd) (by omega) hs hpd
  have hna := rd_na_os im E pd hj
  refine br_f (by decide) (br_t rfl ?_)
  refine pk_lt mx 1 (fun z => absurd z (by omega)) (fun _ => pk_lt 2000 mx (fun z => absurd z (by omega)) (fun _ => ?_))
  refine xl_inI_t hj hs (br_f (by decide) (br_t rfl (br_f han ?_)))
  unfold wX_run_47
  refine xl_clear (br_f (by decide) ⟨pk_in j 64 (by omega), nm_r (e' := nI (rd_na im s E pd j)) ?_ ?_⟩)
  · rw [nI_clamp (by omega)]; exact hA4 j hj
  refine ⟨mx + 2, ?_⟩
  exact xl_loop_output (f_status := f_status) (f_steps := f_steps) (f_pc := f_pc) (f_depth := f_depth) (f_valueCount := f_valueCount) (a_registers := a_registers) (a_stack := a_stack) (a_values := a_values) hos h2 hA6 (fun i => rd_ob_lt hb (by omega) hs hpd) mx 0 (mx + 2) (rd_na im s E pd j, rd_z4 a_registers, a_stack, 0, a_values, 0) ⟨by show rd_na im s E pd j < 256; omega, rd_By_z4 hB, hK, by show 0 ≤ 8; omega, by show 0 ≤ 16; omega⟩ (by omega) (by omega) hp
end
section
variable {f_cap f_size f_nent f_analysed f_pad f_changed f_status f_steps f_pc f_outCount f_depth : Int32} {a_img a_ent a_inS a_reg a_outs a_stack a_mem : Nat → Int32} {im : Nat → Nat} {s : Nat} {E : Nat → Prop} {post : Int32 → SY → Prop}
theorem yl_run0 {j mx : Nat} (hj : j < s) (h1 : 1 ≤ mx) (h2 : mx ≤ 2000) (hs : s ≤ 64) (hI : ∀ j, j < 64 → a_img j = nI (im j)) (hb : ∀ j, im j < 256) (hB : rd_By a_reg) (hK : rd_By a_stack)
    (hp : ∀ M, post 1 (rd_Ym f_cap (nI s) f_nent f_analysed f_pad f_changed f_status f_steps f_pc f_outCount f_depth a_img a_ent a_inS a_reg a_outs a_stack M (rd_exec im s mx 0 (j, rd_z4 a_reg, a_stack, 0, a_outs, 0)))) : wpY_run post (f_cap, nI s, f_nent, f_analysed, f_pad, f_changed, f_status, f_steps, f_pc, f_outCount, f_depth, a_img, a_ent, a_inS, a_reg, a_outs, a_stack, a_mem) 0 (nI j) (nI mx) := by
  refine br_t rfl ?_
  refine pk_lt mx 1 (fun z => absurd z (by omega)) (fun _ => pk_le mx 2000 (fun _ => br_f (rd_lt0 (by omega)) (pk_lt j s (fun _ => br_f (by decide) ?_) (fun z => absurd z (by omega)))) (fun z => absurd z (by omega)))
  unfold wY_run_53
  refine yl_clear (br_f (by decide) ?_)
  refine pk_loop (fun n i M => wY_run_77 post 0 (nI j) (nI mx) (nI s) f_cap (nI s) f_nent f_analysed f_pad f_changed 0 0 0 0 0 n (nI i) a_img a_ent a_inS (rd_z4 a_reg) a_outs a_stack M) (fun i M => ∀ q, q < i → M q = nI (im q)) s 0 a_mem (by omega) (fun q hq => absurd hq (by omega)) ?_ ?_
  · intro n M hM
    refine pk_le s s (fun _ => br_t rfl ⟨mx + 1, ?_⟩) (fun z => absurd z (by omega))
    exact yl_loop (f_status := f_status) (f_steps := f_steps) (f_pc := f_pc) (f_depth := f_depth) (f_outCount := f_outCount) (a_reg := a_reg) (a_stack := a_stack) (a_outs := a_outs) (by omega) h2 hM hb mx 0 (mx + 1) (j, rd_z4 a_reg, a_stack, 0, a_outs, 0) ⟨by show j < 256; omega, rd_By_z4 hB, hK, by show 0 ≤ 8; omega, by show 0 ≤ 16; omega⟩ (by omega) (by omega) (hp M)
  · intro n i M hi hM hn
    refine pk_le s i (fun z => absurd z (by omega)) (fun _ => pk_le 256 i (fun z => absurd z (by omega)) (fun _ => br_t rfl ⟨pk_in i 64 (by omega), pk_in i 256 (by omega), nm_r (e' := upd M i (nI (im i))) ?_ (nm_r (nI_1 i) (hn _ fun q hq => ?_))⟩))
    · rw [nI_clamp (by omega), hI i (by omega)]
    · by_cases e : q = i
      · subst e; exact pk_us
      · rw [pk_un e]; exact hM q (by omega)
theorem yl_run1 {ne pd : Nat} {en : Nat → Nat} {j mx : Nat} (hj : j < s) (h1 : 1 ≤ mx) (h2 : mx ≤ 2000) (hpd : pd ≤ 3) (hs : s ≤ 64) (hI : ∀ j, j < 64 → a_img j = nI (im j)) (hb : ∀ j, im j < 256) (hS : ∀ q, q < s → (rd_nz a_inS q ↔ rd_LR im s E q)) (hne8 : ne ≤ 8) (hEn : ∀ e, e < ne → a_ent e = nI (en e) ∧ en e < s) (hEE : ∀ q, E q ↔ ∃ e, e < ne ∧ en e = q) (hB : rd_By a_reg) (hK : rd_By a_stack) (han : ¬ f_analysed = 0)
    (hp : ∀ M, post 1 (rd_Ym f_cap (nI s) (nI ne) f_analysed (nI pd) f_changed f_status f_steps f_pc f_outCount f_depth a_img a_ent a_inS a_reg a_outs a_stack M (rd_exec (rd_ob im s E pd) (rd_os im s E pd) mx 0 (rd_na im s E pd j, rd_z4 a_reg, a_stack, 0, a_outs, 0)))) : wpY_run post (f_cap, nI s, nI ne, f_analysed, nI pd, f_changed, f_status, f_steps, f_pc, f_outCount, f_depth, a_img, a_ent, a_inS, a_reg, a_outs, a_stack, a_mem) 1 (nI j) (nI mx) := by
  have hos := rd_os_le im E (pd := pd) (by omega) hs hpd
  have hna := rd_na_os im E pd hj
  refine br_f (by decide) (br_t rfl ?_)
  refine pk_lt mx 1 (fun z => absurd z (by omega)) (fun _ => pk_le mx 2000 (fun _ => br_f (rd_lt0 (by omega)) (pk_lt j s (fun _ => br_t rfl (br_f han ?_)) (fun z => absurd z (by omega)))) (fun z => absurd z (by omega)))
  unfold wY_run_53
  refine yl_clear (br_t rfl ?_)
  refine yr_os (by omega) hs hI hb hS hne8 hEn hEE ?_
  refine pk_loop (fun n i M => wY_run_77 post 1 (nI j) (nI mx) (nI (rd_os im s E pd)) f_cap (nI s) (nI ne) f_analysed (nI pd) f_changed 0 0 0 0 0 n (nI i) a_img a_ent a_inS (rd_z4 a_reg) a_outs a_stack M) (fun i M => ∀ q, q < i → M q = nI (rd_ob im s E pd q)) (rd_os im s E pd) 0 a_mem (by omega) (fun q hq => absurd hq (by omega)) ?_ ?_
  · intro n M hM
    refine pk_le (rd_os im s E pd) (rd_os im s E pd) (fun _ => br_f (by decide) ?_) (fun z => absurd z (by omega))
    refine yr_m0 rfl hj hs hI hb hS hne8 hEn hEE ⟨mx + 1, ?_⟩
    exact yl_loop (f_status := f_status) (f_steps := f_steps) (f_pc := f_pc) (f_depth := f_depth) (f_outCount := f_outCount) (a_reg := a_reg) (a_stack := a_stack) (a_outs := a_outs) hos h2 hM (fun i => rd_ob_lt hb (by omega) hs hpd) mx 0 (mx + 1) (rd_na im s E pd j, rd_z4 a_reg, a_stack, 0, a_outs, 0) ⟨by show rd_na im s E pd j < 256; omega, rd_By_z4 hB, hK, by show 0 ≤ 8; omega, by show 0 ≤ 16; omega⟩ (by omega) (by omega) (hp M)
  · intro n i M hi hM hn
    refine pk_le (rd_os im s E pd) i (fun z => absurd z (by omega)) (fun _ => pk_le 256 i (fun z => absurd z (by omega)) (fun _ => br_f (by decide) ?_))
    refine yr_out (by omega) (by omega) hpd hs hI hb hS hne8 hEn hEE ⟨pk_in i 256 (by omega), nm_r (e' := upd M i (nI (rd_ob im s E pd i))) ?_ (nm_r (nI_1 i) (hn _ fun q hq => ?_))⟩
    · rw [nI_clamp (by omega)]
    · by_cases e : q = i
      · subst e; exact pk_us
      · rw [pk_un e]; exact hM q (by omega)
end
end
section
/-! what is owed: the start and the calls that change the image -/
theorem i_up {k : Nat} {u : SX} {v : SY} (h : i_Rel k u v) : i_Rel (k + 4) u v := h
theorem rd_bF : rd_b False = 0 := rd_b_f fun h => h
theorem rd_z4_0 : rd_z4 (fun _ => 0) = fun _ => 0 := by
  funext j
  unfold rd_z4 upd
  split
  · rfl
  · split
    · rfl
    · split
      · rfl
      · split <;> rfl
theorem rd_start {c : Nat} (h8 : 8 ≤ c) (h64 : c ≤ 64) : wY_init_84 (fun v => i_Rel 1 (nI c, 0, 0, 0, 0, 0, 0, 0, 0, 0, (fun _ => 0), (fun _ => 0), (fun _ => 0), (fun _ => 0), (fun _ => 0), (fun _ => 0), (fun _ => 0), (fun _ => 0), (fun _ => 0), (fun _ => 0), (fun _ => 0)) v) (nI c) 0 0 0 0 0 0 0 0 0 0 0 (fun _ => 0) (fun _ => 0) (fun _ => 0) (fun _ => 0) (fun _ => 0) (fun _ => 0) (fun _ => 0) := by
  unfold wY_init_84 wpY_reset
  refine yl_clear ?_
  show i_Rel 1 _ _
  rw [rd_z4_0]
  refine ⟨c, 0, 0, 0, fun _ => 0, fun _ => False, False, 0, 0, (0, fun _ => 0, fun _ => 0, 0, fun _ => 0, 0), ?_, ?_, ?_⟩
  · exact ⟨h8, h64, by omega, by omega, fun _ => (by show 0 < 256; omega), fun _ h => h.elim, ⟨by show 0 < 256; omega, rd_By_0, rd_By_0, by show 0 ≤ 8; omega, by show 0 ≤ 16; omega⟩, fun h => h.elim⟩
  · refine ⟨0, fun _ => 0, fun _ => 0, fun _ => 0, fun _ => 0, fun _ => 0, fun _ => 0, fun _ => 0, fun _ => 0, ?_, fun _ => rfl, fun _ => rd_bF.symm, fun h => h.elim⟩
    rw [rd_bF]; rfl
  · refine ⟨0, 0, fun _ => 0, fun _ => 0, fun _ => 0, fun _ => 0, fun _ => 0, ?_, fun _ => rfl, fun e he => absurd he (by omega), fun q => ⟨fun h => h.elim, fun ⟨e, he, _⟩ => absurd he (by omega)⟩, fun h => h.elim⟩
    rw [rd_bF]; rfl
theorem i_vc0 (k0 : Int32) : wpX_init (fun u => wpY_init (fun v => i_Rel 1 u v) k0) k0 := by
  by_cases h8 : 8 ≤ k0
  · by_cases h64 : k0 ≤ 64
    · obtain ⟨c, hc, rfl⟩ := nI_of2 (x := k0) (M := 64) (n := 64) (by decide) (Int32.not_lt.mpr (Int32.le_trans (by decide) h8)) h64
      have hc8 : 8 ≤ c := (nI_leI (a := 8) (by omega) (by omega)).mp h8
      exact br_t h8 (br_t h64 (br_t h8 (br_t h64 (rd_start hc8 hc))))
    · exact br_t h8 (br_f h64 (br_t h8 (br_f h64 (rd_start (c := 64) (by omega) (by omega)))))
  · exact br_f h8 (br_f h8 (rd_start (c := 8) (by omega) (by omega)))
theorem i_vc_reset {k : Nat} {u : SX} {v : SY} (I : i_Rel k u v) (hk : k + 4 ≤ 2049) : wpX_reset (fun u' => wpY_reset (fun v' => i_Rel (k + 4) u' v') v) u := by
  obtain ⟨c, s, ne, pd, im, E, an, st, sp, ms, B, HX, HY⟩ := I; obtain ⟨f_outputSize, a_image, a_entry, a_reached, a_classes, a_symbolic, a_functionStart, a_newAddress, a_output, rfl, hXI, hXE, hXA⟩ := HX; obtain ⟨f_pad, f_changed, a_img, a_ent, a_inS, a_mem, en, rfl, hYI, hYe, hYE, hYA⟩ := HY; obtain ⟨c8, c64, hsc, hne8, hb, hEs, hM, han⟩ := B; have hs : s ≤ 64 := (by omega); have hXI' : ∀ j, j < 64 → a_image j = nI (im j) := (fun j _ => hXI j); have hYI' : ∀ j, j < 64 → a_img j = nI (im j) := (fun j _ => hYI j)
  refine pk_loop (fun n i En => wX_reset_7 _ (nI c) 0 (nI ne) (rd_b an) f_outputSize st sp (nI ms.1) (nI ms.2.2.2.1) (nI ms.2.2.2.2.2) n (nI i) a_image En a_reached a_classes a_symbolic a_functionStart a_newAddress a_output ms.2.1 ms.2.2.1 ms.2.2.2.2.1) (fun i En => ∀ q, (q < i ∨ 64 ≤ q) → En q = 0) 64 0 a_entry (by omega) ?_ ?_ ?_
  · intro q hq
    rw [hXE q]
    exact rd_b_f fun z => by have := hEs q z; omega
  · intro n En hEn
    refine pk_le 64 64 (fun _ => ?_) (fun z => absurd z (by omega))
    refine xl_clear ?_
    show wpY_reset _ _
    unfold wpY_reset
    refine yl_clear ?_
    show i_Rel _ _ _
    refine ⟨c, 0, 0, 0, im, fun _ => False, False, 0, 0, (0, rd_z4 ms.2.1, ms.2.2.1, 0, ms.2.2.2.2.1, 0), ?_, ?_, ?_⟩
    · exact ⟨c8, c64, by omega, by omega, hb, fun _ h => h.elim, ⟨by show 0 < 256; omega, rd_By_z4 hM.2.1, hM.2.2.1, by show 0 ≤ 8; omega, by show 0 ≤ 16; omega⟩, fun h => h.elim⟩
    · refine ⟨f_outputSize, a_image, En, a_reached, a_classes, a_symbolic, a_functionStart, a_newAddress, a_output, ?_, hXI, fun j => ?_, fun h => h.elim⟩
      · rw [rd_bF]; rfl
      · rw [rd_bF]; exact hEn j (by omega)
    · refine ⟨f_pad, f_changed, a_img, a_ent, a_inS, a_mem, en, ?_, hYI, fun e he => absurd he (by omega), fun q => ⟨fun h => h.elim, fun ⟨e, he, _⟩ => absurd he (by omega)⟩, fun h => h.elim⟩
      rw [rd_bF]; rfl
  · intro n i En hi hEn hn
    refine pk_le 64 i (fun z => absurd z (by omega)) (fun _ => ⟨pk_in i 64 (by omega), nm_r (e' := upd En i 0) ?_ (nm_r (nI_1 i) (hn _ fun q hq => ?_))⟩)
    · rw [nI_clamp (by omega), rd_nb0]
    · by_cases e : q = i
      · subst e; exact pk_us
      · rw [pk_un e]; exact hEn q (by omega)
theorem i_vc_putByte {k : Nat} {u : SX} {v : SY} (I : i_Rel k u v) (hk : k + 4 ≤ 2049) (v1 : Int32) : wpX_putByte (fun r u' => wpY_putByte (fun r' v' => r' = r ∧ i_Rel (k + 4) u' v') v v1) u v1 := by
  have I' := i_up I
  obtain ⟨c, s, ne, pd, im, E, an, st, sp, ms, B, HX, HY⟩ := I; obtain ⟨f_outputSize, a_image, a_entry, a_reached, a_classes, a_symbolic, a_functionStart, a_newAddress, a_output, rfl, hXI, hXE, hXA⟩ := HX; obtain ⟨f_pad, f_changed, a_img, a_ent, a_inS, a_mem, en, rfl, hYI, hYe, hYE, hYA⟩ := HY; obtain ⟨c8, c64, hsc, hne8, hb, hEs, hM, han⟩ := B; have hs : s ≤ 64 := (by omega); have hXI' : ∀ j, j < 64 → a_image j = nI (im j) := (fun j _ => hXI j); have hYI' : ∀ j, j < 64 → a_img j = nI (im j) := (fun j _ => hYI j)
  by_cases h0 : v1 < 0
  · exact br_t h0 (br_t h0 ⟨rfl, I'⟩)
  by_cases h255 : 255 < v1
  · exact br_f h0 (br_t h255 (br_f h0 (br_t h255 ⟨rfl, I'⟩)))
  obtain ⟨b, hbb, rfl⟩ := nI_of2 (x := v1) (M := 255) (n := 255) (by decide) h0 (Int32.not_lt.mp h255)
  refine br_f h0 (br_f h255 (pk_lt s c (fun hlt => ⟨pk_in s 64 (by omega), nm_r (e' := upd a_image s (nI b)) (by rw [nI_clamp (by omega)]) (nm_r (nI_1 s) ?_)⟩) (fun hge => br_f h0 (br_f h255 (pk_lt s c (fun z => absurd z (by omega)) (fun _ => ⟨rfl, I'⟩))))))
  refine br_f h0 (br_f h255 (pk_lt s c (fun _ => ⟨pk_in s 64 (by omega), nm_r (e' := upd a_img s (nI b)) (by rw [nI_clamp (by omega)]) (nm_r (nI_1 s) ⟨rfl, ?_⟩)⟩) (fun z => absurd z (by omega))))
  have U : ∀ a : Nat → Int32, (∀ j, a j = nI (im j)) → ∀ j, upd a s (nI b) j = nI (if j = s then b else im j) := by
    intro a ha j
    unfold upd
    split
    · rfl
    · exact ha j
  refine ⟨c, s + 1, ne, pd, fun j => if j = s then b else im j, E, False, st, sp, ms, ?_, ?_, ?_⟩
  · refine ⟨c8, c64, hlt, hne8, fun j => ?_, fun q hq => ?_, hM, fun h => h.elim⟩
    · show (if j = s then b else im j) < 256
      split
      · omega
      · exact hb j
    · have := hEs q hq; omega
  · refine ⟨f_outputSize, upd a_image s (nI b), a_entry, a_reached, a_classes, a_symbolic, a_functionStart, a_newAddress, a_output, ?_, U _ hXI, hXE, fun h => h.elim⟩
    rw [rd_bF]
  · refine ⟨f_pad, f_changed, upd a_img s (nI b), a_ent, a_inS, a_mem, en, ?_, U _ hYI, fun e he => ⟨(hYe e he).1, by have := (hYe e he).2; omega⟩, hYE, fun h => h.elim⟩
    rw [rd_bF]
theorem i_vc_addEntry {k : Nat} {u : SX} {v : SY} (I : i_Rel k u v) (hk : k + 4 ≤ 2049) (v1 : Int32) : wpX_addEntry (fun r u' => wpY_addEntry (fun r' v' => r' = r ∧ i_Rel (k + 4) u' v') v v1) u v1 := by
  have I' := i_up I
  obtain ⟨c, s, ne, pd, im, E, an, st, sp, ms, B, HX, HY⟩ := I; obtain ⟨f_outputSize, a_image, a_entry, a_reached, a_classes, a_symbolic, a_functionStart, a_newAddress, a_output, rfl, hXI, hXE, hXA⟩ := HX; obtain ⟨f_pad, f_changed, a_img, a_ent, a_inS, a_mem, en, rfl, hYI, hYe, hYE, hYA⟩ := HY; obtain ⟨c8, c64, hsc, hne8, hb, hEs, hM, han⟩ := B; have hs : s ≤ 64 := (by omega); have hXI' : ∀ j, j < 64 → a_image j = nI (im j) := (fun j _ => hXI j); have hYI' : ∀ j, j < 64 → a_img j = nI (im j) := (fun j _ => hYI j)
  unfold wpX_addEntry
  by_cases h0 : v1 < 0
  · exact xl_inI_f (Or.inl h0) (br_t rfl (br_t h0 ⟨rfl, I'⟩))
  by_cases h1 : nI s ≤ v1
  · exact xl_inI_f (Or.inr h1) (br_t rfl (br_f h0 (br_t h1 ⟨rfl, I'⟩)))
  obtain ⟨j, hj, rfl⟩ : ∃ j : Nat, j < s ∧ v1 = nI j := by
    rcases pk_ix v1 (n := s) (by omega) with z | z | z
    · exact absurd z h0
    · exact absurd z h1
    · exact z
  have L : ∀ post : Int32 → SY → Prop, (E j → post 0 (nI c, nI s, nI ne, rd_b an, f_pad, f_changed, st, sp, nI ms.1, nI ms.2.2.2.2.2, nI ms.2.2.2.1, a_img, a_ent, a_inS, ms.2.1, ms.2.2.2.2.1, ms.2.2.1, a_mem)) →
      (¬ E j → post 1 (nI c, nI s, nI (ne + 1), 0, f_pad, f_changed, st, sp, nI ms.1, nI ms.2.2.2.2.2, nI ms.2.2.2.1, a_img, upd a_ent ne (nI j), a_inS, ms.2.1, ms.2.2.2.2.1, ms.2.2.1, a_mem)) → ne < 8 →
      ∃ n25 : Nat, wY_addEntry_25 post (nI j) (nI c) (nI s) (nI ne) (rd_b an) f_pad f_changed st sp (nI ms.1) (nI ms.2.2.2.2.2) (nI ms.2.2.2.1) a_img a_ent a_inS ms.2.1 ms.2.2.2.2.1 ms.2.2.1 a_mem n25 0 := by
    intro post hA hN hne
    refine pk_loop (fun n i (_ : Unit) => wY_addEntry_25 post (nI j) (nI c) (nI s) (nI ne) (rd_b an) f_pad f_changed st sp (nI ms.1) (nI ms.2.2.2.2.2) (nI ms.2.2.2.1) a_img a_ent a_inS ms.2.1 ms.2.2.2.2.1 ms.2.2.1 a_mem n (nI i)) (fun i _ => ∀ e, e < i → en e ≠ j) ne 0 () (by omega) (fun e he => absurd he (by omega)) ?_ ?_
    · intro n _ h
      refine pk_le ne ne (fun _ => ⟨pk_in ne 8 (by omega), nm_r (e' := upd a_ent ne (nI j)) (by rw [nI_clamp (by omega)]) (nm_r (nI_1 ne) (hN fun z => ?_))⟩) (fun z => absurd z (by omega))
      obtain ⟨e, he, hh⟩ := (hYE j).mp z
      exact h e he hh
    · intro n i _ hi h hn
      obtain ⟨e1, e2⟩ := hYe i hi
      refine pk_le ne i (fun z => absurd z (by omega)) (fun _ => ⟨pk_in i 8 (by omega), pk_eq (en i) j (fun e => hA ((hYE j).mpr ⟨i, hi, e⟩)) (fun e => nm_r (nI_1 i) (hn () fun e' he' => ?_)) ?_ rfl⟩)
      · by_cases ee : e' = i
        · rw [ee]; exact e
        · exact h e' (by omega)
      · rw [nI_clamp (by omega)]; exact e1
  have hej : a_entry (nI j).toNatClampNeg = rd_b (E j) := by rw [nI_clamp (by omega)]; exact hXE j
  refine xl_inI_t hj hs (br_f (by decide) ⟨pk_in j 64 (by omega), ?_⟩)
  rw [hej]
  refine rd_brb (fun hE => pk_lt ne 8 (fun hne => ⟨pk_in j 64 (by omega), nm_r (e' := upd a_entry j 1) (by rw [nI_clamp (by omega), rd_nb1]) (nm_r (nI_1 ne) ?_)⟩) (fun hne => br_f h0 (br_f h1 (pk_lt ne 8 (fun z => absurd z (by omega)) (fun _ => ⟨rfl, I'⟩))))) (fun hE => br_f h0 (br_f h1 (pk_lt ne 8 (fun hne => L _ (fun _ => ⟨rfl, I'⟩) (fun z => absurd hE z) hne) (fun _ => ⟨rfl, I'⟩))))
  refine br_f h0 (br_f h1 (pk_lt ne 8 (fun _ => L _ (fun z => absurd z hE) (fun _ => ⟨rfl, ?_⟩) hne) (fun z => absurd z (by omega))))
  refine ⟨c, s, ne + 1, pd, im, fun q => E q ∨ q = j, False, st, sp, ms, ?_, ?_, ?_⟩
  · exact ⟨c8, c64, hsc, hne, hb, fun q hq => hq.elim (hEs q) (fun e => by omega), hM, fun h => h.elim⟩
  · refine ⟨f_outputSize, a_image, upd a_entry j 1, a_reached, a_classes, a_symbolic, a_functionStart, a_newAddress, a_output, ?_, hXI, fun q => ?_, fun h => h.elim⟩
    · rw [rd_bF]
    · by_cases e : q = j
      · subst e; rw [pk_us]; exact (rd_b_t (Or.inr rfl)).symm
      · rw [pk_un e, hXE q]
        exact rd_bc ⟨Or.inl, fun z => z.resolve_right e⟩
  · refine ⟨f_pad, f_changed, a_img, upd a_ent ne (nI j), a_inS, a_mem, fun e => if e = ne then j else en e, ?_, hYI, fun e he => ?_, fun q => ?_, fun h => h.elim⟩
    · rw [rd_bF]
    · by_cases ee : e = ne
      · subst ee
        rw [pk_us]
        show nI j = nI (if e = e then j else en e) ∧ (if e = e then j else en e) < s
        rw [if_pos rfl]; exact ⟨rfl, hj⟩
      · rw [pk_un ee]
        show a_ent e = nI (if e = ne then j else en e) ∧ (if e = ne then j else en e) < s
        rw [if_neg ee]; exact hYe e (by omega)
    · constructor
      · rintro (h | h)
        · obtain ⟨e, he, hh⟩ := (hYE q).mp h
          refine ⟨e, by omega, ?_⟩
          show (if e = ne then j else en e) = q
          rw [if_neg (by omega)]; exact hh
        · refine ⟨ne, by omega, ?_⟩
          show (if ne = ne then j else en ne) = q
          rw [if_pos rfl]; exact h.symm
      · rintro ⟨e, he, hh⟩
        have hh' : (if e = ne then j else en e) = q := hh
        by_cases ee : e = ne
        · rw [if_pos ee] at hh'; exact Or.inr hh'.symm
        · rw [if_neg ee] at hh'; exact Or.inl ((hYE q).mpr ⟨e, by omega, hh'⟩)
theorem i_vc_analyse {k : Nat} {u : SX} {v : SY} (I : i_Rel k u v) (hk : k + 4 ≤ 2049) (v1 : Int32) : wpX_analyse (fun r u' => wpY_analyse (fun r' v' => r' = r ∧ i_Rel (k + 4) u' v') v v1) u v1 := by
  have I' := i_up I
  obtain ⟨c, s, ne, pd, im, E, an, st, sp, ms, B, HX, HY⟩ := I; obtain ⟨f_outputSize, a_image, a_entry, a_reached, a_classes, a_symbolic, a_functionStart, a_newAddress, a_output, rfl, hXI, hXE, hXA⟩ := HX; obtain ⟨f_pad, f_changed, a_img, a_ent, a_inS, a_mem, en, rfl, hYI, hYe, hYE, hYA⟩ := HY; obtain ⟨c8, c64, hsc, hne8, hb, hEs, hM, han⟩ := B; have hs : s ≤ 64 := (by omega); have hXI' : ∀ j, j < 64 → a_image j = nI (im j) := (fun j _ => hXI j); have hYI' : ∀ j, j < 64 → a_img j = nI (im j) := (fun j _ => hYI j)
  by_cases h0 : v1 < 0
  · exact br_t h0 (br_t h0 ⟨rfl, I'⟩)
  by_cases h3 : 3 < v1
  · exact br_f h0 (br_t h3 (br_f h0 (br_t h3 ⟨rfl, I'⟩)))
  obtain ⟨pd', hpd, rfl⟩ := nI_of2 (x := v1) (M := 3) (n := 3) (by decide) h0 (Int32.not_lt.mp h3)
  by_cases hs0 : nI s = 0
  · exact br_f h0 (br_f h3 (br_t hs0 (br_f h0 (br_f h3 (br_t hs0 ⟨rfl, I'⟩)))))
  by_cases hn0 : nI ne = 0
  · exact br_f h0 (br_f h3 (br_f hs0 (br_t hn0 (br_f h0 (br_f h3 (br_f hs0 (br_t hn0 ⟨rfl, I'⟩)))))))
  have hs1 : 0 < s := by
    rcases Nat.eq_zero_or_pos s with z | z
    · exact absurd (by rw [z]; rfl) hs0
    · exact z
  have hn1 : 0 < ne := by
    rcases Nat.eq_zero_or_pos ne with z | z
    · exact absurd (by rw [z]; rfl) hn0
    · exact z
  refine xl_analyse hs1 hn1 hne8 hpd hs hXI' hb (fun j _ => hXE j) fun os R C S F A O hA => ?_
  refine yl_analyse hs1 hn1 hne8 hpd hs hYI' hb hYe hYE fun ch T hT => ⟨rfl, ?_⟩
  refine ⟨c, s, ne, pd', im, E, True, st, sp, ms, ?_, ?_, ?_⟩
  · exact ⟨c8, c64, hsc, hne8, hb, hEs, hM, fun _ => ⟨hs1, hpd⟩⟩
  · refine ⟨os, a_image, a_entry, R, C, S, F, A, O, ?_, hXI, hXE, fun _ => hA⟩
    rw [rd_b_t trivial]
  · refine ⟨nI pd', ch, a_img, a_ent, T, a_mem, en, ?_, hYI, hYe, hYE, fun _ => ⟨rfl, hT⟩⟩
    rw [rd_b_t trivial]
end
section
/-! what is owed: the calls that read, and run -/
theorem rd_ixo {A B : Prop} {x : Int32} {s : Nat} (h : x < 0 ∨ nI s ≤ x) (b : B) : (x < 0 → B) ∧ (¬ x < 0 → ((x < nI s → A) ∧ (¬ x < nI s → B))) := by
  by_cases h0 : x < 0
  · exact br_t h0 b
  · exact br_f h0 (br_f (Int32.not_lt.mpr (h.resolve_left h0)) b)
theorem rd_ixi {A B : Prop} {j s : Nat} (hs : s ≤ 64) (hj : j < s) (a : A) : (nI j < 0 → B) ∧ (¬ nI j < 0 → ((nI j < nI s → A) ∧ (¬ nI j < nI s → B))) :=
  br_f (rd_lt0 (by omega)) (pk_lt j s (fun _ => a) (fun z => absurd z (by omega)))
theorem rd_ix (x : Int32) {s : Nat} (hs : s ≤ 64) : (x < 0 ∨ nI s ≤ x) ∨ ∃ j : Nat, j < s ∧ x = nI j := by
  rcases pk_ix x (n := s) (by omega) with z | z | z
  · exact Or.inl (Or.inl z)
  · exact Or.inl (Or.inr z)
  · exact Or.inr z
theorem rd_bn {P : Prop} (h : P) : ¬ rd_b P = 0 := fun z => rd_b0.mp z h
theorem i_vc_byteClass {k : Nat} {u : SX} {v : SY} (I : i_Rel k u v) (hk : k + 4 ≤ 2049) (v1 : Int32) : wpX_byteClass (fun r => wpY_byteClass (fun r' => r' = r ∧ i_Rel (k + 4) u v) v v1) u v1 := by
  have I' := i_up I
  obtain ⟨c, s, ne, pd, im, E, an, st, sp, ms, B, HX, HY⟩ := I; obtain ⟨f_outputSize, a_image, a_entry, a_reached, a_classes, a_symbolic, a_functionStart, a_newAddress, a_output, rfl, hXI, hXE, hXA⟩ := HX; obtain ⟨f_pad, f_changed, a_img, a_ent, a_inS, a_mem, en, rfl, hYI, hYe, hYE, hYA⟩ := HY; obtain ⟨c8, c64, hsc, hne8, hb, hEs, hM, han⟩ := B; have hs : s ≤ 64 := (by omega); have hXI' : ∀ j, j < 64 → a_image j = nI (im j) := (fun j _ => hXI j); have hYI' : ∀ j, j < 64 → a_img j = nI (im j) := (fun j _ => hYI j)
  by_cases ha : an
  · have hn := rd_bn ha
    rcases rd_ix v1 hs with h | ⟨j, hj, rfl⟩
    · exact br_f hn (xl_inI_f h (br_t rfl (br_f hn (rd_ixo h ⟨rfl, I'⟩))))
    · have hA := hXA ha
      have hY := hYA ha
      refine br_f hn (xl_inI_t hj hs (br_f (by decide) ⟨pk_in j 64 (by omega), br_f hn (rd_ixi hs hj ?_)⟩))
      refine yr_cls hj hs hYI' hb hY.2 ⟨?_, I'⟩
      rw [nI_clamp (by omega), hA.1 j hj]
  · exact br_t (rd_b_f ha) (br_t (rd_b_f ha) ⟨rfl, I'⟩)
theorem i_vc_count {k : Nat} {u : SX} {v : SY} (I : i_Rel k u v) (hk : k + 4 ≤ 2049) (v1 : Int32) : wpX_count (fun r => wpY_count (fun r' => r' = r ∧ i_Rel (k + 4) u v) v v1) u v1 := by
  have I' := i_up I
  obtain ⟨c, s, ne, pd, im, E, an, st, sp, ms, B, HX, HY⟩ := I; obtain ⟨f_outputSize, a_image, a_entry, a_reached, a_classes, a_symbolic, a_functionStart, a_newAddress, a_output, rfl, hXI, hXE, hXA⟩ := HX; obtain ⟨f_pad, f_changed, a_img, a_ent, a_inS, a_mem, en, rfl, hYI, hYe, hYE, hYA⟩ := HY; obtain ⟨c8, c64, hsc, hne8, hb, hEs, hM, han⟩ := B; have hs : s ≤ 64 := (by omega); have hXI' : ∀ j, j < 64 → a_image j = nI (im j) := (fun j _ => hXI j); have hYI' : ∀ j, j < 64 → a_img j = nI (im j) := (fun j _ => hYI j)
  by_cases h9 : v1 = 9
  · exact br_t h9 (br_t h9 ⟨rfl, I'⟩)
  by_cases h10 : v1 = 10
  · exact br_f h9 (br_t h10 (br_f h9 (br_t h10 ⟨rfl, I'⟩)))
  by_cases ha : an
  · have hn := rd_bn ha
    by_cases h0 : v1 < 0
    · exact br_f h9 (br_f h10 (br_f hn (br_t h0 (br_f h9 (br_f h10 (br_t h0 ⟨rfl, I'⟩))))))
    by_cases h8 : 8 < v1
    · exact br_f h9 (br_f h10 (br_f hn (br_f h0 (br_t h8 (br_f h9 (br_f h10 (br_f h0 (br_t h8 ⟨rfl, I'⟩))))))))
    obtain ⟨j, hj, rfl⟩ := nI_of2 (x := v1) (M := 8) (n := 8) (by decide) h0 (Int32.not_lt.mp h8)
    have hA := hXA ha
    obtain ⟨rfl, hS⟩ := hYA ha
    rw [rd_b_t ha] at I' ⊢
    refine xl_count hj hs hXI' hb hA ?_
    exact yr_count hj hs hYI' hb hS hne8 hYe hYE ⟨rfl, I'⟩
  · have hz := rd_b_f ha
    refine br_f h9 (br_f h10 (br_t hz (br_f h9 (br_f h10 (br_c (fun _ => ⟨rfl, I'⟩) (fun _ => br_c (fun _ => ⟨rfl, I'⟩) (fun _ => br_t hz ⟨rfl, I'⟩)))))))
theorem i_vc_isSymbolic {k : Nat} {u : SX} {v : SY} (I : i_Rel k u v) (hk : k + 4 ≤ 2049) (v1 : Int32) : wpX_isSymbolic (fun r => wpY_isSymbolic (fun r' => r' = r ∧ i_Rel (k + 4) u v) v v1) u v1 := by
  have I' := i_up I
  obtain ⟨c, s, ne, pd, im, E, an, st, sp, ms, B, HX, HY⟩ := I; obtain ⟨f_outputSize, a_image, a_entry, a_reached, a_classes, a_symbolic, a_functionStart, a_newAddress, a_output, rfl, hXI, hXE, hXA⟩ := HX; obtain ⟨f_pad, f_changed, a_img, a_ent, a_inS, a_mem, en, rfl, hYI, hYe, hYE, hYA⟩ := HY; obtain ⟨c8, c64, hsc, hne8, hb, hEs, hM, han⟩ := B; have hs : s ≤ 64 := (by omega); have hXI' : ∀ j, j < 64 → a_image j = nI (im j) := (fun j _ => hXI j); have hYI' : ∀ j, j < 64 → a_img j = nI (im j) := (fun j _ => hYI j)
  by_cases ha : an
  · have hn := rd_bn ha
    rcases rd_ix v1 hs with h | ⟨j, hj, rfl⟩
    · exact br_f hn (xl_inI_f h (br_t rfl (br_f hn (rd_ixo h ⟨rfl, I'⟩))))
    · have hA := (hXA ha).2.1 j hj
      have hY := hYA ha
      have hA' : a_symbolic (nI j).toNatClampNeg = rd_b (rd_sym im s E s j) := by rw [nI_clamp (by omega)]; exact hA
      refine br_f hn (xl_inI_t hj hs (br_f (by decide) ⟨pk_in j 64 (by omega), ?_⟩))
      rw [hA']
      refine rd_brb (fun z => br_f hn (rd_ixi hs hj ?_)) (fun z => br_f hn (rd_ixi hs hj ?_))
      · refine yr_sym hj hs hYI' hb hY.2 ?_
        rw [rd_b_f z]; exact ⟨rfl, rfl, I'⟩
      · refine yr_sym hj hs hYI' hb hY.2 ?_
        rw [rd_b_t z]; exact ⟨rfl, rfl, I'⟩
  · exact br_t (rd_b_f ha) (br_t (rd_b_f ha) ⟨rfl, I'⟩)
theorem i_vc_isFunctionStart {k : Nat} {u : SX} {v : SY} (I : i_Rel k u v) (hk : k + 4 ≤ 2049) (v1 : Int32) : wpX_isFunctionStart (fun r => wpY_isFunctionStart (fun r' => r' = r ∧ i_Rel (k + 4) u v) v v1) u v1 := by
  have I' := i_up I
  obtain ⟨c, s, ne, pd, im, E, an, st, sp, ms, B, HX, HY⟩ := I; obtain ⟨f_outputSize, a_image, a_entry, a_reached, a_classes, a_symbolic, a_functionStart, a_newAddress, a_output, rfl, hXI, hXE, hXA⟩ := HX; obtain ⟨f_pad, f_changed, a_img, a_ent, a_inS, a_mem, en, rfl, hYI, hYe, hYE, hYA⟩ := HY; obtain ⟨c8, c64, hsc, hne8, hb, hEs, hM, han⟩ := B; have hs : s ≤ 64 := (by omega); have hXI' : ∀ j, j < 64 → a_image j = nI (im j) := (fun j _ => hXI j); have hYI' : ∀ j, j < 64 → a_img j = nI (im j) := (fun j _ => hYI j)
  by_cases ha : an
  · have hn := rd_bn ha
    rcases rd_ix v1 hs with h | ⟨j, hj, rfl⟩
    · exact br_f hn (xl_inI_f h (br_t rfl (br_f hn (rd_ixo h ⟨rfl, I'⟩))))
    · have hA := (hXA ha).2.2.1 j hj
      have hY := hYA ha
      have hA' : a_functionStart (nI j).toNatClampNeg = rd_b (rd_fs im s E j) := by rw [nI_clamp (by omega)]; exact hA
      refine br_f hn (xl_inI_t hj hs (br_f (by decide) ⟨pk_in j 64 (by omega), ?_⟩))
      rw [hA']
      refine rd_brb (fun z => br_f hn (rd_ixi hs hj ?_)) (fun z => br_f hn (rd_ixi hs hj ?_))
      · refine yr_fs (by omega) hs hYI' hb hY.2 hne8 hYe hYE ?_
        rw [rd_b_f z]; exact ⟨rfl, rfl, I'⟩
      · refine yr_fs (by omega) hs hYI' hb hY.2 hne8 hYe hYE ?_
        rw [rd_b_t z]; exact ⟨rfl, rfl, I'⟩
  · exact br_t (rd_b_f ha) (br_t (rd_b_f ha) ⟨rfl, I'⟩)
theorem i_vc_outSize {k : Nat} {u : SX} {v : SY} (I : i_Rel k u v) (hk : k + 4 ≤ 2049) : wpX_outSize (fun r => wpY_outSize (fun r' => r' = r ∧ i_Rel (k + 4) u v) v) u := by
  have I' := i_up I
  obtain ⟨c, s, ne, pd, im, E, an, st, sp, ms, B, HX, HY⟩ := I; obtain ⟨f_outputSize, a_image, a_entry, a_reached, a_classes, a_symbolic, a_functionStart, a_newAddress, a_output, rfl, hXI, hXE, hXA⟩ := HX; obtain ⟨f_pad, f_changed, a_img, a_ent, a_inS, a_mem, en, rfl, hYI, hYe, hYE, hYA⟩ := HY; obtain ⟨c8, c64, hsc, hne8, hb, hEs, hM, han⟩ := B; have hs : s ≤ 64 := (by omega); have hXI' : ∀ j, j < 64 → a_image j = nI (im j) := (fun j _ => hXI j); have hYI' : ∀ j, j < 64 → a_img j = nI (im j) := (fun j _ => hYI j)
  by_cases ha : an
  · have hn := rd_bn ha
    obtain ⟨hs0, hpd⟩ := han ha
    obtain ⟨rfl, hS⟩ := hYA ha
    refine br_f hn (br_f hn ?_)
    exact yr_os hs0 hs hYI' hb hS hne8 hYe hYE ⟨(hXA ha).2.2.2.2.1.symm, I'⟩
  · exact br_t (rd_b_f ha) (br_t (rd_b_f ha) ⟨rfl, I'⟩)
theorem i_vc_outByte {k : Nat} {u : SX} {v : SY} (I : i_Rel k u v) (hk : k + 4 ≤ 2049) (v1 : Int32) : wpX_outByte (fun r => wpY_outByte (fun r' => r' = r ∧ i_Rel (k + 4) u v) v v1) u v1 := by
  have I' := i_up I
  obtain ⟨c, s, ne, pd, im, E, an, st, sp, ms, B, HX, HY⟩ := I; obtain ⟨f_outputSize, a_image, a_entry, a_reached, a_classes, a_symbolic, a_functionStart, a_newAddress, a_output, rfl, hXI, hXE, hXA⟩ := HX; obtain ⟨f_pad, f_changed, a_img, a_ent, a_inS, a_mem, en, rfl, hYI, hYe, hYE, hYA⟩ := HY; obtain ⟨c8, c64, hsc, hne8, hb, hEs, hM, han⟩ := B; have hs : s ≤ 64 := (by omega); have hXI' : ∀ j, j < 64 → a_image j = nI (im j) := (fun j _ => hXI j); have hYI' : ∀ j, j < 64 → a_img j = nI (im j) := (fun j _ => hYI j)
  by_cases ha : an
  · have hn := rd_bn ha
    obtain ⟨hs0, hpd⟩ := han ha
    obtain ⟨rfl, hS⟩ := hYA ha
    obtain ⟨-, -, -, -, rfl, hA6⟩ := hXA ha
    have hos := rd_os_le im E hs0 hs hpd
    by_cases h0 : v1 < 0
    · exact br_f hn (br_t h0 (br_f hn (br_f (rd_neg h0) ⟨rfl, I'⟩)))
    by_cases h1 : nI (rd_os im s E pd) ≤ v1
    · refine br_f hn (br_f h0 (br_t h1 (br_f hn (br_t (Int32.not_lt.mp h0) ?_))))
      exact yr_os hs0 hs hYI' hb hS hne8 hYe hYE (br_f (Int32.not_lt.mpr h1) ⟨rfl, I'⟩)
    obtain ⟨j, hj, rfl⟩ : ∃ j : Nat, j < rd_os im s E pd ∧ v1 = nI j := by
      rcases pk_ix v1 (n := rd_os im s E pd) (by omega) with z | z | z
      · exact absurd z h0
      · exact absurd z h1
      · exact z
    refine br_f hn (br_f h0 (br_f h1 ⟨pk_in j 253 (by omega), br_f hn (br_t (Int32.not_lt.mp h0) ?_)⟩))
    refine yr_os hs0 hs hYI' hb hS hne8 hYe hYE (pk_lt j (rd_os im s E pd) (fun _ => ?_) (fun z => absurd z (by omega)))
    refine yr_out (by omega) hs0 hpd hs hYI' hb hS hne8 hYe hYE ⟨?_, I'⟩
    rw [nI_clamp (by omega), hA6 j hj]
  · exact br_t (rd_b_f ha) (br_t (rd_b_f ha) ⟨rfl, I'⟩)
theorem i_vc_mapAddr {k : Nat} {u : SX} {v : SY} (I : i_Rel k u v) (hk : k + 4 ≤ 2049) (v1 : Int32) : wpX_mapAddr (fun r => wpY_mapAddr (fun r' => r' = r ∧ i_Rel (k + 4) u v) v v1) u v1 := by
  have I' := i_up I
  obtain ⟨c, s, ne, pd, im, E, an, st, sp, ms, B, HX, HY⟩ := I; obtain ⟨f_outputSize, a_image, a_entry, a_reached, a_classes, a_symbolic, a_functionStart, a_newAddress, a_output, rfl, hXI, hXE, hXA⟩ := HX; obtain ⟨f_pad, f_changed, a_img, a_ent, a_inS, a_mem, en, rfl, hYI, hYe, hYE, hYA⟩ := HY; obtain ⟨c8, c64, hsc, hne8, hb, hEs, hM, han⟩ := B; have hs : s ≤ 64 := (by omega); have hXI' : ∀ j, j < 64 → a_image j = nI (im j) := (fun j _ => hXI j); have hYI' : ∀ j, j < 64 → a_img j = nI (im j) := (fun j _ => hYI j)
  by_cases ha : an
  · have hn := rd_bn ha
    rcases rd_ix v1 hs with h | ⟨j, hj, rfl⟩
    · exact br_f hn (xl_inI_f h (br_t rfl (br_f hn (rd_ixo h ⟨rfl, I'⟩))))
    · have hA := (hXA ha).2.2.2.1 j hj
      obtain ⟨rfl, hS⟩ := hYA ha
      refine br_f hn (xl_inI_t hj hs (br_f (by decide) ⟨pk_in j 64 (by omega), br_f hn (rd_ixi hs hj ?_)⟩))
      refine yr_m0 rfl hj hs hYI' hb hS hne8 hYe hYE ⟨?_, I'⟩
      rw [nI_clamp (by omega), hA]
  · exact br_t (rd_b_f ha) (br_t (rd_b_f ha) ⟨rfl, I'⟩)
theorem i_vc_runInfo {k : Nat} {u : SX} {v : SY} (I : i_Rel k u v) (hk : k + 4 ≤ 2049) (v1 : Int32) : wpX_runInfo (fun r => wpY_runInfo (fun r' => r' = r ∧ i_Rel (k + 4) u v) v v1) u v1 := by
  have I' := i_up I
  obtain ⟨c, s, ne, pd, im, E, an, st, sp, ms, B, HX, HY⟩ := I; obtain ⟨f_outputSize, a_image, a_entry, a_reached, a_classes, a_symbolic, a_functionStart, a_newAddress, a_output, rfl, hXI, hXE, hXA⟩ := HX; obtain ⟨f_pad, f_changed, a_img, a_ent, a_inS, a_mem, en, rfl, hYI, hYe, hYE, hYA⟩ := HY; obtain ⟨c8, c64, hsc, hne8, hb, hEs, hM, han⟩ := B; have hs : s ≤ 64 := (by omega); have hXI' : ∀ j, j < 64 → a_image j = nI (im j) := (fun j _ => hXI j); have hYI' : ∀ j, j < 64 → a_img j = nI (im j) := (fun j _ => hYI j)
  by_cases e0 : v1 = 0
  · subst e0
    exact br_f (by decide) (br_f (by decide) (br_t rfl (br_t rfl ⟨rfl, I'⟩)))
  by_cases e1 : v1 = 1
  · subst e1
    exact br_f (by decide) (br_f (by decide) (br_f (by decide) (br_t rfl (br_f (by decide) (br_t rfl ⟨rfl, I'⟩)))))
  by_cases e2 : v1 = 2
  · subst e2
    exact br_f (by decide) (br_f (by decide) (br_f (by decide) (br_f (by decide) (br_t rfl (br_f (by decide) (br_f (by decide) (br_t rfl ⟨rfl, I'⟩)))))))
  by_cases e3 : v1 = 3
  · subst e3
    exact br_f (by decide) (br_f (by decide) (br_f (by decide) (br_f (by decide) (br_f (by decide) (br_t rfl (br_f (by decide) (br_f (by decide) (br_f (by decide) (br_t rfl ⟨rfl, I'⟩)))))))))
  by_cases e4 : v1 = 4
  · subst e4
    exact br_f (by decide) (br_f (by decide) (br_f (by decide) (br_f (by decide) (br_f (by decide) (br_f (by decide) (br_t rfl (br_f (by decide) (br_f (by decide) (br_f (by decide) (br_f (by decide) (br_t rfl ⟨rfl, I'⟩)))))))))))
  by_cases h0 : v1 < 0
  · exact br_t h0 (br_f e0 (br_f e1 (br_f e2 (br_f e3 (br_f e4 ⟨rfl, I'⟩)))))
  by_cases h4 : 4 < v1
  · exact br_f h0 (br_t h4 (br_f e0 (br_f e1 (br_f e2 (br_f e3 (br_f e4 ⟨rfl, I'⟩))))))
  obtain ⟨j, hj, rfl⟩ := nI_of2 (x := v1) (M := 4) (n := 4) (by decide) h0 (Int32.not_lt.mp h4)
  have hc : j = 0 ∨ j = 1 ∨ j = 2 ∨ j = 3 ∨ j = 4 := by omega
  rcases hc with rfl | rfl | rfl | rfl | rfl
  · exact absurd rfl e0
  · exact absurd rfl e1
  · exact absurd rfl e2
  · exact absurd rfl e3
  · exact absurd rfl e4
theorem i_vc_runReg {k : Nat} {u : SX} {v : SY} (I : i_Rel k u v) (hk : k + 4 ≤ 2049) (v1 : Int32) : wpX_runReg (fun r => wpY_runReg (fun r' => r' = r ∧ i_Rel (k + 4) u v) v v1) u v1 := by
  have I' := i_up I
  obtain ⟨c, s, ne, pd, im, E, an, st, sp, ms, B, HX, HY⟩ := I; obtain ⟨f_outputSize, a_image, a_entry, a_reached, a_classes, a_symbolic, a_functionStart, a_newAddress, a_output, rfl, hXI, hXE, hXA⟩ := HX; obtain ⟨f_pad, f_changed, a_img, a_ent, a_inS, a_mem, en, rfl, hYI, hYe, hYE, hYA⟩ := HY; obtain ⟨c8, c64, hsc, hne8, hb, hEs, hM, han⟩ := B; have hs : s ≤ 64 := (by omega); have hXI' : ∀ j, j < 64 → a_image j = nI (im j) := (fun j _ => hXI j); have hYI' : ∀ j, j < 64 → a_img j = nI (im j) := (fun j _ => hYI j)
  by_cases h0 : v1 < 0
  · exact br_t h0 (br_t h0 ⟨rfl, I'⟩)
  obtain ⟨j, hj, rfl⟩ := nI_of h0
  exact br_f h0 (pk_le 4 j (fun h => br_f h0 (pk_le j 3 (fun z => absurd z (by omega)) (fun _ => ⟨rfl, I'⟩))) (fun h => ⟨pk_in j 4 (by omega), br_f h0 (pk_le j 3 (fun _ => ⟨pk_in j 4 (by omega), rfl, I'⟩) (fun z => absurd z (by omega)))⟩))
theorem i_vc_runOut {k : Nat} {u : SX} {v : SY} (I : i_Rel k u v) (hk : k + 4 ≤ 2049) (v1 : Int32) : wpX_runOut (fun r => wpY_runOut (fun r' => r' = r ∧ i_Rel (k + 4) u v) v v1) u v1 := by
  have I' := i_up I
  obtain ⟨c, s, ne, pd, im, E, an, st, sp, ms, B, HX, HY⟩ := I; obtain ⟨f_outputSize, a_image, a_entry, a_reached, a_classes, a_symbolic, a_functionStart, a_newAddress, a_output, rfl, hXI, hXE, hXA⟩ := HX; obtain ⟨f_pad, f_changed, a_img, a_ent, a_inS, a_mem, en, rfl, hYI, hYe, hYE, hYA⟩ := HY; obtain ⟨c8, c64, hsc, hne8, hb, hEs, hM, han⟩ := B; have hs : s ≤ 64 := (by omega); have hXI' : ∀ j, j < 64 → a_image j = nI (im j) := (fun j _ => hXI j); have hYI' : ∀ j, j < 64 → a_img j = nI (im j) := (fun j _ => hYI j)
  have hc := hM.2.2.2.2
  by_cases h0 : v1 < 0
  · exact br_t h0 (br_t h0 ⟨rfl, I'⟩)
  obtain ⟨j, hj, rfl⟩ := nI_of h0
  exact br_f h0 (pk_le ms.2.2.2.2.2 j (fun h => br_f h0 (pk_lt j ms.2.2.2.2.2 (fun z => absurd z (by omega)) (fun _ => ⟨rfl, I'⟩))) (fun h => ⟨pk_in j 16 (by omega), br_f h0 (pk_lt j ms.2.2.2.2.2 (fun _ => ⟨pk_in j 16 (by omega), rfl, I'⟩) (fun z => absurd z (by omega)))⟩))
theorem i_vc_run {k : Nat} {u : SX} {v : SY} (I : i_Rel k u v) (hk : k + 4 ≤ 2049) (v1 : Int32) (v2 : Int32) (v3 : Int32) : wpX_run (fun r u' => wpY_run (fun r' v' => r' = r ∧ i_Rel (k + 4) u' v') v v1 v2 v3) u v1 v2 v3 := by
  have I' := i_up I
  obtain ⟨c, s, ne, pd, im, E, an, st, sp, ms, B, HX, HY⟩ := I; obtain ⟨f_outputSize, a_image, a_entry, a_reached, a_classes, a_symbolic, a_functionStart, a_newAddress, a_output, rfl, hXI, hXE, hXA⟩ := HX; obtain ⟨f_pad, f_changed, a_img, a_ent, a_inS, a_mem, en, rfl, hYI, hYe, hYE, hYA⟩ := HY; obtain ⟨c8, c64, hsc, hne8, hb, hEs, hM, han⟩ := B; have hs : s ≤ 64 := (by omega); have hXI' : ∀ j, j < 64 → a_image j = nI (im j) := (fun j _ => hXI j); have hYI' : ∀ j, j < 64 → a_img j = nI (im j) := (fun j _ => hYI j)
  have key : (v1 = 0 ∨ v1 = 1) ∨ (¬ v1 = 0 ∧ ¬ v1 = 1) := by
    by_cases a : v1 = 0
    · exact Or.inl (Or.inl a)
    · by_cases b : v1 = 1
      · exact Or.inl (Or.inr b)
      · exact Or.inr ⟨a, b⟩
  rcases key with hw | ⟨w0, w1⟩
  rotate_left
  · exact br_f w0 (br_f w1 (br_f w0 (br_f w1 ⟨rfl, I'⟩)))
  have gX : ∀ {A B : Prop}, (v1 = 0 → A) → (v1 = 1 → A) → ((v1 = 0 → A) ∧ (¬ v1 = 0 → ((v1 = 1 → A) ∧ (¬ v1 = 1 → B)))) := fun a b => ⟨a, fun z => ⟨b, fun y => absurd (hw.resolve_left z) y⟩⟩
  by_cases h1 : v3 < 1
  · exact gX (fun e => br_t h1 (gX (fun e => br_t h1 ⟨rfl, I'⟩) (fun e => br_t h1 ⟨rfl, I'⟩))) (fun e => br_t h1 (gX (fun e => br_t h1 ⟨rfl, I'⟩) (fun e => br_t h1 ⟨rfl, I'⟩)))
  by_cases h2 : 2000 < v3
  · have h2' : ¬ v3 ≤ 2000 := Int32.not_le.mpr h2
    exact gX (fun e => br_f h1 (br_t h2 (gX (fun e => br_f h1 (br_f h2' ⟨rfl, I'⟩)) (fun e => br_f h1 (br_f h2' ⟨rfl, I'⟩))))) (fun e => br_f h1 (br_t h2 (gX (fun e => br_f h1 (br_f h2' ⟨rfl, I'⟩)) (fun e => br_f h1 (br_f h2' ⟨rfl, I'⟩)))))
  have h2' : v3 ≤ 2000 := Int32.not_lt.mp h2
  obtain ⟨mx, hmx, rfl⟩ := nI_of2 (x := v3) (M := 2000) (n := 2000) (by decide) (fun z => h1 (Int32.lt_of_lt_of_le z (by decide))) h2'
  have hmx1 : 1 ≤ mx := by
    rcases Nat.eq_zero_or_pos mx with z | z
    · exact absurd (by rw [z]; decide) h1
    · exact z
  rcases rd_ix v2 hs with h | ⟨j, hj, rfl⟩
  · have Y : ∀ e : True, (wY_run_11 (fun r' v' => r' = 0 ∧ i_Rel (k + 4) (nI c, nI s, nI ne, rd_b an, f_outputSize, st, sp, nI ms.1, nI ms.2.2.2.1, nI ms.2.2.2.2.2, a_image, a_entry, a_reached, a_classes, a_symbolic, a_functionStart, a_newAddress, a_output, ms.2.1, ms.2.2.1, ms.2.2.2.2.1) v') v1 v2 (nI mx) (nI c) (nI s) (nI ne) (rd_b an) f_pad f_changed st sp (nI ms.1) (nI ms.2.2.2.2.2) (nI ms.2.2.2.1) a_img a_ent a_inS ms.2.1 ms.2.2.2.2.1 ms.2.2.1 a_mem) := fun _ => br_f h1 (br_t h2' (rd_ixo h ⟨rfl, I'⟩))
    exact gX (fun e => br_f h1 (br_f h2 (xl_inI_f h (br_t rfl (gX (fun _ => Y trivial) (fun _ => Y trivial)))))) (fun e => br_f h1 (br_f h2 (xl_inI_f h (br_t rfl (gX (fun _ => Y trivial) (fun _ => Y trivial))))))
  rcases hw with rfl | rfl
  · refine xl_run0 hj hmx1 hmx hs hXI' hb hM.2.1 hM.2.2.1 ?_
    refine yl_run0 hj hmx1 hmx hs hYI' hb hM.2.1 hM.2.2.1 fun M => ⟨rfl, ?_⟩
    have hE2 := rd_MI_exec (m := im) (n := s) (by omega) hb mx 0 (j, rd_z4 ms.2.1, ms.2.2.1, 0, ms.2.2.2.2.1, 0) ⟨by show j < 256; omega, rd_By_z4 hM.2.1, hM.2.2.1, by show 0 ≤ 8; omega, by show 0 ≤ 16; omega⟩
    generalize rd_exec im s mx 0 (j, rd_z4 ms.2.1, ms.2.2.1, 0, ms.2.2.2.2.1, 0) = w at hE2 ⊢
    refine ⟨c, s, ne, pd, im, E, an, w.1, nI w.2.1, w.2.2, ⟨c8, c64, hsc, hne8, hb, hEs, hE2.1, han⟩, ?_, ?_⟩
    · exact ⟨f_outputSize, a_image, a_entry, a_reached, a_classes, a_symbolic, a_functionStart, a_newAddress, a_output, rfl, hXI, hXE, hXA⟩
    · exact ⟨f_pad, f_changed, a_img, a_ent, a_inS, M, en, rfl, hYI, hYe, hYE, hYA⟩
  · by_cases ha : an
    · have hn := rd_bn ha
      obtain ⟨hs0, hpd⟩ := han ha
      have hos := rd_os_le im E hs0 hs hpd
      have hna := rd_na_os im E pd hj
      obtain ⟨rfl, hS⟩ := hYA ha
      refine xl_run1 hj hmx1 hmx hpd hs hXI' hb hM.2.1 hM.2.2.1 (hXA ha) hn ?_
      refine yl_run1 hj hmx1 hmx hpd hs hYI' hb hS hne8 hYe hYE hM.2.1 hM.2.2.1 hn fun M => ⟨rfl, ?_⟩
      have hE2 := rd_MI_exec (m := rd_ob im s E pd) (n := rd_os im s E pd) (by omega) (fun i => rd_ob_lt hb hs0 hs hpd) mx 0 (rd_na im s E pd j, rd_z4 ms.2.1, ms.2.2.1, 0, ms.2.2.2.2.1, 0) ⟨by show rd_na im s E pd j < 256; omega, rd_By_z4 hM.2.1, hM.2.2.1, by show 0 ≤ 8; omega, by show 0 ≤ 16; omega⟩
      generalize rd_exec (rd_ob im s E pd) (rd_os im s E pd) mx 0 (rd_na im s E pd j, rd_z4 ms.2.1, ms.2.2.1, 0, ms.2.2.2.2.1, 0) = w at hE2 ⊢
      refine ⟨c, s, ne, pd, im, E, an, w.1, nI w.2.1, w.2.2, ⟨c8, c64, hsc, hne8, hb, hEs, hE2.1, han⟩, ?_, ?_⟩
      · exact ⟨f_outputSize, a_image, a_entry, a_reached, a_classes, a_symbolic, a_functionStart, a_newAddress, a_output, rfl, hXI, hXE, hXA⟩
      · exact ⟨nI pd, f_changed, a_img, a_ent, a_inS, M, en, rfl, hYI, hYe, hYE, hYA⟩
    · have hz := rd_b_f ha
      have n1 : ¬ (1 : Int32) = 0 := by decide
      exact br_f n1 (br_t rfl (br_f h1 (br_f h2 (xl_inI_t hj hs (br_f n1 (br_t rfl (br_t hz (br_f n1 (br_t rfl (br_f h1 (br_t h2' (rd_ixi hs hj (br_t rfl (br_t hz ⟨rfl, I'⟩))))))))))))))
end
