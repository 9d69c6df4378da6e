/-! The machine, purely: pc, registers, stack, depth, values, their count -/
abbrev rd_MS : Type := Nat × (Nat → Int32) × (Nat → Int32) × Nat × (Nat → Int32) × Nat
def rd_v (x : Int32) : Nat := x.toNatClampNeg
def rd_By (a : Nat → Int32) : Prop := ∀ j, ∃ b, b < 256 ∧ a j = nI b
theorem rd_v_nI {b : Nat} (h : b < 2 ^ 31) : rd_v (nI b) = b := nI_clamp h
theorem rd_By_v {a : Nat → Int32} (h : rd_By a) (j : Nat) : rd_v (a j) < 256 ∧ a j = nI (rd_v (a j)) := by
  obtain ⟨b, hb, e⟩ := h j
  rw [e, rd_v_nI (by omega)]
  exact ⟨hb, rfl⟩
theorem rd_By_u {a : Nat → Int32} (h : rd_By a) (k : Nat) {b : Nat} (hb : b < 256) : rd_By (upd a k (nI b)) := by
  intro j
  unfold upd
  by_cases e : j = k
  · rw [if_pos e]; exact ⟨b, hb, rfl⟩
  · rw [if_neg e]; exact h j
theorem rd_By_0 : rd_By (fun _ => 0) := fun _ => ⟨0, by omega, rfl⟩
def rd_flt (m : Nat → Nat) (n op p : Nat) (rg : Nat → Int32) (d c : Nat) : Prop :=
  (op = 6 ∧ n ≤ (m (p + 2) + rd_v (rg (m (p + 3)))) % 256) ∨ (op = 13 ∧ n ≤ (m (p + 2) + rd_v (rg (m (p + 1)))) % 256) ∨ (op = 7 ∧ 16 ≤ c) ∨ (op = 11 ∧ 8 ≤ d) ∨ (op = 12 ∧ d = 0)
noncomputable def rd_nx (m : Nat → Nat) (op p : Nat) (rg sk : Nat → Int32) (d : Nat) (vl : Nat → Int32) (c : Nat) : rd_MS :=
  match op with
  | 1 => (p + 1, rg, sk, d, vl, c)
  | 2 => (p + 3, upd rg (m (p + 1)) (nI (m (p + 2))), sk, d, vl, c)
  | 3 => (p + 3, upd rg (m (p + 1)) (nI (m (p + 2))), sk, d, vl, c)
  | 4 => (p + 3, upd rg (m (p + 1)) (nI ((rd_v (rg (m (p + 1))) + rd_v (rg (m (p + 2)))) % 256)), sk, d, vl, c)
  | 5 => (p + 3, upd rg (m (p + 1)) (nI ((m (p + 2) + rd_v (rg (m (p + 1)))) % 256)), sk, d, vl, c)
  | 6 => (p + 4, upd rg (m (p + 1)) (nI (m ((m (p + 2) + rd_v (rg (m (p + 3)))) % 256))), sk, d, vl, c)
  | 7 => (p + 2, rg, sk, d, upd vl c (rg (m (p + 1))), c + 1)
  | 8 => (m (p + 1), rg, sk, d, vl, c)
  | 9 => (rd_if (rd_v (rg (m (p + 1))) = m (p + 2)) (m (p + 3)) (p + 4), rg, sk, d, vl, c)
  | 10 => (rd_if (m (p + 2) ≤ rd_v (rg (m (p + 1)))) (m (p + 3)) (p + 4), rg, sk, d, vl, c)
  | 11 => (m (p + 1), rg, upd sk d (nI (p + 2)), d + 1, vl, c)
  | 12 => (rd_v (sk (d - 1)), rg, sk, d - 1, vl, c)
  | 13 => (m ((m (p + 2) + rd_v (rg (m (p + 1)))) % 256), rg, sk, d, vl, c)
  | 14 => (rd_v (rg (m (p + 1))), rg, sk, d, vl, c)
  | _ => (p, rg, sk, d, vl, c)
noncomputable def rd_nxt (m : Nat → Nat) (u : rd_MS) : rd_MS := rd_nx m (m u.1) u.1 u.2.1 u.2.2.1 u.2.2.2.1 u.2.2.2.2.1 u.2.2.2.2.2
def rd_fl (m : Nat → Nat) (n : Nat) (u : rd_MS) : Prop := rd_flt m n (m u.1) u.1 u.2.1 u.2.2.2.1 u.2.2.2.2.2
noncomputable def rd_exec (m : Nat → Nat) (n : Nat) : Nat → Nat → rd_MS → Int32 × Nat × rd_MS
  | 0 => fun st u => (3, st, u)
  | k + 1 => fun st u => rd_if (¬ rd_ok m n u.1 ∨ rd_fl m n u) (2, st, u) (rd_if (m u.1 = 0) (1, st + 1, u) (rd_exec m n k (st + 1) (rd_nxt m u)))
theorem rd_exec_b {m : Nat → Nat} {n : Nat} (k st : Nat) {u : rd_MS} (h : ¬ rd_ok m n u.1 ∨ rd_fl m n u) : rd_exec m n (k + 1) st u = (2, st, u) := rd_if_t h
theorem rd_exec_h {m : Nat → Nat} {n : Nat} (k st : Nat) {u : rd_MS} (h : rd_ok m n u.1) (h2 : ¬ rd_fl m n u) (h3 : m u.1 = 0) : rd_exec m n (k + 1) st u = (1, st + 1, u) :=
  (rd_if_f (fun z => z.elim (fun a => a h) h2)).trans (rd_if_t h3)
theorem rd_exec_n {m : Nat → Nat} {n : Nat} (k st : Nat) {u : rd_MS} (h : rd_ok m n u.1) (h2 : ¬ rd_fl m n u) (h3 : ¬ m u.1 = 0) : rd_exec m n (k + 1) st u = rd_exec m n k (st + 1) (rd_nxt m u) :=
  (rd_if_f (fun z => z.elim (fun a => a h) h2)).trans (rd_if_f h3)
/-- what the machine keeps -/
def rd_MI (u : rd_MS) : Prop := u.1 < 256 ∧ rd_By u.2.1 ∧ rd_By u.2.2.1 ∧ u.2.2.2.1 ≤ 8 ∧ u.2.2.2.2.2 ≤ 16
theorem rd_MI_nxt {m : Nat → Nat} {n : Nat} (hn : n ≤ 253) (hm : ∀ j, m j < 256) {u : rd_MS} (h : rd_MI u) (ho : rd_ok m n u.1) (hf : ¬ rd_fl m n u) (h0 : ¬ m u.1 = 0) : rd_MI (rd_nxt m u) := by
  obtain ⟨p, rg, sk, d, vl, c⟩ := u
  obtain ⟨hp, hr, hs, hd, hc⟩ := h
  obtain ⟨o1, o2, o3, -⟩ := ho
  dsimp only at hp hr hs hd hc o1 o2 o3 hf h0
  unfold rd_nxt
  unfold rd_fl at hf
  dsimp only at hf ⊢
  have hop : m p = 1 ∨ m p = 2 ∨ m p = 3 ∨ m p = 4 ∨ m p = 5 ∨ m p = 6 ∨ m p = 7 ∨ m p = 8 ∨ m p = 9 ∨ m p = 10 ∨ m p = 11 ∨ m p = 12 ∨ m p = 13 ∨ m p = 14 := by omega
  rcases hop with e | e | e | e | e | e | e | e | e | e | e | e | e | e <;> rw [e] at o3 hf ⊢
  · have : rd_len 1 = 1 := rfl
    exact ⟨by show p + 1 < 256; omega, hr, hs, hd, hc⟩
  · have : rd_len 2 = 3 := rfl
    exact ⟨by show p + 3 < 256; omega, rd_By_u hr _ (hm _), hs, hd, hc⟩
  · have : rd_len 3 = 3 := rfl
    exact ⟨by show p + 3 < 256; omega, rd_By_u hr _ (hm _), hs, hd, hc⟩
  · have : rd_len 4 = 3 := rfl
    exact ⟨by show p + 3 < 256; omega, rd_By_u hr _ (Nat.mod_lt _ (by omega)), hs, hd, hc⟩
  · have : rd_len 5 = 3 := rfl
    exact ⟨by show p + 3 < 256; omega, rd_By_u hr _ (Nat.mod_lt _ (by omega)), hs, hd, hc⟩
  · have : rd_len 6 = 4 := rfl
    exact ⟨by show p + 4 < 256; omega, rd_By_u hr _ (hm _), hs, hd, hc⟩
  · have : rd_len 7 = 2 := rfl
    have hc' : ¬ 16 ≤ c := fun z => hf (Or.inr (Or.inr (Or.inl ⟨rfl, z⟩)))
    exact ⟨by show p + 2 < 256; omega, hr, hs, hd, by show c + 1 ≤ 16; omega⟩
  · exact ⟨hm _, hr, hs, hd, hc⟩
  · have : rd_len 9 = 4 := rfl
    refine ⟨?_, hr, hs, hd, hc⟩
    show rd_if _ (m (p + 3)) (p + 4) < 256
    by_cases hh : rd_v (rg (m (p + 1))) = m (p + 2)
    · rw [rd_if_t hh]; exact hm _
    · rw [rd_if_f hh]; omega
  · have : rd_len 10 = 4 := rfl
    refine ⟨?_, hr, hs, hd, hc⟩
    show rd_if _ (m (p + 3)) (p + 4) < 256
    by_cases hh : m (p + 2) ≤ rd_v (rg (m (p + 1)))
    · rw [rd_if_t hh]; exact hm _
    · rw [rd_if_f hh]; omega
  · have : rd_len 11 = 2 := rfl
    have hd' : ¬ 8 ≤ d := fun z => hf (Or.inr (Or.inr (Or.inr (Or.inl ⟨rfl, z⟩))))
    exact ⟨hm _, hr, rd_By_u hs _ (by omega), by show d + 1 ≤ 8; omega, hc⟩
  · exact ⟨(rd_By_v hs _).1, hr, hs, by show d - 1 ≤ 8; omega, hc⟩
  · exact ⟨hm _, hr, hs, hd, hc⟩
  · exact ⟨(rd_By_v hr _).1, hr, hs, hd, hc⟩
theorem rd_MI_exec {m : Nat → Nat} {n : Nat} (hn : n ≤ 253) (hm : ∀ j, m j < 256) : ∀ (k st : Nat) (u : rd_MS), rd_MI u → rd_MI (rd_exec m n k st u).2.2 ∧ (rd_exec m n k st u).2.1 ≤ st + k ∧ ((rd_exec m n k st u).1 = 1 ∨ (rd_exec m n k st u).1 = 2 ∨ (rd_exec m n k st u).1 = 3) := by
  intro k
  induction k with
  | zero => intro st u h; exact ⟨h, Nat.le_refl _, Or.inr (Or.inr rfl)⟩
  | succ k ih =>
    intro st u h
    by_cases hb : ¬ rd_ok m n u.1 ∨ rd_fl m n u
    · rw [rd_exec_b k st hb]; exact ⟨h, Nat.le_add_right _ _, Or.inr (Or.inl rfl)⟩
    · have h1 : rd_ok m n u.1 := Classical.byContradiction fun z => hb (Or.inl z)
      have h2 : ¬ rd_fl m n u := fun z => hb (Or.inr z)
      by_cases h3 : m u.1 = 0
      · rw [rd_exec_h k st h1 h2 h3]; exact ⟨h, by show st + 1 ≤ st + (k + 1); omega, Or.inl rfl⟩
      · rw [rd_exec_n k st h1 h2 h3]
        obtain ⟨a, b, c⟩ := ih (st + 1) _ (rd_MI_nxt hn hm h h1 h2 h3)
        exact ⟨a, by omega, c⟩
