/-! Y: the machine -/
section
variable {f_cap f_size f_nent f_analysed f_pad f_changed f_status f_steps f_pc f_outCount f_depth : Int32} {a_img a_ent a_inS a_reg a_outs a_stack a_mem : Nat → Int32} {m : Nat → Nat} {s n mx : Nat} {post : Int32 → SY → Prop}
def rd_Ym (f_cap f_size f_nent f_analysed f_pad f_changed f_status f_steps f_pc f_outCount f_depth : Int32) (a_img a_ent a_inS a_reg a_outs a_stack a_mem : Nat → Int32) (w : Int32 × Nat × rd_MS) : SY := (f_cap, f_size, f_nent, f_analysed, f_pad, f_changed, w.1, nI w.2.1, nI w.2.2.1, nI w.2.2.2.2.2.2.2, nI w.2.2.2.2.2.1, a_img, a_ent, a_inS, w.2.2.2.1, w.2.2.2.2.2.2.1, w.2.2.2.2.1, a_mem)
theorem yl_getf {post : Int32 → Prop} (hn : n ≤ 253) (hm : ∀ j, j < n → a_mem j = nI (m j)) {i : Nat} (hi : i < 2 ^ 30) {x : Int32} (hx : x = nI i) (hp : ∀ r, (i < n → r = nI (m i)) → post r) : wpY_get post (f_cap, nI s, f_nent, f_analysed, f_pad, f_changed, f_status, f_steps, f_pc, f_outCount, f_depth, a_img, a_ent, a_inS, a_reg, a_outs, a_stack, a_mem) 1 x := by
  by_cases h : i < n
  · exact yl_get1 (by omega) hx (hp _ fun _ => hm i h)
  · exact yl_get1_any hi hx fun r => hp r fun z => absurd z h
theorem rd_and3 {r : Nat} (h : r ≤ 3) : nI r &&& 3 = nI r := by
  have e := pk_andN (n := r) (by omega) (m := 3) 2 (by decide)
  rw [e]
  congr 1
  exact Nat.mod_eq_of_lt (by omega)
theorem yl_step {J : Int32 → Int32 → Int32 → Int32 → Int32 → (Nat → Int32) → (Nat → Int32) → (Nat → Int32) → (Nat → Int32) → (Nat → Int32) → (Nat → Int32) → (Nat → Int32) → Prop} {st it p d c : Nat} {rg sk vl : Nat → Int32} {r1 r2 r3 : Int32} (hn : n ≤ 253) (hm : ∀ j, j < n → a_mem j = nI (m j)) (hb : ∀ j, m j < 256) (hB : rd_By rg) (hK : rd_By sk) (hd : d ≤ 8) (hc : c ≤ 16) (ho : rd_ok m n p)
    (hr1 : p + 1 < n → r1 = nI (m (p + 1))) (hr2 : p + 2 < n → r2 = nI (m (p + 2))) (hr3 : p + 3 < n → r3 = nI (m (p + 3)))
    (hF : rd_flt m n (m p) p rg d c → post 1 (f_cap, nI s, f_nent, f_analysed, f_pad, f_changed, 2, nI st, nI p, nI c, nI d, a_img, a_ent, a_inS, rg, vl, sk, a_mem))
    (hH : ¬ rd_flt m n (m p) p rg d c → m p = 0 → post 1 (f_cap, nI s, f_nent, f_analysed, f_pad, f_changed, 1, nI (st + 1), nI p, nI c, nI d, a_img, a_ent, a_inS, rg, vl, sk, a_mem))
    (hJ' : ¬ rd_flt m n (m p) p rg d c → ¬ m p = 0 → ∀ p' rg' sk' d' vl' c', rd_nx m (m p) p rg sk d vl c = (p', rg', sk', d', vl', c') → J (nI (it + 1)) (nI (st + 1)) (nI p') (nI c') (nI d') a_img a_ent a_inS rg' vl' sk' a_mem) :
    ∀ x10 : Int32, x10 = r1 &&& 3 → ((nI (m p) = 6 → (vp_in (r3 &&& 3) 4 ∧ (∀ x11 : Int32, x11 = (r2 + (rg (r3 &&& 3).toNatClampNeg)) &&& 255 → (wY_run_282 post J (nI mx) (nI n) (nI it) (nI (m p)) r1 r2 r3 x10 x11 f_cap (nI s) f_nent f_analysed f_pad f_changed 0 (nI st) (nI p) (nI c) (nI d) a_img a_ent a_inS rg vl sk a_mem)))) ∧ (¬ nI (m p) = 6 → (wY_run_282 post J (nI mx) (nI n) (nI it) (nI (m p)) r1 r2 r3 x10 0 f_cap (nI s) f_nent f_analysed f_pad f_changed 0 (nI st) (nI p) (nI c) (nI d) a_img a_ent a_inS rg vl sk a_mem))) := by
  obtain ⟨h1, h2, h3, h4, h5, h6⟩ := ho
  have b1 := hb (p + 1)
  have b2 := hb (p + 2)
  have b3 := hb (p + 3)
  have NF : (m p ≠ 6 ∧ m p ≠ 13 ∧ m p ≠ 7 ∧ m p ≠ 11 ∧ m p ≠ 12) → ¬ rd_flt m n (m p) p rg d c := fun h z => by unfold rd_flt at z; omega
  rcases rd_op15 h2 with e | e | e | e | e | e | e | e | e | e | e | e | e | e | e
  · have hf := NF (by omega)
    refine nm_e ?_
    (repeat (first | refine br_t (by rw [e]; decide) ?_ | refine br_f (by rw [e]; decide) ?_ | refine br_t rfl ?_))
    exact nm_r (nI_1 st) (hH hf e)
  · have hJ := hJ' (NF (by omega)) (by omega)
    refine nm_e ?_
    (repeat (first | refine br_t (by rw [e]; decide) ?_ | refine br_f (by rw [e]; decide) ?_ | refine br_t rfl ?_))
    refine nm_r (nI_add p 1) ?_
    (repeat (first | refine br_t (by rw [e]; decide) ?_ | refine br_f (by rw [e]; decide) ?_ | refine br_t rfl ?_))
    exact nm_r (nI_1 st) (nm_r (nI_1 it) (hJ _ _ _ _ _ _ (by rw [e]; rfl)))
  · have hJ := hJ' (NF (by omega)) (by omega)
    have el : rd_len (m p) = 3 := by rw [e]; rfl
    obtain rfl := hr1 (by omega)
    obtain rfl := hr2 (by omega)
    have k1 := h4 (by rw [e]; unfold rd_r1; omega)
    refine nm_r (rd_and3 k1) ?_
    (repeat (first | refine br_t (by rw [e]; decide) ?_ | refine br_f (by rw [e]; decide) ?_ | refine br_t rfl ?_))
    refine nm_r (nI_add p 3) ?_
    (repeat (first | refine br_t (by rw [e]; decide) ?_ | refine br_f (by rw [e]; decide) ?_ | refine br_t rfl ?_))
    refine ⟨pk_in (m (p + 1)) 4 (by omega), nm_r (e' := upd rg (m (p + 1)) (nI (m (p + 2)))) (by rw [nI_clamp (by omega)]) ?_⟩
    (repeat (first | refine br_t (by rw [e]; decide) ?_ | refine br_f (by rw [e]; decide) ?_ | refine br_t rfl ?_))
    exact nm_r (nI_1 st) (nm_r (nI_1 it) (hJ _ _ _ _ _ _ (by rw [e]; rfl)))
  · have hJ := hJ' (NF (by omega)) (by omega)
    have el : rd_len (m p) = 3 := by rw [e]; rfl
    obtain rfl := hr1 (by omega)
    obtain rfl := hr2 (by omega)
    have k1 := h4 (by rw [e]; unfold rd_r1; omega)
    refine nm_r (rd_and3 k1) ?_
    (repeat (first | refine br_t (by rw [e]; decide) ?_ | refine br_f (by rw [e]; decide) ?_ | refine br_t rfl ?_))
    refine nm_r (nI_add p 3) ?_
    (repeat (first | refine br_t (by rw [e]; decide) ?_ | refine br_f (by rw [e]; decide) ?_ | refine br_t rfl ?_))
    refine ⟨pk_in (m (p + 1)) 4 (by omega), nm_r (e' := upd rg (m (p + 1)) (nI (m (p + 2)))) (by rw [nI_clamp (by omega)]) ?_⟩
    (repeat (first | refine br_t (by rw [e]; decide) ?_ | refine br_f (by rw [e]; decide) ?_ | refine br_t rfl ?_))
    exact nm_r (nI_1 st) (nm_r (nI_1 it) (hJ _ _ _ _ _ _ (by rw [e]; rfl)))
  · have hJ := hJ' (NF (by omega)) (by omega)
    have el : rd_len (m p) = 3 := by rw [e]; rfl
    obtain rfl := hr1 (by omega)
    obtain rfl := hr2 (by omega)
    have k1 := h4 (by rw [e]; unfold rd_r1; omega)
    have k2 := h5 e
    have v1 := (rd_By_v hB (m (p + 1))).1
    have v2 := (rd_By_v hB (m (p + 2))).1
    refine nm_r (rd_and3 k1) ?_
    (repeat (first | refine br_t (by rw [e]; decide) ?_ | refine br_f (by rw [e]; decide) ?_ | refine br_t rfl ?_))
    refine nm_r (nI_add p 3) ?_
    (repeat (first | refine br_t (by rw [e]; decide) ?_ | refine br_f (by rw [e]; decide) ?_ | refine br_t rfl ?_))
    refine ⟨pk_in (m (p + 1)) 4 (by omega), pk_in (m (p + 2)) 4 (by omega) (rd_and3 k2), pk_in (m (p + 1)) 4 (by omega), nm_r (e' := upd rg (m (p + 1)) (nI ((rd_v (rg (m (p + 1))) + rd_v (rg (m (p + 2)))) % 256))) ?_ ?_⟩
    · rw [rd_add255 (rd_rv hB rfl (by omega)) (rd_rv hB (rd_and3 k2) (by omega)) (by omega), nI_clamp (by omega)]
    (repeat (first | refine br_t (by rw [e]; decide) ?_ | refine br_f (by rw [e]; decide) ?_ | refine br_t rfl ?_))
    exact nm_r (nI_1 st) (nm_r (nI_1 it) (hJ _ _ _ _ _ _ (by rw [e]; rfl)))
  · have hJ := hJ' (NF (by omega)) (by omega)
    have el : rd_len (m p) = 3 := by rw [e]; rfl
    obtain rfl := hr1 (by omega)
    obtain rfl := hr2 (by omega)
    have k1 := h4 (by rw [e]; unfold rd_r1; omega)
    have v1 := (rd_By_v hB (m (p + 1))).1
    refine nm_r (rd_and3 k1) ?_
    (repeat (first | refine br_t (by rw [e]; decide) ?_ | refine br_f (by rw [e]; decide) ?_ | refine br_t rfl ?_))
    refine nm_r (nI_add p 3) ?_
    (repeat (first | refine br_t (by rw [e]; decide) ?_ | refine br_f (by rw [e]; decide) ?_ | refine br_t rfl ?_))
    refine ⟨pk_in (m (p + 1)) 4 (by omega), pk_in (m (p + 1)) 4 (by omega), nm_r (e' := upd rg (m (p + 1)) (nI ((m (p + 2) + rd_v (rg (m (p + 1)))) % 256))) ?_ ?_⟩
    · rw [rd_add255 (rd_rv hB rfl (by omega)) rfl (by omega), nI_clamp (by omega), Nat.add_comm (m (p + 2))]
    (repeat (first | refine br_t (by rw [e]; decide) ?_ | refine br_f (by rw [e]; decide) ?_ | refine br_t rfl ?_))
    exact nm_r (nI_1 st) (nm_r (nI_1 it) (hJ _ _ _ _ _ _ (by rw [e]; rfl)))
  · have el : rd_len (m p) = 4 := by rw [e]; rfl
    obtain rfl := hr1 (by omega)
    obtain rfl := hr2 (by omega)
    obtain rfl := hr3 (by omega)
    have k1 := h4 (by rw [e]; unfold rd_r1; omega)
    have k3 := h6 e
    have v3 := (rd_By_v hB (m (p + 3))).1
    have hmod := Nat.mod_lt (m (p + 2) + rd_v (rg (m (p + 3)))) (show 0 < 256 by omega)
    refine nm_r (rd_and3 k1) ?_
    refine br_t (by rw [e]; decide) ⟨pk_in (m (p + 3)) 4 (by omega) (rd_and3 k3), nm_r (e' := nI ((m (p + 2) + rd_v (rg (m (p + 3)))) % 256)) (rd_add255 rfl (rd_rv hB (rd_and3 k3) (by omega)) (by omega)) ?_⟩
    (repeat (first | refine br_t (by rw [e]; decide) ?_ | refine br_f (by rw [e]; decide) ?_ | refine br_t rfl ?_))
    refine pk_lt ((m (p + 2) + rd_v (rg (m (p + 3)))) % 256) n (fun hlt => ?_) (fun hge => ?_)
    · have hJ := hJ' (fun z => by unfold rd_flt at z; omega) (by omega)
      (repeat (first | refine br_t (by rw [e]; decide) ?_ | refine br_f (by rw [e]; decide) ?_ | refine br_t rfl ?_))
      refine nm_r (nI_add p 4) ?_
      (repeat (first | refine br_t (by rw [e]; decide) ?_ | refine br_f (by rw [e]; decide) ?_ | refine br_t rfl ?_))
      refine yl_get1 (by omega) rfl ?_
      refine ⟨pk_in (m (p + 1)) 4 (by omega), nm_r (e' := upd rg (m (p + 1)) (nI (m ((m (p + 2) + rd_v (rg (m (p + 3)))) % 256)))) ?_ ?_⟩
      · rw [nI_clamp (by omega), hm _ hlt]
      (repeat (first | refine br_t (by rw [e]; decide) ?_ | refine br_f (by rw [e]; decide) ?_ | refine br_t rfl ?_))
      exact nm_r (nI_1 st) (nm_r (nI_1 it) (hJ _ _ _ _ _ _ (by rw [e]; rfl)))
    · have hh := hF (Or.inl ⟨e, hge⟩)
      (repeat (first | refine br_t (by rw [e]; decide) ?_ | refine br_f (by rw [e]; decide) ?_ | refine br_t rfl ?_))
      exact br_f (by decide) hh
  · have el : rd_len (m p) = 2 := by rw [e]; rfl
    obtain rfl := hr1 (by omega)
    have k1 := h4 (by rw [e]; unfold rd_r1; omega)
    refine nm_r (rd_and3 k1) ?_
    (repeat (first | refine br_t (by rw [e]; decide) ?_ | refine br_f (by rw [e]; decide) ?_ | refine br_t rfl ?_))
    refine pk_lt c 16 (fun hlt => ?_) (fun hge => ?_)
    · have hJ := hJ' (fun z => by unfold rd_flt at z; omega) (by omega)
      (repeat (first | refine br_t (by rw [e]; decide) ?_ | refine br_f (by rw [e]; decide) ?_ | refine br_t rfl ?_))
      refine nm_r (nI_add p 2) ?_
      (repeat (first | refine br_t (by rw [e]; decide) ?_ | refine br_f (by rw [e]; decide) ?_ | refine br_t rfl ?_))
      refine pk_le 16 c (fun z => absurd z (by omega)) (fun _ => ⟨pk_in (m (p + 1)) 4 (by omega), pk_in c 16 (by omega), nm_r (e' := upd vl c (rg (m (p + 1)))) (by rw [nI_clamp (by omega), nI_clamp (by omega)]) (nm_r (nI_1 c) ?_)⟩)
      (repeat (first | refine br_t (by rw [e]; decide) ?_ | refine br_f (by rw [e]; decide) ?_ | refine br_t rfl ?_))
      exact nm_r (nI_1 st) (nm_r (nI_1 it) (hJ _ _ _ _ _ _ (by rw [e]; rfl)))
    · have hh := hF (Or.inr (Or.inr (Or.inl ⟨e, hge⟩)))
      (repeat (first | refine br_t (by rw [e]; decide) ?_ | refine br_f (by rw [e]; decide) ?_ | refine br_t rfl ?_))
      exact br_f (by decide) hh
  · have hJ := hJ' (NF (by omega)) (by omega)
    have el : rd_len (m p) = 2 := by rw [e]; rfl
    obtain rfl := hr1 (by omega)
    refine nm_e ?_
    (repeat (first | refine br_t (by rw [e]; decide) ?_ | refine br_f (by rw [e]; decide) ?_ | refine br_t rfl ?_))
    refine nm_r (nI_add p 2) ?_
    (repeat (first | refine br_t (by rw [e]; decide) ?_ | refine br_f (by rw [e]; decide) ?_ | refine br_t rfl ?_))
    exact nm_r (nI_1 st) (nm_r (nI_1 it) (hJ _ _ _ _ _ _ (by rw [e]; rfl)))
  · have hJ := hJ' (NF (by omega)) (by omega)
    have el : rd_len (m p) = 4 := by rw [e]; rfl
    obtain rfl := hr1 (by omega)
    obtain rfl := hr2 (by omega)
    obtain rfl := hr3 (by omega)
    have k1 := h4 (by rw [e]; unfold rd_r1; omega)
    have v1 := (rd_By_v hB (m (p + 1))).1
    refine nm_r (rd_and3 k1) ?_
    (repeat (first | refine br_t (by rw [e]; decide) ?_ | refine br_f (by rw [e]; decide) ?_ | refine br_t rfl ?_))
    refine nm_r (nI_add p 4) ?_
    (repeat (first | refine br_t (by rw [e]; decide) ?_ | refine br_f (by rw [e]; decide) ?_ | refine br_t rfl ?_))
    refine ⟨pk_in (m (p + 1)) 4 (by omega), pk_eq (rd_v (rg (m (p + 1)))) (m (p + 2)) (fun h => ?_) (fun h => ?_) (rd_rv hB rfl (by omega)) rfl⟩
    · (repeat (first | refine br_t (by rw [e]; decide) ?_ | refine br_f (by rw [e]; decide) ?_ | refine br_t rfl ?_))
      refine nm_r (nI_1 st) (nm_r (nI_1 it) (hJ _ _ _ _ _ _ ?_))
      rw [e]
      show (rd_if _ _ _, _) = _
      rw [rd_if_t h]
    · (repeat (first | refine br_t (by rw [e]; decide) ?_ | refine br_f (by rw [e]; decide) ?_ | refine br_t rfl ?_))
      refine nm_r (nI_1 st) (nm_r (nI_1 it) (hJ _ _ _ _ _ _ ?_))
      rw [e]
      show (rd_if _ _ _, _) = _
      rw [rd_if_f h]
  · have hJ := hJ' (NF (by omega)) (by omega)
    have el : rd_len (m p) = 4 := by rw [e]; rfl
    obtain rfl := hr1 (by omega)
    obtain rfl := hr2 (by omega)
    obtain rfl := hr3 (by omega)
    have k1 := h4 (by rw [e]; unfold rd_r1; omega)
    have v1 := (rd_By_v hB (m (p + 1))).1
    refine nm_r (rd_and3 k1) ?_
    (repeat (first | refine br_t (by rw [e]; decide) ?_ | refine br_f (by rw [e]; decide) ?_ | refine br_t rfl ?_))
    refine nm_r (nI_add p 4) ?_
    (repeat (first | refine br_t (by rw [e]; decide) ?_ | refine br_f (by rw [e]; decide) ?_ | refine br_t rfl ?_))
    refine ⟨pk_in (m (p + 1)) 4 (by omega), pk_lt (rd_v (rg (m (p + 1)))) (m (p + 2)) (fun h => ?_) (fun h => ?_) (rd_rv hB rfl (by omega)) rfl⟩
    · (repeat (first | refine br_t (by rw [e]; decide) ?_ | refine br_f (by rw [e]; decide) ?_ | refine br_t rfl ?_))
      refine nm_r (nI_1 st) (nm_r (nI_1 it) (hJ _ _ _ _ _ _ ?_))
      rw [e]
      show (rd_if _ _ _, _) = _
      rw [rd_if_f (by omega)]
    · (repeat (first | refine br_t (by rw [e]; decide) ?_ | refine br_f (by rw [e]; decide) ?_ | refine br_t rfl ?_))
      refine nm_r (nI_1 st) (nm_r (nI_1 it) (hJ _ _ _ _ _ _ ?_))
      rw [e]
      show (rd_if _ _ _, _) = _
      rw [rd_if_t h]
  · have el : rd_len (m p) = 2 := by rw [e]; rfl
    obtain rfl := hr1 (by omega)
    refine nm_e ?_
    (repeat (first | refine br_t (by rw [e]; decide) ?_ | refine br_f (by rw [e]; decide) ?_ | refine br_t rfl ?_))
    refine pk_lt d 8 (fun hlt => ?_) (fun hge => ?_)
    · have hJ := hJ' (fun z => by unfold rd_flt at z; omega) (by omega)
      (repeat (first | refine br_t (by rw [e]; decide) ?_ | refine br_f (by rw [e]; decide) ?_ | refine br_t rfl ?_))
      refine nm_r (nI_add p 2) ?_
      (repeat (first | refine br_t (by rw [e]; decide) ?_ | refine br_f (by rw [e]; decide) ?_ | refine br_t rfl ?_))
      refine pk_le 8 d (fun z => absurd z (by omega)) (fun _ => ⟨pk_in d 8 (by omega), nm_r (e' := upd sk d (nI (p + 2))) (by rw [nI_clamp (by omega), ← nI_add]; rfl) (nm_r (nI_1 d) ?_)⟩)
      (repeat (first | refine br_t (by rw [e]; decide) ?_ | refine br_f (by rw [e]; decide) ?_ | refine br_t rfl ?_))
      exact nm_r (nI_1 st) (nm_r (nI_1 it) (hJ _ _ _ _ _ _ (by rw [e]; rfl)))
    · have hh := hF (Or.inr (Or.inr (Or.inr (Or.inl ⟨e, hge⟩))))
      (repeat (first | refine br_t (by rw [e]; decide) ?_ | refine br_f (by rw [e]; decide) ?_ | refine br_t rfl ?_))
      exact br_f (by decide) hh
  · refine nm_e ?_
    (repeat (first | refine br_t (by rw [e]; decide) ?_ | refine br_f (by rw [e]; decide) ?_ | refine br_t rfl ?_))
    refine pk_lt 0 d (fun hlt => ?_) (fun hge => ?_)
    · have hJ := hJ' (fun z => by unfold rd_flt at z; omega) (by omega)
      have hsub : nI d - 1 = nI (d - 1) := pk_sub (b := 1) (by omega)
      (repeat (first | refine br_t (by rw [e]; decide) ?_ | refine br_f (by rw [e]; decide) ?_ | refine br_t rfl ?_))
      refine nm_r (nI_add p 1) ?_
      (repeat (first | refine br_t (by rw [e]; decide) ?_ | refine br_f (by rw [e]; decide) ?_ | refine br_t rfl ?_))
      refine pk_le d 0 (fun z => absurd z (by omega)) (fun _ => nm_r hsub ⟨pk_in (d - 1) 8 (by omega), nm_r (rd_rv hK rfl (by omega)) ?_⟩)
      (repeat (first | refine br_t (by rw [e]; decide) ?_ | refine br_f (by rw [e]; decide) ?_ | refine br_t rfl ?_))
      exact nm_r (nI_1 st) (nm_r (nI_1 it) (hJ _ _ _ _ _ _ (by rw [e]; rfl)))
    · have hh := hF (Or.inr (Or.inr (Or.inr (Or.inr ⟨e, by omega⟩))))
      (repeat (first | refine br_t (by rw [e]; decide) ?_ | refine br_f (by rw [e]; decide) ?_ | refine br_t rfl ?_))
      exact br_f (by decide) hh
  · have el : rd_len (m p) = 3 := by rw [e]; rfl
    obtain rfl := hr1 (by omega)
    obtain rfl := hr2 (by omega)
    have k1 := h4 (by rw [e]; unfold rd_r1; omega)
    have v1 := (rd_By_v hB (m (p + 1))).1
    have hmod := Nat.mod_lt (m (p + 2) + rd_v (rg (m (p + 1)))) (show 0 < 256 by omega)
    refine nm_r (rd_and3 k1) ?_
    (repeat (first | refine br_t (by rw [e]; decide) ?_ | refine br_f (by rw [e]; decide) ?_ | refine br_t rfl ?_))
    refine ⟨pk_in (m (p + 1)) 4 (by omega), nm_r (e' := nI ((m (p + 2) + rd_v (rg (m (p + 1)))) % 256)) (rd_add255 rfl (rd_rv hB rfl (by omega)) (by omega)) ?_⟩
    (repeat (first | refine br_t (by rw [e]; decide) ?_ | refine br_f (by rw [e]; decide) ?_ | refine br_t rfl ?_))
    refine pk_lt ((m (p + 2) + rd_v (rg (m (p + 1)))) % 256) n (fun hlt => ?_) (fun hge => ?_)
    · have hJ := hJ' (fun z => by unfold rd_flt at z; omega) (by omega)
      (repeat (first | refine br_t (by rw [e]; decide) ?_ | refine br_f (by rw [e]; decide) ?_ | refine br_t rfl ?_))
      refine nm_r (nI_add p 3) ?_
      (repeat (first | refine br_t (by rw [e]; decide) ?_ | refine br_f (by rw [e]; decide) ?_ | refine br_t rfl ?_))
      refine yl_get1 (by omega) rfl ?_
      rw [hm _ hlt]
      (repeat (first | refine br_t (by rw [e]; decide) ?_ | refine br_f (by rw [e]; decide) ?_ | refine br_t rfl ?_))
      exact nm_r (nI_1 st) (nm_r (nI_1 it) (hJ _ _ _ _ _ _ (by rw [e]; rfl)))
    · have hh := hF (Or.inr (Or.inl ⟨e, hge⟩))
      (repeat (first | refine br_t (by rw [e]; decide) ?_ | refine br_f (by rw [e]; decide) ?_ | refine br_t rfl ?_))
      exact br_f (by decide) hh
  · have hJ := hJ' (NF (by omega)) (by omega)
    have el : rd_len (m p) = 2 := by rw [e]; rfl
    obtain rfl := hr1 (by omega)
    have k1 := h4 (by rw [e]; unfold rd_r1; omega)
    refine nm_r (rd_and3 k1) ?_
    (repeat (first | refine br_t (by rw [e]; decide) ?_ | refine br_f (by rw [e]; decide) ?_ | refine br_t rfl ?_))
    refine nm_r (nI_add p 2) ?_
    (repeat (first | refine br_t (by rw [e]; decide) ?_ | refine br_f (by rw [e]; decide) ?_ | refine br_t rfl ?_))
    refine ⟨pk_in (m (p + 1)) 4 (by omega), nm_r (rd_rv hB rfl (by omega)) ?_⟩
    exact nm_r (nI_1 st) (nm_r (nI_1 it) (hJ _ _ _ _ _ _ (by rw [e]; rfl)))
theorem yl_loop (hn : n ≤ 253) (hmx : mx ≤ 2000) (hm : ∀ j, j < n → a_mem j = nI (m j)) (hb : ∀ j, m j < 256) : ∀ (k st F : Nat) (u : rd_MS), rd_MI u → st + k = mx → k + 1 ≤ F → post 1 (rd_Ym f_cap (nI s) f_nent f_analysed f_pad f_changed f_status f_steps f_pc f_outCount f_depth a_img a_ent a_inS a_reg a_outs a_stack a_mem (rd_exec m n k st u)) → wY_run_145 post (nI mx) (nI n) f_cap (nI s) f_nent f_analysed f_pad f_changed 0 F (nI st) (nI st) (nI u.1) (nI u.2.2.2.2.2) (nI u.2.2.2.1) a_img a_ent a_inS u.2.1 u.2.2.2.2.1 u.2.2.1 a_mem := by
  intro k
  induction k with
  | zero =>
    intro st F u hu hst hF hp
    obtain ⟨F, rfl⟩ : ∃ G, F = G + 1 := ⟨F - 1, by omega⟩
    exact pk_lt mx st (fun z => absurd z (by omega)) (fun _ => pk_eq st mx (fun _ => hp) (fun z => absurd hst z))
  | succ k ih =>
    intro st F u hu hst hF hp
    obtain ⟨F, rfl⟩ : ∃ G, F = G + 1 := ⟨F - 1, by omega⟩
    obtain ⟨p, rg, sk, d, vl, c⟩ := u
    have hMI := hu
    obtain ⟨hpp, hB, hK, hd, hc⟩ := hu
    dsimp only at hpp hB hK hd hc
    have bp := hb p
    have B : (¬ rd_ok m n p ∨ rd_fl m n (p, rg, sk, d, vl, c)) → post 1 (f_cap, nI s, f_nent, f_analysed, f_pad, f_changed, 2, nI st, nI p, nI c, nI d, a_img, a_ent, a_inS, rg, vl, sk, a_mem) := by
      intro h
      rw [rd_exec_b (u := (p, rg, sk, d, vl, c)) k st h] at hp
      exact hp
    refine pk_lt mx st (fun z => absurd z (by omega)) (fun _ => pk_eq st mx (fun z => absurd z (by omega)) (fun _ => pk_le n p (fun z => B (Or.inl fun y => absurd y.1 (by omega))) (fun hpn => ?_)))
    refine yl_valid (m := m) (by omega) (by omega) (fun i hi x hx post hp => yl_get1 (by omega) hx (by rw [hm i hi]; exact hp)) hb ?_
    refine rd_brb (fun h => B (Or.inl h)) (fun ho => ⟨pk_in p 256 (by omega), nm_r (rd_rd hm p hpn (by omega)) ?_⟩)
    refine yl_getf hn hm (by omega) (nI_1 p) fun r1 hr1 => ?_
    refine yl_getf hn hm (by omega) (nI_add p 2) fun r2 hr2 => ?_
    refine yl_getf hn hm (by omega) (nI_add p 3) fun r3 hr3 => ?_
    refine yl_step hn hm hb hB hK hd hc ho hr1 hr2 hr3 (fun hf => B (Or.inr hf)) (fun hf h0 => ?_) (fun hf h0 p' rg' sk' d' vl' c' e => ?_)
    · rw [rd_exec_h (u := (p, rg, sk, d, vl, c)) k st ho hf h0] at hp
      exact hp
    · rw [rd_exec_n (u := (p, rg, sk, d, vl, c)) k st ho hf h0] at hp
      have hM := rd_MI_nxt (u := (p, rg, sk, d, vl, c)) hn hb hMI ho hf h0
      have e' : rd_nxt m (p, rg, sk, d, vl, c) = (p', rg', sk', d', vl', c') := e
      rw [e'] at hp hM
      exact ih (st + 1) F (p', rg', sk', d', vl', c') hM (by omega) (by omega) hp
end
