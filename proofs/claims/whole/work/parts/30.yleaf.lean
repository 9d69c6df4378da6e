/-! Y: the small methods -/
section
variable {f_cap f_size f_nent f_analysed f_pad f_changed f_status f_steps f_pc f_outCount f_depth : Int32} {a_img a_ent a_inS a_reg a_outs a_stack a_mem : Nat → Int32} {im m : Nat → Nat} {s : Nat} {E : Nat → Prop} {post : Int32 → Prop}
theorem yl_len {op : Nat} {x : Int32} (hx : x = nI op) (h : op ≤ 14) (hp : post (nI (rd_len op))) : wpY_len post (f_cap, nI s, f_nent, f_analysed, f_pad, f_changed, f_status, f_steps, f_pc, f_outCount, f_depth, a_img, a_ent, a_inS, a_reg, a_outs, a_stack, a_mem) x := by
  subst hx
  rcases rd_op15 h with e | e | e | e | e | e | e | e | e | e | e | e | e | e | e <;> subst e <;>
    repeat (first | exact br_t (by decide) hp | refine br_f (by decide) ?_ | exact hp)
theorem yl_get0 (hs : s ≤ 64) (hI : ∀ j, j < 64 → a_img j = nI (im j)) {i : Nat} (hi : i < s) {x : Int32} (hx : x = nI i) (hp : post (nI (im i))) : wpY_get post (f_cap, nI s, f_nent, f_analysed, f_pad, f_changed, f_status, f_steps, f_pc, f_outCount, f_depth, a_img, a_ent, a_inS, a_reg, a_outs, a_stack, a_mem) 0 x := by
  subst hx
  refine br_t rfl (br_f (rd_lt0 (by omega)) (pk_le s i (fun z => absurd z (by omega)) (fun _ => ⟨pk_in i 64 (by omega), ?_⟩)))
  rw [nI_clamp (by omega), hI i (by omega)]; exact hp
theorem yl_get1 {i : Nat} (hi : i < 256) {x : Int32} (hx : x = nI i) (hp : post (a_mem i)) : wpY_get post (f_cap, nI s, f_nent, f_analysed, f_pad, f_changed, f_status, f_steps, f_pc, f_outCount, f_depth, a_img, a_ent, a_inS, a_reg, a_outs, a_stack, a_mem) 1 x := by
  subst hx
  refine br_f (by decide) (br_f (rd_lt0 (by omega)) (pk_le 256 i (fun z => absurd z (by omega)) (fun _ => ⟨pk_in i 256 (by omega), ?_⟩)))
  rw [nI_clamp (by omega)]; exact hp
theorem yl_get1_any {i : Nat} (hi : i < 2 ^ 30) {x : Int32} (hx : x = nI i) (hp : ∀ r, post r) : wpY_get post (f_cap, nI s, f_nent, f_analysed, f_pad, f_changed, f_status, f_steps, f_pc, f_outCount, f_depth, a_img, a_ent, a_inS, a_reg, a_outs, a_stack, a_mem) 1 x := by
  subst hx
  exact br_f (by decide) (br_f (rd_lt0 (by omega)) (pk_le 256 i (fun _ => hp _) (fun _ => ⟨pk_in i 256 (by omega), hp _⟩)))
theorem yl_valid {w : Int32} {n p : Nat} (hn : n ≤ 256) (hpp : p < 2 ^ 30) (HG : ∀ i, i < n → ∀ x : Int32, x = nI i → ∀ post : Int32 → Prop, post (nI (m i)) → wpY_get post (f_cap, nI s, f_nent, f_analysed, f_pad, f_changed, f_status, f_steps, f_pc, f_outCount, f_depth, a_img, a_ent, a_inS, a_reg, a_outs, a_stack, a_mem) w x) (hb : ∀ j, m j < 256) (hp : post (rd_b (rd_ok m n p))) : wpY_valid post (f_cap, nI s, f_nent, f_analysed, f_pad, f_changed, f_status, f_steps, f_pc, f_outCount, f_depth, a_img, a_ent, a_inS, a_reg, a_outs, a_stack, a_mem) w (nI p) (nI n) := by
  have hl := rd_len_r (m p)
  have bp := hb p
  have b1 := hb (p + 1)
  have b2 := hb (p + 2)
  have b3 := hb (p + 3)
  have K134 : p < n → m p ≤ 14 → p + rd_len (m p) ≤ n → (rd_r1 (m p) → m (p + 1) ≤ 3) → (m p = 4 → m (p + 2) ≤ 3) → wY_valid_134 post w (nI p) (nI (m p)) f_cap (nI s) f_nent f_analysed f_pad f_changed f_status f_steps f_pc f_outCount f_depth a_img a_ent a_inS a_reg a_outs a_stack a_mem := by
    intro h1 h2 h3 h4 h5
    refine pk_eq (m p) 6 (fun e => ?_) (fun e => rd_pt hp ⟨h1, h2, h3, h4, h5, fun z => absurd z e⟩)
    have el : rd_len (m p) = 4 := by rw [e]; rfl
    refine HG (p + 3) (by omega) _ (nI_add p 3) _ ?_
    exact pk_le (m (p + 3)) 3 (fun z => rd_pt hp ⟨h1, h2, h3, h4, h5, fun _ => z⟩) (fun z => rd_pf hp fun y => absurd (y.2.2.2.2.2 e) (by omega))
  have K114 : p < n → m p ≤ 14 → p + rd_len (m p) ≤ n → (rd_r1 (m p) → m (p + 1) ≤ 3) → wY_valid_114 post w (nI p) (nI (m p)) f_cap (nI s) f_nent f_analysed f_pad f_changed f_status f_steps f_pc f_outCount f_depth a_img a_ent a_inS a_reg a_outs a_stack a_mem := by
    intro h1 h2 h3 h4
    refine pk_eq (m p) 4 (fun e => ?_) (fun e => K134 h1 h2 h3 h4 fun z => absurd z e)
    have el : rd_len (m p) = 3 := by rw [e]; rfl
    refine HG (p + 2) (by omega) _ (nI_add p 2) _ ?_
    exact pk_le (m (p + 2)) 3 (fun z => K134 h1 h2 h3 h4 fun _ => z) (fun z => rd_pf hp fun y => absurd (y.2.2.2.2.1 e) (by omega))
  have A1 : p < n → m p ≤ 14 → p + rd_len (m p) ≤ n → rd_r1 (m p) → wY_valid_88 post w (nI p) (nI (m p)) f_cap (nI s) f_nent f_analysed f_pad f_changed f_status f_steps f_pc f_outCount f_depth a_img a_ent a_inS a_reg a_outs a_stack a_mem := by
    intro h1 h2 h3 hr
    have h2l : 2 ≤ rd_len (m p) := by have := ((rd_r1_iff h2).mp hr).1; omega
    refine br_f (by decide) ?_
    refine HG (p + 1) (by omega) _ (nI_1 p) _ ?_
    exact pk_le (m (p + 1)) 3 (fun z => K114 h1 h2 h3 fun _ => z) (fun z => rd_pf hp fun y => absurd (y.2.2.2.1 hr) (by omega))
  have K60 : p < n → m p ≤ 14 → p + rd_len (m p) ≤ n → (m p < 2 ∨ 7 < m p) → wY_valid_60 post w (nI p) (nI (m p)) f_cap (nI s) f_nent f_analysed f_pad f_changed f_status f_steps f_pc f_outCount f_depth a_img a_ent a_inS a_reg a_outs a_stack a_mem := by
    intro h1 h2 h3 h7
    refine pk_eq (m p) 9 (fun e => A1 h1 h2 h3 (Or.inr (Or.inl e))) (fun e9 => ?_)
    refine pk_eq (m p) 10 (fun e => A1 h1 h2 h3 (Or.inr (Or.inr (Or.inl e)))) (fun e10 => ?_)
    refine pk_eq (m p) 13 (fun e => A1 h1 h2 h3 (Or.inr (Or.inr (Or.inr (Or.inl e))))) (fun e13 => ?_)
    refine pk_eq (m p) 14 (fun e => A1 h1 h2 h3 (Or.inr (Or.inr (Or.inr (Or.inr e))))) (fun e14 => ?_)
    refine br_t rfl (K114 h1 h2 h3 fun z => ?_)
    unfold rd_r1 at z; omega
  refine br_f (rd_lt0 (by omega)) (pk_lt p n (fun h1 => ?_) (fun h1 => rd_pf hp fun z => absurd z.1 (by omega)))
  refine HG p h1 _ rfl _ ?_
  refine br_f (rd_lt0 (by omega)) (pk_le (m p) 14 (fun h2 => ?_) (fun h2 => rd_pf hp fun z => absurd z.2.1 (by omega)))
  refine yl_len rfl h2 ?_
  refine pk_le (p + rd_len (m p)) n (fun h3 => ?_) (fun h3 => rd_pf hp fun z => absurd z.2.2.1 (by omega)) (nI_add _ _) rfl
  exact pk_lt (m p) 2 (fun z => K60 h1 h2 h3 (Or.inl z)) (fun z => pk_le (m p) 7 (fun y => A1 h1 h2 h3 (Or.inl ⟨z, y⟩)) (fun y => K60 h1 h2 h3 (Or.inr y)))
theorem yl_vS {p : Nat} (hps : p < s) (hs : s ≤ 64) (hI : ∀ j, j < 64 → a_img j = nI (im j)) (hb : ∀ j, im j < 256) (hp : post (rd_b (rd_nz a_inS p ∧ rd_ok im s p))) : wpY_vS post (f_cap, nI s, f_nent, f_analysed, f_pad, f_changed, f_status, f_steps, f_pc, f_outCount, f_depth, a_img, a_ent, a_inS, a_reg, a_outs, a_stack, a_mem) (nI p) := by
  refine br_f (rd_lt0 (by omega)) (pk_le s p (fun z => absurd z (by omega)) (fun _ => ⟨pk_in p 64 (by omega), rd_br0 (by omega) (fun z => rd_pf hp fun y => y.1 z) (fun z => ?_)⟩))
  refine yl_valid (m := im) (by omega) (by omega) (fun i hi x hx post hp => yl_get0 hs hI hi hx hp) hb ?_
  exact rd_brb (fun h => rd_pf hp fun y => h y.2) (fun h => rd_pt hp ⟨z, h⟩)
theorem rd_tl_pos {p : Nat} : 0 < rd_tl im s p ↔ (rd_tb im s p ∧ 1 ≤ im (p - 2)) := by
  constructor
  · intro h
    have := rd_tl_le h
    exact ⟨this.1, by omega⟩
  · rintro ⟨h1, h2⟩
    have e : rd_tl im s p = im (p - 2) := rd_if_t h1
    omega
theorem yl_bd {p : Nat} (hps : p < s) (hs : s ≤ 64) (hI : ∀ j, j < 64 → a_img j = nI (im j)) (hb : ∀ j, im j < 256) (hp : post (rd_b ((rd_nz a_inS p ∧ rd_ok im s p) ∧ 0 < rd_tl im s p))) : wpY_bounded post (f_cap, nI s, f_nent, f_analysed, f_pad, f_changed, f_status, f_steps, f_pc, f_outCount, f_depth, a_img, a_ent, a_inS, a_reg, a_outs, a_stack, a_mem) (nI p) := by
  unfold wpY_bounded
  refine yl_vS hps hs hI hb ?_
  refine rd_brb (fun h => rd_pf hp fun y => h y.1) (fun ho => ?_)
  have hle := ho.2.2.2.1
  have bp := hb p
  have F : (¬ (rd_tb im s p ∧ 1 ≤ im (p - 2))) → post 0 := fun h => rd_pf hp fun y => h (rd_tl_pos.mp y.2)
  refine ⟨pk_in p 64 (by omega), pk_eq (im p) 13 (fun e => ?_) (fun e => F fun z => e z.1.1) (rd_rd hI p (by omega) (by omega)) rfl⟩
  have el : rd_len (im p) = 3 := by rw [e]; rfl
  refine pk_le 4 p (fun h4 => ?_) (fun h4 => F fun z => absurd z.1.2.1 (by omega))
  have s4 : nI p - 4 = nI (p - 4) := pk_sub h4
  have s3 : nI p - 3 = nI (p - 3) := pk_sub (b := 3) (by omega)
  have s2 : nI p - 2 = nI (p - 2) := pk_sub (b := 2) (by omega)
  have b4 := hb (p - 4)
  have b3 := hb (p - 3)
  have b2 := hb (p - 2)
  have c1 := hb (p + 1)
  have c2 := hb (p + 2)
  refine ⟨pk_in (p - 4) 64 (by omega) s4, pk_eq (im (p - 4)) 10 (fun e10 => ?_) (fun e10 => F fun z => e10 z.1.2.2.1) (rd_rd hI (p - 4) (by omega) (by omega) s4) rfl⟩
  refine ⟨pk_in (p - 3) 64 (by omega) s3, pk_in (p + 1) 64 (by omega) (nI_1 p), pk_eq (im (p - 3)) (im (p + 1)) (fun e3 => ?_) (fun e3 => F fun z => e3 z.1.2.2.2.1) (rd_rd hI (p - 3) (by omega) (by omega) s3) (rd_rd hI (p + 1) (by omega) (by omega) (nI_1 p))⟩
  refine ⟨pk_in (p - 2) 64 (by omega) s2, nm_r (rd_rd hI (p - 2) (by omega) (by omega) s2) ?_⟩
  refine pk_lt (im (p - 2)) 1 (fun h1 => F fun z => absurd z.2 (by omega)) (fun h1 => ?_)
  refine pk_lt 16 (im (p - 2)) (fun h16 => F fun z => absurd z.1.2.2.2.2.1 (by omega)) (fun h16 => ?_)
  refine ⟨pk_in (p + 2) 64 (by omega) (nI_add p 2), pk_lt s (im (p + 2) + im (p - 2)) (fun hz => F fun z => absurd z.1.2.2.2.2.2 (by omega)) (fun hz => rd_pt hp ⟨ho, rd_tl_pos.mpr ⟨⟨e, h4, e10, e3, h16, hz⟩, h1⟩⟩) rfl ?_⟩
  rw [rd_rd hI (p + 2) (by omega) (by omega) (x := nI p + 2) (nI_add p 2), nI_add]
end
