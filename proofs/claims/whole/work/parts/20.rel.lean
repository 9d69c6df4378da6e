/-! The pictures of both states, and the relation -/
/-- what holds of the picture itself -/
def rd_B (c s ne pd : Nat) (im : Nat → Nat) (E : Nat → Prop) (an : Prop) (ms : rd_MS) : Prop :=
  8 ≤ c ∧ c ≤ 64 ∧ s ≤ c ∧ ne ≤ 8 ∧ (∀ j, im j < 256) ∧ (∀ q, E q → q < s) ∧ rd_MI ms ∧ (an → 0 < s ∧ pd ≤ 3)
def rd_XR (c s ne pd : Nat) (im : Nat → Nat) (E : Nat → Prop) (an : Prop) (st sp : Int32) (ms : rd_MS) (u : SX) : Prop :=
  ∃ (f_outputSize : Int32) (a_image a_entry a_reached a_classes a_symbolic a_functionStart a_newAddress a_output : Nat → Int32),
    u = (nI c, nI s, nI ne, rd_b an, f_outputSize, st, sp, nI ms.1, nI ms.2.2.2.1, nI ms.2.2.2.2.2, a_image, a_entry, a_reached, a_classes, a_symbolic, a_functionStart, a_newAddress, a_output, ms.2.1, ms.2.2.1, ms.2.2.2.2.1) ∧
    (∀ j, a_image j = nI (im j)) ∧ (∀ j, a_entry j = rd_b (E j)) ∧ (an → rd_XA im s E pd f_outputSize a_classes a_symbolic a_functionStart a_newAddress a_output)
def rd_YR (c s ne pd : Nat) (im : Nat → Nat) (E : Nat → Prop) (an : Prop) (st sp : Int32) (ms : rd_MS) (v : SY) : Prop :=
  ∃ (f_pad f_changed : Int32) (a_img a_ent a_inS a_mem : Nat → Int32) (en : Nat → Nat),
    v = (nI c, nI s, nI ne, rd_b an, f_pad, f_changed, st, sp, nI ms.1, nI ms.2.2.2.2.2, nI ms.2.2.2.1, a_img, a_ent, a_inS, ms.2.1, ms.2.2.2.2.1, ms.2.2.1, a_mem) ∧
    (∀ j, a_img j = nI (im j)) ∧ (∀ e, e < ne → a_ent e = nI (en e) ∧ en e < s) ∧ (∀ q, E q ↔ ∃ e, e < ne ∧ en e = q) ∧ (an → f_pad = nI pd ∧ ∀ q, q < s → (¬ a_inS q = 0 ↔ rd_LR im s E q))
def i_Rel (_ : Nat) (u : SX) (v : SY) : Prop :=
  ∃ (c s ne pd : Nat) (im : Nat → Nat) (E : Nat → Prop) (an : Prop) (st sp : Int32) (ms : rd_MS), rd_B c s ne pd im E an ms ∧ rd_XR c s ne pd im E an st sp ms u ∧ rd_YR c s ne pd im E an st sp ms v
