/-! changes that meet -/
theorem up2_up2 {α : Type} (g : Nat → Nat → α) (f a : Nat) (v w : α) : up2 (up2 g f a v) f a w = up2 g f a w := by
  funext j b
  unfold up2
  by_cases h : j = f ∧ b = a
  · rw [if_pos h, if_pos h]
  · rw [if_neg h, if_neg h, if_neg h]
theorem up1_up1 {α : Type} (g : Nat → α) (a : Nat) (v w : α) : up1 (up1 g a v) a w = up1 g a w := by
  funext b
  unfold up1
  by_cases h : b = a
  · rw [if_pos h, if_pos h]
  · rw [if_neg h, if_neg h, if_neg h]
theorem up2_id {α : Type} (g : Nat → Nat → α) (f a : Nat) {v : α} (h : g f a = v) : up2 g f a v = g := by
  funext j b
  unfold up2
  by_cases e : j = f ∧ b = a
  · rw [if_pos e, e.1, e.2, h]
  · rw [if_neg e]
theorem up1_id {α : Type} (g : Nat → α) (a : Nat) {v : α} (h : g a = v) : up1 g a v = g := by
  funext b
  unfold up1
  by_cases e : b = a
  · rw [if_pos e, e, h]
  · rw [if_neg e]
theorem sI_sI (S : gk_S) (f a : Nat) (v w : Int32) : sI (sI S f a v) f a w = sI S f a w := congrArg (fun g => (gk_n S, gk_t S, gk_K S, g, gJ S, gP S, gL S, xI S, xJ S, xP S) : _ → gk_S) (up2_up2 (gI S) f a v w)
theorem sJ_sJ (S : gk_S) (f a : Nat) (v w : Int64) : sJ (sJ S f a v) f a w = sJ S f a w := congrArg (fun g => (gk_n S, gk_t S, gk_K S, gI S, g, gP S, gL S, xI S, xJ S, xP S) : _ → gk_S) (up2_up2 (gJ S) f a v w)
theorem rI_rI (S : gk_S) (a : Nat) (v w : Nat → Int32) : rI (rI S a v) a w = rI S a w := congrArg (fun g => (gk_n S, gk_t S, gk_K S, gI S, gJ S, gP S, gL S, g, xJ S, xP S) : _ → gk_S) (up1_up1 (xI S) a v w)
theorem rJ_rJ (S : gk_S) (a : Nat) (v w : Nat → Int64) : rJ (rJ S a v) a w = rJ S a w := congrArg (fun g => (gk_n S, gk_t S, gk_K S, gI S, gJ S, gP S, gL S, xI S, g, xP S) : _ → gk_S) (up1_up1 (xJ S) a v w)
theorem up2_comm {α : Type} (g : Nat → Nat → α) {f a f' a' : Nat} (h : f ≠ f' ∨ a ≠ a') (v w : α) : up2 (up2 g f a v) f' a' w = up2 (up2 g f' a' w) f a v := by
  funext j b
  unfold up2
  by_cases h1 : j = f ∧ b = a
  · by_cases h2 : j = f' ∧ b = a'
    · rcases h with h | h
      · exact absurd (h1.1.symm.trans h2.1) h
      · exact absurd (h1.2.symm.trans h2.2) h
    · rw [if_neg h2, if_pos h1, if_pos h1]
  · by_cases h2 : j = f' ∧ b = a'
    · rw [if_pos h2, if_neg h1, if_pos h2]
    · rw [if_neg h2, if_neg h1, if_neg h1, if_neg h2]
theorem up1_comm {α : Type} (g : Nat → α) {a a' : Nat} (h : a ≠ a') (v w : α) : up1 (up1 g a v) a' w = up1 (up1 g a' w) a v := by
  funext b
  unfold up1
  by_cases h1 : b = a
  · rw [if_pos h1, if_neg (fun q => h (h1.symm.trans q)), if_pos h1]
  · rw [if_neg h1, if_neg h1]
theorem sI_comm (S : gk_S) {f a f' a' : Nat} (h : f ≠ f' ∨ a ≠ a') (v w : Int32) : sI (sI S f a v) f' a' w = sI (sI S f' a' w) f a v := congrArg (fun g => (gk_n S, gk_t S, gk_K S, g, gJ S, gP S, gL S, xI S, xJ S, xP S) : _ → gk_S) (up2_comm (gI S) h v w)
theorem sJ_comm (S : gk_S) {f a f' a' : Nat} (h : f ≠ f' ∨ a ≠ a') (v w : Int64) : sJ (sJ S f a v) f' a' w = sJ (sJ S f' a' w) f a v := congrArg (fun g => (gk_n S, gk_t S, gk_K S, gI S, g, gP S, gL S, xI S, xJ S, xP S) : _ → gk_S) (up2_comm (gJ S) h v w)
theorem rI_comm (S : gk_S) {a a' : Nat} (h : a ≠ a') (v w : Nat → Int32) : rI (rI S a v) a' w = rI (rI S a' w) a v := congrArg (fun g => (gk_n S, gk_t S, gk_K S, gI S, gJ S, gP S, gL S, g, xJ S, xP S) : _ → gk_S) (up1_comm (xI S) h v w)
theorem rJ_comm (S : gk_S) {a a' : Nat} (h : a ≠ a') (v w : Nat → Int64) : rJ (rJ S a v) a' w = rJ (rJ S a' w) a v := congrArg (fun g => (gk_n S, gk_t S, gk_K S, gI S, gJ S, gP S, gL S, xI S, g, xP S) : _ → gk_S) (up1_comm (xJ S) h v w)
theorem rI_sI (S : gk_S) (f a b : Nat) (v : Int32) (g : Nat → Int32) : rI (sI S f a v) b g = sI (rI S b g) f a v := rfl
theorem sI_id (S : gk_S) (f a : Nat) {v : Int32} (h : gI S f a = v) : sI S f a v = S := congrArg (fun g => (gk_n S, gk_t S, gk_K S, g, gJ S, gP S, gL S, xI S, xJ S, xP S) : _ → gk_S) (up2_id (gI S) f a h)
theorem rI_id (S : gk_S) (a : Nat) {v : Nat → Int32} (h : xI S a = v) : rI S a v = S := congrArg (fun g => (gk_n S, gk_t S, gk_K S, gI S, gJ S, gP S, gL S, g, xJ S, xP S) : _ → gk_S) (up1_id (xI S) a h)
/-! bytes -/
def b8 (x : Int32) : Int32 := x.toInt8.toInt32
theorem b8_b8 (x : Int32) : b8 (b8 x) = b8 x := by
  unfold b8
  rw [Int8.toInt8_toInt32]
/-! an Octets -/
def oc (S : gk_S) (a b : Nat) (g : Nat → Int32) (m : Nat) : gk_S := sI (rI S b g) 101 a (nI m)
def OcH (S : gk_S) (a b n : Nat) : Prop := isb S a 1 = true ∧ gP S 100 a = some b ∧ isb S b 10 = true ∧ gL S b = n ∧ n < 4000
theorem oc_id {S : gk_S} {a b m : Nat} (h : gI S 101 a = nI m) : S = oc S a b (xI S b) m := by
  unfold oc
  rw [rI_id _ _ rfl, sI_id _ _ _ h]
theorem oc_oc (S : gk_S) (a b : Nat) (g g' : Nat → Int32) (m m' : Nat) : oc (oc S a b g m) a b g' m' = oc S a b g' m' := by
  unfold oc
  rw [rI_sI, rI_rI, sI_sI]
theorem o_add {S : gk_S} {a b n : Nat} (h : OcH S a b n) {F m : Nat} (hm : m < n) (g : Nat → Int32) (x : Int32) : f_X2_add F (oc S a b g m) a x = some ((), oc S a b (upd g m (b8 x)) (m + 1)) := by
  obtain ⟨h1, h2, h3, h4, h5⟩ := h
  have e0 : ¬ nI m < 0 := nI_pos (by omega)
  have e1 : ¬ nI n ≤ nI m := nI_ge hm (by omega)
  have e2 : inb (nI m) n = true := inb_n hm (by omega)
  have e3 : (nI m).toNatClampNeg = m := nI_clamp (by omega)
  have e4 : ∀ x : Int32, x.toInt8.toInt32.toInt8.toInt32 = b8 x := b8_b8
  simp only [f_X2_add, oc, qk_true, qk_false, qv_eq, qP_some', qP_none, qc_some', qc_none, qx_inl', qx_inr', qh_inl', qh_inr', isb_sI, isb_rI, gP_sI, gP_rI, gL_sI, gL_rI, h1, h2, h3, h4, gI_sI, and_self, if_true, e0, if_false, e1, e2, wB, xI_sI, xI_rI, e3, gI_rI, rI_sI, rI_rI, sI_sI, nI_1, e4]
theorem Sh_sI {S : gk_S} (h : Sh S) (f a : Nat) (v : Int32) : Sh (sI S f a v) := h
theorem Sh_sJ {S : gk_S} (h : Sh S) (f a : Nat) (v : Int64) : Sh (sJ S f a v) := h
theorem Sh_rI {S : gk_S} (h : Sh S) (a : Nat) (v : Nat → Int32) : Sh (rI S a v) := h
theorem Sh_rJ {S : gk_S} (h : Sh S) (a : Nat) (v : Nat → Int64) : Sh (rJ S a v) := h
theorem Sh_wI {S : gk_S} (h : Sh S) (a : Nat) (i v : Int32) : Sh (wI S a i v) := h
theorem Sh_wB {S : gk_S} (h : Sh S) (a : Nat) (i v : Int32) : Sh (wB S a i v) := h
theorem Sh_wJ {S : gk_S} (h : Sh S) (a : Nat) (i : Int32) (v : Int64) : Sh (wJ S a i v) := h
theorem Sh_c {S : gk_S} (h : Sh S) : Sh (cS S) := h
