/-! THE WORLD, THE JUDGEMENTS -/
/-- the words that every method of the claim has -/
def gG : List Cond := lw_tbl.filter goodWord
theorem gG_of {w : Cond} (i : Nat) (h : lw_tbl[i]? = some w) (hg : goodWord w = true) : w ∈ gG := List.mem_filter.mpr ⟨List.mem_of_getElem? h, hg⟩
theorem gG_good {w : Cond} (h : w ∈ gG) : goodWord w = true := (List.mem_filter.mp h).2
/-- a method: its name, code, locals, what it returns, its handlers -/
abbrev gk_M : Type := MethodName × ByteArray × Nat × Option FieldType × List (Nat × Nat × Nat × Nat)
abbrev gk_M.y (M : gk_M) : MethodName := M.1
abbrev gk_M.cc (M : gk_M) : ByteArray := M.2.1
abbrev gk_M.nL (M : gk_M) : Nat := M.2.2.1
abbrev gk_M.rt (M : gk_M) : Option FieldType := M.2.2.2.1
abbrev gk_M.hh (M : gk_M) : List (Nat × Nat × Nat × Nat) := M.2.2.2.2
/-- the classes of the world, by number -/
def gk_q : Nat → vw_C
  | 0 => (RX0, TX0, 9)
  | 1 => (RX2, TX2, 2)
  | 2 => (RX3, TX3, 2)
  | 3 => (RX5, TX5, 5)
  | 4 => (RX6, TX6, 4)
  | 5 => (RX7, TX7, 9)
  | 6 => (RX8, TX8, 6)
  | 7 => (RX9, TX9, 11)
  | 8 => (RX11, TX11, 14)
  | _ => (RX12, TX12, 42)
def gk_ty : Nat → Nat → FieldType
  | 0 => tyX0
  | 1 => tyX2
  | 2 => tyX3
  | 3 => tyX5
  | 4 => tyX6
  | 5 => tyX7
  | 6 => tyX8
  | 7 => tyX9
  | 8 => tyX11
  | _ => tyX12
theorem gk_lt10 {ci : Nat} (h : ci < 10) : ci = 0 ∨ ci = 1 ∨ ci = 2 ∨ ci = 3 ∨ ci = 4 ∨ ci = 5 ∨ ci = 6 ∨ ci = 7 ∨ ci = 8 ∨ ci = 9 := by omega
theorem gk_cq {ci : Nat} (h : ci < 10) : vwCl[ci]? = some (gk_q ci) := by
  rcases gk_lt10 h with rfl | rfl | rfl | rfl | rfl | rfl | rfl | rfl | rfl | rfl <;> rfl
theorem gk_tyok {ci : Nat} (h : ci < 10) : ∀ k, k < (gk_q ci).2.2 → parseFieldDescriptor ((gk_q ci).2.1 k).2.2.1 = some (gk_ty ci k) := by
  rcases gk_lt10 h with rfl | rfl | rfl | rfl | rfl | rfl | rfl | rfl | rfl | rfl
  · exact tyX0_ok
  · exact tyX2_ok
  · exact tyX3_ok
  · exact tyX5_ok
  · exact tyX6_ok
  · exact tyX7_ok
  · exact tyX8_ok
  · exact tyX9_ok
  · exact tyX11_ok
  · exact tyX12_ok
theorem gk_nm {ci : Nat} (h : ci < 10) : ∀ a, a < (gk_q ci).2.2 → ∀ b, b < (gk_q ci).2.2 → a ≠ b → ((gk_q ci).2.1 a).2.1 ≠ ((gk_q ci).2.1 b).2.1 := by
  rcases gk_lt10 h with rfl | rfl | rfl | rfl | rfl | rfl | rfl | rfl | rfl | rfl
  · exact nmX0
  · exact nmX2
  · exact nmX3
  · exact nmX5
  · exact nmX6
  · exact nmX7
  · exact nmX8
  · exact nmX9
  · exact nmX11
  · exact nmX12
set_option maxRecDepth 100000 in
theorem gk_lay0 : ∀ w ∈ u_ws RX0 TX0 9, w ∈ lw_tbl ∧ goodWord w = true := by decide +kernel
set_option maxRecDepth 100000 in
theorem gk_lay1 : ∀ w ∈ u_ws RX2 TX2 2, w ∈ lw_tbl ∧ goodWord w = true := by decide +kernel
set_option maxRecDepth 100000 in
theorem gk_lay2 : ∀ w ∈ u_ws RX3 TX3 2, w ∈ lw_tbl ∧ goodWord w = true := by decide +kernel
set_option maxRecDepth 100000 in
theorem gk_lay3 : ∀ w ∈ u_ws RX5 TX5 5, w ∈ lw_tbl ∧ goodWord w = true := by decide +kernel
set_option maxRecDepth 100000 in
theorem gk_lay4 : ∀ w ∈ u_ws RX6 TX6 4, w ∈ lw_tbl ∧ goodWord w = true := by decide +kernel
set_option maxRecDepth 100000 in
theorem gk_lay5 : ∀ w ∈ u_ws RX7 TX7 9, w ∈ lw_tbl ∧ goodWord w = true := by decide +kernel
set_option maxRecDepth 100000 in
theorem gk_lay6 : ∀ w ∈ u_ws RX8 TX8 6, w ∈ lw_tbl ∧ goodWord w = true := by decide +kernel
set_option maxRecDepth 100000 in
theorem gk_lay7 : ∀ w ∈ u_ws RX9 TX9 11, w ∈ lw_tbl ∧ goodWord w = true := by decide +kernel
set_option maxRecDepth 100000 in
theorem gk_lay8 : ∀ w ∈ u_ws RX11 TX11 14, w ∈ lw_tbl ∧ goodWord w = true := by decide +kernel
set_option maxRecDepth 100000 in
theorem gk_lay9 : ∀ w ∈ u_ws RX12 TX12 42, w ∈ lw_tbl ∧ goodWord w = true := by decide +kernel
theorem gk_in {ci : Nat} (h : ci < 10) : ∀ w ∈ u_ws (gk_q ci).1 (gk_q ci).2.1 (gk_q ci).2.2, w ∈ gG := by
  intro w hw
  refine List.mem_filter.mpr ?_
  rcases gk_lt10 h with rfl | rfl | rfl | rfl | rfl | rfl | rfl | rfl | rfl | rfl
  · exact gk_lay0 w hw
  · exact gk_lay1 w hw
  · exact gk_lay2 w hw
  · exact gk_lay3 w hw
  · exact gk_lay4 w hw
  · exact gk_lay5 w hw
  · exact gk_lay6 w hw
  · exact gk_lay7 w hw
  · exact gk_lay8 w hw
  · exact gk_lay9 w hw
/-- a reference of the world, as the machine has it -/
def gk_rf (X : gk_X) (r : Option Nat) : Option Nat := r.map (fun k => X.B + k)
/-- a value, as the machine has it: .ref k the k-th cell, .retAddr c a constant -/
def gk_v (X : gk_X) : Value → Value
  | .ref k => .ref (X.B + k)
  | .retAddr c => X.kc c
  | v => v
/-- a field's value by its type -/
def gk_fv (X : gk_X) (S : gk_S) (ty : FieldType) (f a : Nat) : Value := match ty with
  | .long => .long (gJ S f a)
  | .object _ => va_rf (gk_rf X (gP S f a))
  | .array _ => va_rf (gk_rf X (gP S f a))
  | _ => .int (gI S f a)
def gk_fl (X : gk_X) (S : gk_S) (ci a : Nat) : List Value := (List.range (gk_q ci).2.2).map fun j => gk_fv X S (gk_ty ci j) (100 * ci + j) a
/-- what a cell is -/
def gk_en (X : gk_X) (S : gk_S) (a : Nat) : va_E :=
  if gk_K S a < 10 then .inr (gk_K S a, gk_fl X S (gk_K S a) a)
  else if gk_K S a = 12 then .inl (X.cy 12, (gL S a, .inr (.inl (xJ S a))))
  else if gk_K S a < 14 then .inl (X.cy (gk_K S a), (gL S a, .inl (xI S a)))
  else .inl (X.cy (gk_K S a), (gL S a, .inr (.inr (.inr (.inr (fun i => gk_rf X (xP S a i)))))))
def gk_ws (X : gk_X) (S : gk_S) : va_W := (List.range (gk_n S)).map fun k => (X.B + k, gk_en X S k)
/-- nothing stands behind the last cell -/
def gk_0 (S : gk_S) : Prop := ∀ a, gk_n S ≤ a → (∀ f, gI S f a = 0 ∧ gJ S f a = 0 ∧ gP S f a = none) ∧ ∀ i, xI S a i = 0 ∧ xJ S a i = 0 ∧ xP S a i = none
def gk_H (X : gk_X) (S : gk_S) (H : Heap) : Prop := va_P X.D vwCl (gk_ws X S) H ∧ (gk_t S = true → H.size = X.B + gk_n S ∧ gk_0 S)
theorem gk_ws_at (X : gk_X) (S : gk_S) {k : Nat} (h : k < gk_n S) : (gk_ws X S)[k]? = some (X.B + k, gk_en X S k) := by
  unfold gk_ws
  rw [List.getElem?_map, List.getElem?_range h]
  rfl
theorem gk_ws_inv {X : gk_X} {S : gk_S} {k : Nat} {q : Nat × va_E} (h : (gk_ws X S)[k]? = some q) : k < gk_n S ∧ q = (X.B + k, gk_en X S k) := by
  have hl : k < gk_n S := by
    have := (List.getElem?_eq_some_iff.mp h).1
    simpa [gk_ws] using this
  rw [gk_ws_at X S hl] at h
  exact ⟨hl, (Option.some.inj h).symm⟩
theorem gk_D (X : gk_X) (S : gk_S) : va_D X.A (gk_ws X S) := by
  refine ⟨fun i j p q hi hj e => ?_, fun k q hk => ?_⟩
  · obtain ⟨-, rfl⟩ := gk_ws_inv hi
    obtain ⟨-, rfl⟩ := gk_ws_inv hj
    have : X.B + i = X.B + j := e
    omega
  · obtain ⟨-, rfl⟩ := gk_ws_inv hk
    exact Nat.le_add_right _ _
/-- a world changed at one cell -/
theorem gk_ws_set {X : gk_X} {S T : gk_S} {k : Nat} {e : va_E} (hn : gk_n T = gk_n S) (he : gk_en X T k = e) (ho : ∀ a, a ≠ k → gk_en X T a = gk_en X S a) : (gk_ws X S).set k (X.B + k, e) = gk_ws X T := by
  apply List.ext_getElem?
  intro i
  by_cases hik : k = i
  · subst hik
    by_cases hl : k < gk_n S
    · rw [List.getElem?_set_self (by simpa [gk_ws] using hl), gk_ws_at X T (by rw [hn]; exact hl), he]
    · rw [List.getElem?_eq_none (by simp [gk_ws]; omega), List.getElem?_eq_none (by simp [gk_ws, hn]; omega)]
  · rw [List.getElem?_set_ne hik]
    by_cases hl : i < gk_n S
    · rw [gk_ws_at X S hl, gk_ws_at X T (by rw [hn]; exact hl), ho i (fun e => hik e.symm)]
    · rw [List.getElem?_eq_none (by simp [gk_ws]; omega), List.getElem?_eq_none (by simp [gk_ws, hn]; omega)]
/-- a world with one cell more -/
theorem gk_ws_new {X : gk_X} {S T : gk_S} {e : va_E} (hn : gk_n T = gk_n S + 1) (he : gk_en X T (gk_n S) = e) (ho : ∀ a, a < gk_n S → gk_en X T a = gk_en X S a) : gk_ws X S ++ [(X.B + gk_n S, e)] = gk_ws X T := by
  unfold gk_ws
  rw [hn, List.range_succ, List.map_append]
  congr 1
  · apply List.map_congr_left
    intro a ha
    rw [ho a (List.mem_range.mp ha)]
  · simp [he]
/-- the array classes, by kind -/
def gk_tys (X : gk_X) : List (ClassId × FieldType) := [(X.cy 10, .byte), (X.cy 11, .int), (X.cy 12, .long), (X.cy 13, .boolean), (X.cy 14, .object RX0), (X.cy 15, .object RX5), (X.cy 16, .object RX6), (X.cy 17, .array .int), (X.cy 18, .array .long)]
