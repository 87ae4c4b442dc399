/-! what is read of a changed heap -/
theorem isb_sI (S : gk_S) (f a : Nat) (v : Int32) (c k : Nat) : isb (sI S f a v) c k = isb S c k := rfl
theorem isb_sJ (S : gk_S) (f a : Nat) (v : Int64) (c k : Nat) : isb (sJ S f a v) c k = isb S c k := rfl
theorem isb_sP (S : gk_S) (f a : Nat) (v : Option Nat) (c k : Nat) : isb (sP S f a v) c k = isb S c k := rfl
theorem isb_rI (S : gk_S) (a : Nat) (v : Nat → Int32) (c k : Nat) : isb (rI S a v) c k = isb S c k := rfl
theorem isb_rJ (S : gk_S) (a : Nat) (v : Nat → Int64) (c k : Nat) : isb (rJ S a v) c k = isb S c k := rfl
theorem isb_rP (S : gk_S) (a : Nat) (v : Nat → Option Nat) (c k : Nat) : isb (rP S a v) c k = isb S c k := rfl
theorem isb_cS (S : gk_S)  (c k : Nat) : isb (cS S ) c k = isb S c k := rfl
theorem isb_wI (S : gk_S) (a : Nat) (i v : Int32) (c k : Nat) : isb (wI S a i v) c k = isb S c k := rfl
theorem gk_n_wI (S : gk_S) (a : Nat) (i v : Int32) : gk_n (wI S a i v) = gk_n S := rfl
theorem gk_K_wI (S : gk_S) (a : Nat) (i v : Int32) : gk_K (wI S a i v) = gk_K S := rfl
theorem gI_wI (S : gk_S) (a : Nat) (i v : Int32) : gI (wI S a i v) = gI S := rfl
theorem gJ_wI (S : gk_S) (a : Nat) (i v : Int32) : gJ (wI S a i v) = gJ S := rfl
theorem gP_wI (S : gk_S) (a : Nat) (i v : Int32) : gP (wI S a i v) = gP S := rfl
theorem gL_wI (S : gk_S) (a : Nat) (i v : Int32) : gL (wI S a i v) = gL S := rfl
theorem xI_wI (S : gk_S) (a : Nat) (i v : Int32) (c : Nat) : xI (wI S a i v) c = if c = a then upd (xI S a) i.toNatClampNeg v else xI S c := rfl
theorem xJ_wI (S : gk_S) (a : Nat) (i v : Int32) : xJ (wI S a i v) = xJ S := rfl
theorem xP_wI (S : gk_S) (a : Nat) (i v : Int32) : xP (wI S a i v) = xP S := rfl
theorem isb_wB (S : gk_S) (a : Nat) (i v : Int32) (c k : Nat) : isb (wB S a i v) c k = isb S c k := rfl
theorem gk_n_wB (S : gk_S) (a : Nat) (i v : Int32) : gk_n (wB S a i v) = gk_n S := rfl
theorem gk_K_wB (S : gk_S) (a : Nat) (i v : Int32) : gk_K (wB S a i v) = gk_K S := rfl
theorem gI_wB (S : gk_S) (a : Nat) (i v : Int32) : gI (wB S a i v) = gI S := rfl
theorem gJ_wB (S : gk_S) (a : Nat) (i v : Int32) : gJ (wB S a i v) = gJ S := rfl
theorem gP_wB (S : gk_S) (a : Nat) (i v : Int32) : gP (wB S a i v) = gP S := rfl
theorem gL_wB (S : gk_S) (a : Nat) (i v : Int32) : gL (wB S a i v) = gL S := rfl
theorem xI_wB (S : gk_S) (a : Nat) (i v : Int32) (c : Nat) : xI (wB S a i v) c = if c = a then upd (xI S a) i.toNatClampNeg v.toInt8.toInt32 else xI S c := rfl
theorem xJ_wB (S : gk_S) (a : Nat) (i v : Int32) : xJ (wB S a i v) = xJ S := rfl
theorem xP_wB (S : gk_S) (a : Nat) (i v : Int32) : xP (wB S a i v) = xP S := rfl
theorem isb_wJ (S : gk_S) (a : Nat) (i : Int32) (v : Int64) (c k : Nat) : isb (wJ S a i v) c k = isb S c k := rfl
theorem gk_n_wJ (S : gk_S) (a : Nat) (i : Int32) (v : Int64) : gk_n (wJ S a i v) = gk_n S := rfl
theorem gk_K_wJ (S : gk_S) (a : Nat) (i : Int32) (v : Int64) : gk_K (wJ S a i v) = gk_K S := rfl
theorem gI_wJ (S : gk_S) (a : Nat) (i : Int32) (v : Int64) : gI (wJ S a i v) = gI S := rfl
theorem gJ_wJ (S : gk_S) (a : Nat) (i : Int32) (v : Int64) : gJ (wJ S a i v) = gJ S := rfl
theorem gP_wJ (S : gk_S) (a : Nat) (i : Int32) (v : Int64) : gP (wJ S a i v) = gP S := rfl
theorem gL_wJ (S : gk_S) (a : Nat) (i : Int32) (v : Int64) : gL (wJ S a i v) = gL S := rfl
theorem xI_wJ (S : gk_S) (a : Nat) (i : Int32) (v : Int64) : xI (wJ S a i v) = xI S := rfl
theorem xJ_wJ (S : gk_S) (a : Nat) (i : Int32) (v : Int64) (c : Nat) : xJ (wJ S a i v) c = if c = a then vp_updL (xJ S a) i.toNatClampNeg v else xJ S c := rfl
theorem xP_wJ (S : gk_S) (a : Nat) (i : Int32) (v : Int64) : xP (wJ S a i v) = xP S := rfl
theorem isb_wP (S : gk_S) (a : Nat) (i : Int32) (v : Nat) (c k : Nat) : isb (wP S a i v) c k = isb S c k := rfl
theorem gk_n_wP (S : gk_S) (a : Nat) (i : Int32) (v : Nat) : gk_n (wP S a i v) = gk_n S := rfl
theorem gk_K_wP (S : gk_S) (a : Nat) (i : Int32) (v : Nat) : gk_K (wP S a i v) = gk_K S := rfl
theorem gI_wP (S : gk_S) (a : Nat) (i : Int32) (v : Nat) : gI (wP S a i v) = gI S := rfl
theorem gJ_wP (S : gk_S) (a : Nat) (i : Int32) (v : Nat) : gJ (wP S a i v) = gJ S := rfl
theorem gP_wP (S : gk_S) (a : Nat) (i : Int32) (v : Nat) : gP (wP S a i v) = gP S := rfl
theorem gL_wP (S : gk_S) (a : Nat) (i : Int32) (v : Nat) : gL (wP S a i v) = gL S := rfl
theorem xI_wP (S : gk_S) (a : Nat) (i : Int32) (v : Nat) : xI (wP S a i v) = xI S := rfl
theorem xJ_wP (S : gk_S) (a : Nat) (i : Int32) (v : Nat) : xJ (wP S a i v) = xJ S := rfl
theorem xP_wP (S : gk_S) (a : Nat) (i : Int32) (v : Nat) (c : Nat) : xP (wP S a i v) c = if c = a then va_up (xP S a) i.toNatClampNeg (some v) else xP S c := rfl
theorem qk_true {γ : Type} (A : Option γ) : qk true A = A := rfl
theorem qk_false {γ : Type} (A : Option γ) : qk false A = none := rfl
theorem qP_some' {γ : Type} (b : Nat) (A : Nat → Option γ) : qP (some b) A = A b := rfl
theorem qP_none {γ : Type} (A : Nat → Option γ) : qP none A = none := rfl
theorem qc_some' {α γ : Type} (v : α) (S : gk_S) (A : α → gk_S → Option γ) : qc (some (v, S)) A = A v S := rfl
theorem qc_none {α γ : Type} (A : α → gk_S → Option γ) : qc none A = none := rfl
theorem qx_inl' {α β : Type} (v : α) (S : gk_S) (A : α → gk_S → Option ((β ⊕ String) × gk_S)) : qx (some (.inl v, S)) A = A v S := rfl
theorem qx_inr' {α β : Type} (E : String) (S : gk_S) (A : α → gk_S → Option ((β ⊕ String) × gk_S)) : qx (some (.inr E, S)) A = some (.inr E, S) := rfl
theorem qh_inl' {α γ : Type} (v : α) (S : gk_S) (A : α → gk_S → Option γ) (B : String → gk_S → Option γ) : qh (some (.inl v, S)) A B = A v S := rfl
theorem qh_inr' {α γ : Type} (E : String) (S : gk_S) (A : α → gk_S → Option γ) (B : String → gk_S → Option γ) : qh (some (.inr E, S)) A B = B E S := rfl
theorem inb_n {i n : Nat} (h : i < n) (hn : n < 2 ^ 31) : inb (nI i) n = true := inb_of (by rw [nI_toInt (by omega)]; omega) (by rw [nI_toInt (by omega)]; omega)
theorem gk_t_cS' (S : gk_S) : gk_t (cS S) = false := rfl
def gk_S0 : gk_S := (0, true, fun _ => 0, fun _ _ => 0, fun _ _ => 0, fun _ _ => none, fun _ => 0, fun _ _ => 0, fun _ _ => 0, fun _ _ => none)
def shT : List (Nat × Nat) := [(8, 0), (1, 0), (10, 2100), (1, 0), (10, 3000), (16, 4), (4, 0), (15, 16), (3, 0), (12, 6), (12, 6), (3, 0), (12, 6), (12, 6), (3, 0), (12, 6), (12, 6), (3, 0), (12, 6), (12, 6), (3, 0), (12, 6), (12, 6), (3, 0), (12, 6), (12, 6), (3, 0), (12, 6), (12, 6), (3, 0), (12, 6), (12, 6), (3, 0), (12, 6), (12, 6), (3, 0), (12, 6), (12, 6), (3, 0), (12, 6), (12, 6), (3, 0), (12, 6), (12, 6), (3, 0), (12, 6), (12, 6), (3, 0), (12, 6), (12, 6), (3, 0), (12, 6), (12, 6), (3, 0), (12, 6), (12, 6), (4, 0), (15, 16), (3, 0), (12, 6), (12, 6), (3, 0), (12, 6), (12, 6), (3, 0), (12, 6), (12, 6), (3, 0), (12, 6), (12, 6), (3, 0), (12, 6), (12, 6), (3, 0), (12, 6), (12, 6), (3, 0), (12, 6), (12, 6), (3, 0), (12, 6), (12, 6), (3, 0), (12, 6), (12, 6), (3, 0), (12, 6), (12, 6), (3, 0), (12, 6), (12, 6), (3, 0), (12, 6), (12, 6), (3, 0), (12, 6), (12, 6), (3, 0), (12, 6), (12, 6), (3, 0), (12, 6), (12, 6), (3, 0), (12, 6), (12, 6), (4, 0), (15, 16), (3, 0), (12, 6), (12, 6), (3, 0), (12, 6), (12, 6), (3, 0), (12, 6), (12, 6), (3, 0), (12, 6), (12, 6), (3, 0), (12, 6), (12, 6), (3, 0), (12, 6), (12, 6), (3, 0), (12, 6), (12, 6), (3, 0), (12, 6), (12, 6), (3, 0), (12, 6), (12, 6), (3, 0), (12, 6), (12, 6), (3, 0), (12, 6), (12, 6), (3, 0), (12, 6), (12, 6), (3, 0), (12, 6), (12, 6), (3, 0), (12, 6), (12, 6), (3, 0), (12, 6), (12, 6), (3, 0), (12, 6), (12, 6), (4, 0), (15, 16), (3, 0), (12, 6), (12, 6), (3, 0), (12, 6), (12, 6), (3, 0), (12, 6), (12, 6), (3, 0), (12, 6), (12, 6), (3, 0), (12, 6), (12, 6), (3, 0), (12, 6), (12, 6), (3, 0), (12, 6), (12, 6), (3, 0), (12, 6), (12, 6), (3, 0), (12, 6), (12, 6), (3, 0), (12, 6), (12, 6), (3, 0), (12, 6), (12, 6), (3, 0), (12, 6), (12, 6), (3, 0), (12, 6), (12, 6), (3, 0), (12, 6), (12, 6), (3, 0), (12, 6), (12, 6), (3, 0), (12, 6), (12, 6), (4, 0), (15, 16), (3, 0), (12, 6), (12, 6), (3, 0), (12, 6), (12, 6), (3, 0), (12, 6), (12, 6), (3, 0), (12, 6), (12, 6), (3, 0), (12, 6), (12, 6), (3, 0), (12, 6), (12, 6), (3, 0), (12, 6), (12, 6), (3, 0), (12, 6), (12, 6), (3, 0), (12, 6), (12, 6), (3, 0), (12, 6), (12, 6), (3, 0), (12, 6), (12, 6), (3, 0), (12, 6), (12, 6), (3, 0), (12, 6), (12, 6), (3, 0), (12, 6), (12, 6), (3, 0), (12, 6), (12, 6), (3, 0), (12, 6), (12, 6), (7, 0), (5, 0), (12, 7), (18, 7), (12, 65), (12, 65), (12, 65), (12, 65), (12, 65), (12, 65), (12, 65), (17, 7), (11, 65), (11, 65), (11, 65), (11, 65), (11, 65), (11, 65), (11, 65), (11, 7), (11, 8), (11, 3), (12, 1024), (6, 0), (14, 64), (0, 0), (0, 0), (0, 0), (0, 0), (0, 0), (0, 0), (0, 0), (0, 0), (0, 0), (0, 0), (0, 0), (0, 0), (0, 0), (0, 0), (0, 0), (0, 0), (0, 0), (0, 0), (0, 0), (0, 0), (0, 0), (0, 0), (0, 0), (0, 0), (0, 0), (0, 0), (0, 0), (0, 0), (0, 0), (0, 0), (0, 0), (0, 0), (0, 0), (0, 0), (0, 0), (0, 0), (0, 0), (0, 0), (0, 0), (0, 0), (0, 0), (0, 0), (0, 0), (0, 0), (0, 0), (0, 0), (0, 0), (0, 0), (0, 0), (0, 0), (0, 0), (0, 0), (0, 0), (0, 0), (0, 0), (0, 0), (0, 0), (0, 0), (0, 0), (0, 0), (0, 0), (0, 0), (0, 0), (0, 0), (2, 0), (12, 6), (2, 0), (12, 6), (2, 0), (12, 6), (12, 7), (9, 0), (10, 2100), (11, 6), (11, 6), (11, 96), (11, 96), (12, 576), (12, 576), (11, 17), (11, 18), (11, 18), (10, 3000), (12, 7), (12, 7), (12, 7), (12, 16384), (13, 16384), (11, 576), (11, 7), (11, 5), (12, 1)]
def shP : List (Nat × Nat × Nat) := [(100, 1, 2), (100, 3, 4), (800, 0, 1), (801, 0, 3), (802, 0, 5), (803, 0, 256), (804, 0, 257), (805, 0, 279), (806, 0, 345), (807, 0, 347), (808, 0, 349), (809, 0, 351), (700, 256, 1), (500, 257, 258), (501, 257, 259), (502, 257, 267), (503, 257, 275), (504, 257, 276), (505, 257, 277), (507, 257, 278), (600, 279, 280), (200, 345, 346), (200, 347, 348), (200, 349, 350), (901, 352, 353), (905, 352, 354), (906, 352, 355), (907, 352, 356), (908, 352, 357), (909, 352, 358), (910, 352, 359), (911, 352, 360), (912, 352, 361), (913, 352, 362), (920, 352, 363), (922, 352, 364), (923, 352, 365), (924, 352, 366), (928, 352, 367), (929, 352, 368), (931, 352, 369), (939, 352, 370), (940, 352, 371)]
/-- the bases of the lists -/
def ru (r i : Nat) : Nat := r + 2 + 3 * i
def Ba (r : Nat) : Prop := ∃ k : Nat, k < 5 ∧ r = 6 + 50 * k
/-- what never changes: kinds, lengths, pointers -/
def Sh (S : gk_S) : Prop := gk_n S = 373 ∧ (∀ a, a < 373 → gk_K S a = (shT.getD a (0, 0)).1 ∧ gL S a = (shT.getD a (0, 0)).2) ∧ (∀ q ∈ shP, gP S q.1 q.2.1 = some q.2.2) ∧
  (∀ k, k < 5 → gP S 400 (6 + 50 * k) = some (6 + 50 * k + 1) ∧ ∀ i, i < 16 → xP S (6 + 50 * k + 1) i = some (ru (6 + 50 * k) i) ∧ gP S 300 (ru (6 + 50 * k) i) = some (ru (6 + 50 * k) i + 1) ∧ gP S 301 (ru (6 + 50 * k) i) = some (ru (6 + 50 * k) i + 2)) ∧
  ∀ i, i < 7 → xP S 259 i = some (260 + i) ∧ xP S 267 i = some (268 + i)
theorem sh_is {S : gk_S} (h : Sh S) {a k : Nat} (ha : a < 373) (e : (shT.getD a (0, 0)).1 = k) : isb S a k = true := isb_of ⟨by rw [h.1]; exact ha, (h.2.1 a ha).1.trans e⟩
theorem sh_L {S : gk_S} (h : Sh S) {a k : Nat} (ha : a < 373) (e : (shT.getD a (0, 0)).2 = k) : gL S a = k := (h.2.1 a ha).2.trans e
theorem sh_P {S : gk_S} (h : Sh S) {f a b : Nat} (e : (f, a, b) ∈ shP) : gP S f a = some b := h.2.2.1 (f, a, b) e
theorem z_i0 {S : gk_S} (h : Sh S) : isb S 0 8 = true := sh_is h (by decide) (by decide)
theorem z_i1 {S : gk_S} (h : Sh S) : isb S 1 1 = true := sh_is h (by decide) (by decide)
theorem z_i2 {S : gk_S} (h : Sh S) : isb S 2 10 = true := sh_is h (by decide) (by decide)
theorem z_l2 {S : gk_S} (h : Sh S) : gL S 2 = 2100 := sh_L h (by decide) (by decide)
theorem z_i3 {S : gk_S} (h : Sh S) : isb S 3 1 = true := sh_is h (by decide) (by decide)
theorem z_i4 {S : gk_S} (h : Sh S) : isb S 4 10 = true := sh_is h (by decide) (by decide)
theorem z_l4 {S : gk_S} (h : Sh S) : gL S 4 = 3000 := sh_L h (by decide) (by decide)
theorem z_i5 {S : gk_S} (h : Sh S) : isb S 5 16 = true := sh_is h (by decide) (by decide)
theorem z_l5 {S : gk_S} (h : Sh S) : gL S 5 = 4 := sh_L h (by decide) (by decide)
theorem z_i256 {S : gk_S} (h : Sh S) : isb S 256 7 = true := sh_is h (by decide) (by decide)
theorem z_i257 {S : gk_S} (h : Sh S) : isb S 257 5 = true := sh_is h (by decide) (by decide)
theorem z_i258 {S : gk_S} (h : Sh S) : isb S 258 12 = true := sh_is h (by decide) (by decide)
theorem z_l258 {S : gk_S} (h : Sh S) : gL S 258 = 7 := sh_L h (by decide) (by decide)
theorem z_i259 {S : gk_S} (h : Sh S) : isb S 259 18 = true := sh_is h (by decide) (by decide)
theorem z_l259 {S : gk_S} (h : Sh S) : gL S 259 = 7 := sh_L h (by decide) (by decide)
theorem z_i260 {S : gk_S} (h : Sh S) : isb S 260 12 = true := sh_is h (by decide) (by decide)
theorem z_l260 {S : gk_S} (h : Sh S) : gL S 260 = 65 := sh_L h (by decide) (by decide)
theorem z_i261 {S : gk_S} (h : Sh S) : isb S 261 12 = true := sh_is h (by decide) (by decide)
theorem z_l261 {S : gk_S} (h : Sh S) : gL S 261 = 65 := sh_L h (by decide) (by decide)
theorem z_i262 {S : gk_S} (h : Sh S) : isb S 262 12 = true := sh_is h (by decide) (by decide)
theorem z_l262 {S : gk_S} (h : Sh S) : gL S 262 = 65 := sh_L h (by decide) (by decide)
theorem z_i263 {S : gk_S} (h : Sh S) : isb S 263 12 = true := sh_is h (by decide) (by decide)
theorem z_l263 {S : gk_S} (h : Sh S) : gL S 263 = 65 := sh_L h (by decide) (by decide)
theorem z_i264 {S : gk_S} (h : Sh S) : isb S 264 12 = true := sh_is h (by decide) (by decide)
theorem z_l264 {S : gk_S} (h : Sh S) : gL S 264 = 65 := sh_L h (by decide) (by decide)
theorem z_i265 {S : gk_S} (h : Sh S) : isb S 265 12 = true := sh_is h (by decide) (by decide)
theorem z_l265 {S : gk_S} (h : Sh S) : gL S 265 = 65 := sh_L h (by decide) (by decide)
theorem z_i266 {S : gk_S} (h : Sh S) : isb S 266 12 = true := sh_is h (by decide) (by decide)
theorem z_l266 {S : gk_S} (h : Sh S) : gL S 266 = 65 := sh_L h (by decide) (by decide)
theorem z_i267 {S : gk_S} (h : Sh S) : isb S 267 17 = true := sh_is h (by decide) (by decide)
theorem z_l267 {S : gk_S} (h : Sh S) : gL S 267 = 7 := sh_L h (by decide) (by decide)
theorem z_i268 {S : gk_S} (h : Sh S) : isb S 268 11 = true := sh_is h (by decide) (by decide)
theorem z_l268 {S : gk_S} (h : Sh S) : gL S 268 = 65 := sh_L h (by decide) (by decide)
theorem z_i269 {S : gk_S} (h : Sh S) : isb S 269 11 = true := sh_is h (by decide) (by decide)
theorem z_l269 {S : gk_S} (h : Sh S) : gL S 269 = 65 := sh_L h (by decide) (by decide)
theorem z_i270 {S : gk_S} (h : Sh S) : isb S 270 11 = true := sh_is h (by decide) (by decide)
theorem z_l270 {S : gk_S} (h : Sh S) : gL S 270 = 65 := sh_L h (by decide) (by decide)
theorem z_i271 {S : gk_S} (h : Sh S) : isb S 271 11 = true := sh_is h (by decide) (by decide)
theorem z_l271 {S : gk_S} (h : Sh S) : gL S 271 = 65 := sh_L h (by decide) (by decide)
theorem z_i272 {S : gk_S} (h : Sh S) : isb S 272 11 = true := sh_is h (by decide) (by decide)
theorem z_l272 {S : gk_S} (h : Sh S) : gL S 272 = 65 := sh_L h (by decide) (by decide)
theorem z_i273 {S : gk_S} (h : Sh S) : isb S 273 11 = true := sh_is h (by decide) (by decide)
theorem z_l273 {S : gk_S} (h : Sh S) : gL S 273 = 65 := sh_L h (by decide) (by decide)
theorem z_i274 {S : gk_S} (h : Sh S) : isb S 274 11 = true := sh_is h (by decide) (by decide)
theorem z_l274 {S : gk_S} (h : Sh S) : gL S 274 = 65 := sh_L h (by decide) (by decide)
theorem z_i275 {S : gk_S} (h : Sh S) : isb S 275 11 = true := sh_is h (by decide) (by decide)
theorem z_l275 {S : gk_S} (h : Sh S) : gL S 275 = 7 := sh_L h (by decide) (by decide)
theorem z_i276 {S : gk_S} (h : Sh S) : isb S 276 11 = true := sh_is h (by decide) (by decide)
theorem z_l276 {S : gk_S} (h : Sh S) : gL S 276 = 8 := sh_L h (by decide) (by decide)
theorem z_i277 {S : gk_S} (h : Sh S) : isb S 277 11 = true := sh_is h (by decide) (by decide)
theorem z_l277 {S : gk_S} (h : Sh S) : gL S 277 = 3 := sh_L h (by decide) (by decide)
theorem z_i278 {S : gk_S} (h : Sh S) : isb S 278 12 = true := sh_is h (by decide) (by decide)
theorem z_l278 {S : gk_S} (h : Sh S) : gL S 278 = 1024 := sh_L h (by decide) (by decide)
theorem z_i279 {S : gk_S} (h : Sh S) : isb S 279 6 = true := sh_is h (by decide) (by decide)
theorem z_i280 {S : gk_S} (h : Sh S) : isb S 280 14 = true := sh_is h (by decide) (by decide)
theorem z_l280 {S : gk_S} (h : Sh S) : gL S 280 = 64 := sh_L h (by decide) (by decide)
theorem z_i345 {S : gk_S} (h : Sh S) : isb S 345 2 = true := sh_is h (by decide) (by decide)
theorem z_i346 {S : gk_S} (h : Sh S) : isb S 346 12 = true := sh_is h (by decide) (by decide)
theorem z_l346 {S : gk_S} (h : Sh S) : gL S 346 = 6 := sh_L h (by decide) (by decide)
theorem z_i347 {S : gk_S} (h : Sh S) : isb S 347 2 = true := sh_is h (by decide) (by decide)
theorem z_i348 {S : gk_S} (h : Sh S) : isb S 348 12 = true := sh_is h (by decide) (by decide)
theorem z_l348 {S : gk_S} (h : Sh S) : gL S 348 = 6 := sh_L h (by decide) (by decide)
theorem z_i349 {S : gk_S} (h : Sh S) : isb S 349 2 = true := sh_is h (by decide) (by decide)
theorem z_i350 {S : gk_S} (h : Sh S) : isb S 350 12 = true := sh_is h (by decide) (by decide)
theorem z_l350 {S : gk_S} (h : Sh S) : gL S 350 = 6 := sh_L h (by decide) (by decide)
theorem z_i351 {S : gk_S} (h : Sh S) : isb S 351 12 = true := sh_is h (by decide) (by decide)
theorem z_l351 {S : gk_S} (h : Sh S) : gL S 351 = 7 := sh_L h (by decide) (by decide)
theorem z_i352 {S : gk_S} (h : Sh S) : isb S 352 9 = true := sh_is h (by decide) (by decide)
theorem z_i353 {S : gk_S} (h : Sh S) : isb S 353 10 = true := sh_is h (by decide) (by decide)
theorem z_l353 {S : gk_S} (h : Sh S) : gL S 353 = 2100 := sh_L h (by decide) (by decide)
theorem z_i354 {S : gk_S} (h : Sh S) : isb S 354 11 = true := sh_is h (by decide) (by decide)
theorem z_l354 {S : gk_S} (h : Sh S) : gL S 354 = 6 := sh_L h (by decide) (by decide)
theorem z_i355 {S : gk_S} (h : Sh S) : isb S 355 11 = true := sh_is h (by decide) (by decide)
theorem z_l355 {S : gk_S} (h : Sh S) : gL S 355 = 6 := sh_L h (by decide) (by decide)
theorem z_i356 {S : gk_S} (h : Sh S) : isb S 356 11 = true := sh_is h (by decide) (by decide)
theorem z_l356 {S : gk_S} (h : Sh S) : gL S 356 = 96 := sh_L h (by decide) (by decide)
theorem z_i357 {S : gk_S} (h : Sh S) : isb S 357 11 = true := sh_is h (by decide) (by decide)
theorem z_l357 {S : gk_S} (h : Sh S) : gL S 357 = 96 := sh_L h (by decide) (by decide)
theorem z_i358 {S : gk_S} (h : Sh S) : isb S 358 12 = true := sh_is h (by decide) (by decide)
theorem z_l358 {S : gk_S} (h : Sh S) : gL S 358 = 576 := sh_L h (by decide) (by decide)
theorem z_i359 {S : gk_S} (h : Sh S) : isb S 359 12 = true := sh_is h (by decide) (by decide)
theorem z_l359 {S : gk_S} (h : Sh S) : gL S 359 = 576 := sh_L h (by decide) (by decide)
theorem z_i360 {S : gk_S} (h : Sh S) : isb S 360 11 = true := sh_is h (by decide) (by decide)
theorem z_l360 {S : gk_S} (h : Sh S) : gL S 360 = 17 := sh_L h (by decide) (by decide)
theorem z_i361 {S : gk_S} (h : Sh S) : isb S 361 11 = true := sh_is h (by decide) (by decide)
theorem z_l361 {S : gk_S} (h : Sh S) : gL S 361 = 18 := sh_L h (by decide) (by decide)
theorem z_i362 {S : gk_S} (h : Sh S) : isb S 362 11 = true := sh_is h (by decide) (by decide)
theorem z_l362 {S : gk_S} (h : Sh S) : gL S 362 = 18 := sh_L h (by decide) (by decide)
theorem z_i363 {S : gk_S} (h : Sh S) : isb S 363 10 = true := sh_is h (by decide) (by decide)
theorem z_l363 {S : gk_S} (h : Sh S) : gL S 363 = 3000 := sh_L h (by decide) (by decide)
theorem z_i364 {S : gk_S} (h : Sh S) : isb S 364 12 = true := sh_is h (by decide) (by decide)
theorem z_l364 {S : gk_S} (h : Sh S) : gL S 364 = 7 := sh_L h (by decide) (by decide)
theorem z_i365 {S : gk_S} (h : Sh S) : isb S 365 12 = true := sh_is h (by decide) (by decide)
theorem z_l365 {S : gk_S} (h : Sh S) : gL S 365 = 7 := sh_L h (by decide) (by decide)
theorem z_i366 {S : gk_S} (h : Sh S) : isb S 366 12 = true := sh_is h (by decide) (by decide)
theorem z_l366 {S : gk_S} (h : Sh S) : gL S 366 = 7 := sh_L h (by decide) (by decide)
theorem z_i367 {S : gk_S} (h : Sh S) : isb S 367 12 = true := sh_is h (by decide) (by decide)
theorem z_l367 {S : gk_S} (h : Sh S) : gL S 367 = 16384 := sh_L h (by decide) (by decide)
theorem z_i368 {S : gk_S} (h : Sh S) : isb S 368 13 = true := sh_is h (by decide) (by decide)
theorem z_l368 {S : gk_S} (h : Sh S) : gL S 368 = 16384 := sh_L h (by decide) (by decide)
theorem z_i369 {S : gk_S} (h : Sh S) : isb S 369 11 = true := sh_is h (by decide) (by decide)
theorem z_l369 {S : gk_S} (h : Sh S) : gL S 369 = 576 := sh_L h (by decide) (by decide)
theorem z_i370 {S : gk_S} (h : Sh S) : isb S 370 11 = true := sh_is h (by decide) (by decide)
theorem z_l370 {S : gk_S} (h : Sh S) : gL S 370 = 7 := sh_L h (by decide) (by decide)
theorem z_i371 {S : gk_S} (h : Sh S) : isb S 371 11 = true := sh_is h (by decide) (by decide)
theorem z_l371 {S : gk_S} (h : Sh S) : gL S 371 = 5 := sh_L h (by decide) (by decide)
theorem z_i372 {S : gk_S} (h : Sh S) : isb S 372 12 = true := sh_is h (by decide) (by decide)
theorem z_l372 {S : gk_S} (h : Sh S) : gL S 372 = 1 := sh_L h (by decide) (by decide)
theorem z_p100_1 {S : gk_S} (h : Sh S) : gP S 100 1 = some 2 := sh_P h (by decide)
theorem z_p100_3 {S : gk_S} (h : Sh S) : gP S 100 3 = some 4 := sh_P h (by decide)
theorem z_p800_0 {S : gk_S} (h : Sh S) : gP S 800 0 = some 1 := sh_P h (by decide)
theorem z_p801_0 {S : gk_S} (h : Sh S) : gP S 801 0 = some 3 := sh_P h (by decide)
theorem z_p802_0 {S : gk_S} (h : Sh S) : gP S 802 0 = some 5 := sh_P h (by decide)
theorem z_p803_0 {S : gk_S} (h : Sh S) : gP S 803 0 = some 256 := sh_P h (by decide)
theorem z_p804_0 {S : gk_S} (h : Sh S) : gP S 804 0 = some 257 := sh_P h (by decide)
theorem z_p805_0 {S : gk_S} (h : Sh S) : gP S 805 0 = some 279 := sh_P h (by decide)
theorem z_p806_0 {S : gk_S} (h : Sh S) : gP S 806 0 = some 345 := sh_P h (by decide)
theorem z_p807_0 {S : gk_S} (h : Sh S) : gP S 807 0 = some 347 := sh_P h (by decide)
theorem z_p808_0 {S : gk_S} (h : Sh S) : gP S 808 0 = some 349 := sh_P h (by decide)
theorem z_p809_0 {S : gk_S} (h : Sh S) : gP S 809 0 = some 351 := sh_P h (by decide)
theorem z_p700_256 {S : gk_S} (h : Sh S) : gP S 700 256 = some 1 := sh_P h (by decide)
theorem z_p500_257 {S : gk_S} (h : Sh S) : gP S 500 257 = some 258 := sh_P h (by decide)
theorem z_p501_257 {S : gk_S} (h : Sh S) : gP S 501 257 = some 259 := sh_P h (by decide)
theorem z_p502_257 {S : gk_S} (h : Sh S) : gP S 502 257 = some 267 := sh_P h (by decide)
theorem z_p503_257 {S : gk_S} (h : Sh S) : gP S 503 257 = some 275 := sh_P h (by decide)
theorem z_p504_257 {S : gk_S} (h : Sh S) : gP S 504 257 = some 276 := sh_P h (by decide)
theorem z_p505_257 {S : gk_S} (h : Sh S) : gP S 505 257 = some 277 := sh_P h (by decide)
theorem z_p507_257 {S : gk_S} (h : Sh S) : gP S 507 257 = some 278 := sh_P h (by decide)
theorem z_p600_279 {S : gk_S} (h : Sh S) : gP S 600 279 = some 280 := sh_P h (by decide)
theorem z_p200_345 {S : gk_S} (h : Sh S) : gP S 200 345 = some 346 := sh_P h (by decide)
theorem z_p200_347 {S : gk_S} (h : Sh S) : gP S 200 347 = some 348 := sh_P h (by decide)
theorem z_p200_349 {S : gk_S} (h : Sh S) : gP S 200 349 = some 350 := sh_P h (by decide)
theorem z_p901_352 {S : gk_S} (h : Sh S) : gP S 901 352 = some 353 := sh_P h (by decide)
theorem z_p905_352 {S : gk_S} (h : Sh S) : gP S 905 352 = some 354 := sh_P h (by decide)
theorem z_p906_352 {S : gk_S} (h : Sh S) : gP S 906 352 = some 355 := sh_P h (by decide)
theorem z_p907_352 {S : gk_S} (h : Sh S) : gP S 907 352 = some 356 := sh_P h (by decide)
theorem z_p908_352 {S : gk_S} (h : Sh S) : gP S 908 352 = some 357 := sh_P h (by decide)
theorem z_p909_352 {S : gk_S} (h : Sh S) : gP S 909 352 = some 358 := sh_P h (by decide)
theorem z_p910_352 {S : gk_S} (h : Sh S) : gP S 910 352 = some 359 := sh_P h (by decide)
theorem z_p911_352 {S : gk_S} (h : Sh S) : gP S 911 352 = some 360 := sh_P h (by decide)
theorem z_p912_352 {S : gk_S} (h : Sh S) : gP S 912 352 = some 361 := sh_P h (by decide)
theorem z_p913_352 {S : gk_S} (h : Sh S) : gP S 913 352 = some 362 := sh_P h (by decide)
theorem z_p920_352 {S : gk_S} (h : Sh S) : gP S 920 352 = some 363 := sh_P h (by decide)
theorem z_p922_352 {S : gk_S} (h : Sh S) : gP S 922 352 = some 364 := sh_P h (by decide)
theorem z_p923_352 {S : gk_S} (h : Sh S) : gP S 923 352 = some 365 := sh_P h (by decide)
theorem z_p924_352 {S : gk_S} (h : Sh S) : gP S 924 352 = some 366 := sh_P h (by decide)
theorem z_p928_352 {S : gk_S} (h : Sh S) : gP S 928 352 = some 367 := sh_P h (by decide)
theorem z_p929_352 {S : gk_S} (h : Sh S) : gP S 929 352 = some 368 := sh_P h (by decide)
theorem z_p931_352 {S : gk_S} (h : Sh S) : gP S 931 352 = some 369 := sh_P h (by decide)
theorem z_p939_352 {S : gk_S} (h : Sh S) : gP S 939 352 = some 370 := sh_P h (by decide)
theorem z_p940_352 {S : gk_S} (h : Sh S) : gP S 940 352 = some 371 := sh_P h (by decide)
set_option maxRecDepth 100000 in
theorem sh_tab : ∀ k, k < 5 → shT.getD (6 + 50 * k) (0, 0) = (4, 0) ∧ shT.getD (6 + 50 * k + 1) (0, 0) = (15, 16) ∧ ∀ i, i < 16 → shT.getD (ru (6 + 50 * k) i) (0, 0) = (3, 0) ∧ shT.getD (ru (6 + 50 * k) i + 1) (0, 0) = (12, 6) ∧ shT.getD (ru (6 + 50 * k) i + 2) (0, 0) = (12, 6) := by decide +kernel
set_option maxRecDepth 100000 in
theorem sh_tab2 : ∀ k, k < 64 → shT.getD (281 + k) (0, 0) = (0, 0) := by decide +kernel
set_option maxRecDepth 100000 in
theorem sh_tab3 : ∀ k, k < 7 → shT.getD (260 + k) (0, 0) = (12, 65) ∧ shT.getD (268 + k) (0, 0) = (11, 65) := by decide +kernel
theorem z_r {S : gk_S} (h : Sh S) {r : Nat} (hr : Ba r) : isb S r 4 = true := by
  obtain ⟨k, hk, rfl⟩ := hr
  exact sh_is h (by omega) (by rw [(sh_tab k hk).1])
theorem z_rp {S : gk_S} (h : Sh S) {r : Nat} (hr : Ba r) : gP S 400 r = some (r + 1) := by
  obtain ⟨k, hk, rfl⟩ := hr
  exact (h.2.2.2.1 k hk).1
theorem z_rr {S : gk_S} (h : Sh S) {r : Nat} (hr : Ba r) : isb S (r + 1) 15 = true := by
  obtain ⟨k, hk, rfl⟩ := hr
  exact sh_is h (by omega) (by rw [(sh_tab k hk).2.1])
theorem z_rl {S : gk_S} (h : Sh S) {r : Nat} (hr : Ba r) : gL S (r + 1) = 16 := by
  obtain ⟨k, hk, rfl⟩ := hr
  exact sh_L h (by omega) (by rw [(sh_tab k hk).2.1])
theorem z_rx {S : gk_S} (h : Sh S) {r : Nat} (hr : Ba r) {i : Nat} (hi : i < 16) : xP S (r + 1) i = some (ru r i) := by
  obtain ⟨k, hk, rfl⟩ := hr
  exact ((h.2.2.2.1 k hk).2 i hi).1
theorem z_u {S : gk_S} (h : Sh S) {r : Nat} (hr : Ba r) {i : Nat} (hi : i < 16) : isb S (ru r i) 3 = true := by
  obtain ⟨k, hk, rfl⟩ := hr
  exact sh_is h (by unfold ru; omega) (by rw [((sh_tab k hk).2.2 i hi).1])
theorem z_up {S : gk_S} (h : Sh S) {r : Nat} (hr : Ba r) {i : Nat} (hi : i < 16) : gP S 300 (ru r i) = some (ru r i + 1) := by
  obtain ⟨k, hk, rfl⟩ := hr
  exact ((h.2.2.2.1 k hk).2 i hi).2.1
theorem z_uq {S : gk_S} (h : Sh S) {r : Nat} (hr : Ba r) {i : Nat} (hi : i < 16) : gP S 301 (ru r i) = some (ru r i + 2) := by
  obtain ⟨k, hk, rfl⟩ := hr
  exact ((h.2.2.2.1 k hk).2 i hi).2.2
theorem z_ul {S : gk_S} (h : Sh S) {r : Nat} (hr : Ba r) {i : Nat} (hi : i < 16) : isb S (ru r i + 1) 12 = true ∧ gL S (ru r i + 1) = 6 ∧ isb S (ru r i + 2) 12 = true ∧ gL S (ru r i + 2) = 6 := by
  obtain ⟨k, hk, rfl⟩ := hr
  have e := (sh_tab k hk).2.2 i hi
  exact ⟨sh_is h (by unfold ru; omega) (by rw [e.2.1]), sh_L h (by unfold ru; omega) (by rw [e.2.1]), sh_is h (by unfold ru; omega) (by rw [e.2.2]), sh_L h (by unfold ru; omega) (by rw [e.2.2])⟩
theorem z_c {S : gk_S} (h : Sh S) {q : Nat} (h1 : 281 ≤ q) (h2 : q < 345) : isb S q 0 = true := by
  have e := sh_tab2 (q - 281) (by omega)
  rw [show 281 + (q - 281) = q by omega] at e
  exact sh_is h (by omega) (by rw [e])
theorem z_cut {S : gk_S} (h : Sh S) {i : Nat} (hi : i < 7) : xP S 259 i = some (260 + i) ∧ xP S 267 i = some (268 + i) ∧ isb S (260 + i) 12 = true ∧ gL S (260 + i) = 65 ∧ isb S (268 + i) 11 = true ∧ gL S (268 + i) = 65 := by
  have e := sh_tab3 i hi
  exact ⟨(h.2.2.2.2 i hi).1, (h.2.2.2.2 i hi).2, sh_is h (by omega) (by rw [e.1]), sh_L h (by omega) (by rw [e.1]), sh_is h (by omega) (by rw [e.2]), sh_L h (by omega) (by rw [e.2])⟩
