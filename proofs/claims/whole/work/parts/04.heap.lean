/-! THE HEAP OF THE CLAIM, FIELD BY FIELD: how many cells; whether all cells from the base on are known; each cell's kind (0..9 an object of vwCl, 10 byte[], 11 int[], 12 long[], 13 boolean[], 14 Connection[], 15 Rule[], 16 RuleList[], 17 int[][], 18 long[][]); ints, longs, references by field and cell; arrays' lengths and contents -/
abbrev gk_S : Type := Nat × Bool × (Nat → Nat) × (Nat → Nat → Int32) × (Nat → Nat → Int64) × (Nat → Nat → Option Nat) × (Nat → Nat) × (Nat → Nat → Int32) × (Nat → Nat → Int64) × (Nat → Nat → Option Nat)
def gk_n (S : gk_S) : Nat := S.1
def gk_t (S : gk_S) : Bool := S.2.1
def gk_K (S : gk_S) : Nat → Nat := S.2.2.1
def gI (S : gk_S) : Nat → Nat → Int32 := S.2.2.2.1
def gJ (S : gk_S) : Nat → Nat → Int64 := S.2.2.2.2.1
def gP (S : gk_S) : Nat → Nat → Option Nat := S.2.2.2.2.2.1
def gL (S : gk_S) : Nat → Nat := S.2.2.2.2.2.2.1
def xI (S : gk_S) : Nat → Nat → Int32 := S.2.2.2.2.2.2.2.1
def xJ (S : gk_S) : Nat → Nat → Int64 := S.2.2.2.2.2.2.2.2.1
def xP (S : gk_S) : Nat → Nat → Option Nat := S.2.2.2.2.2.2.2.2.2
/-- a function of two, changed at one place -/
def up2 {α : Type} (f : Nat → Nat → α) (i a : Nat) (v : α) : Nat → Nat → α := fun j b => if j = i ∧ b = a then v else f j b
def up1 {α : Type} (f : Nat → α) (a : Nat) (v : α) : Nat → α := fun b => if b = a then v else f b
def sI (S : gk_S) (f a : Nat) (v : Int32) : gk_S := (gk_n S, gk_t S, gk_K S, up2 (gI S) f a v, gJ S, gP S, gL S, xI S, xJ S, xP S)
def sJ (S : gk_S) (f a : Nat) (v : Int64) : gk_S := (gk_n S, gk_t S, gk_K S, gI S, up2 (gJ S) f a v, gP S, gL S, xI S, xJ S, xP S)
def sP (S : gk_S) (f a : Nat) (v : Option Nat) : gk_S := (gk_n S, gk_t S, gk_K S, gI S, gJ S, up2 (gP S) f a v, gL S, xI S, xJ S, xP S)
def rI (S : gk_S) (a : Nat) (v : Nat → Int32) : gk_S := (gk_n S, gk_t S, gk_K S, gI S, gJ S, gP S, gL S, up1 (xI S) a v, xJ S, xP S)
def rJ (S : gk_S) (a : Nat) (v : Nat → Int64) : gk_S := (gk_n S, gk_t S, gk_K S, gI S, gJ S, gP S, gL S, xI S, up1 (xJ S) a v, xP S)
def rP (S : gk_S) (a : Nat) (v : Nat → Option Nat) : gk_S := (gk_n S, gk_t S, gk_K S, gI S, gJ S, gP S, gL S, xI S, xJ S, up1 (xP S) a v)
/-- one cell more, of a kind and a length -/
def nK (S : gk_S) (kind len : Nat) : gk_S := (gk_n S + 1, gk_t S, up1 (gk_K S) (gk_n S) kind, gI S, gJ S, gP S, up1 (gL S) (gk_n S) len, xI S, xJ S, xP S)
/-- the same, but that cells may have come of which nothing is said -/
def cS (S : gk_S) : gk_S := (gk_n S, false, gk_K S, gI S, gJ S, gP S, gL S, xI S, xJ S, xP S)
theorem gk_n_sI (S : gk_S) (f a : Nat) (v : Int32) : gk_n (sI S f a v) = gk_n S := rfl
theorem gk_t_sI (S : gk_S) (f a : Nat) (v : Int32) : gk_t (sI S f a v) = gk_t S := rfl
theorem gk_K_sI (S : gk_S) (f a : Nat) (v : Int32) : gk_K (sI S f a v) = gk_K S := rfl
theorem gI_sI (S : gk_S) (f a : Nat) (v : Int32) (j c : Nat) : gI (sI S f a v) j c = if j = f ∧ c = a then v else gI S j c := rfl
theorem gJ_sI (S : gk_S) (f a : Nat) (v : Int32) : gJ (sI S f a v) = gJ S := rfl
theorem gP_sI (S : gk_S) (f a : Nat) (v : Int32) : gP (sI S f a v) = gP S := rfl
theorem gL_sI (S : gk_S) (f a : Nat) (v : Int32) : gL (sI S f a v) = gL S := rfl
theorem xI_sI (S : gk_S) (f a : Nat) (v : Int32) : xI (sI S f a v) = xI S := rfl
theorem xJ_sI (S : gk_S) (f a : Nat) (v : Int32) : xJ (sI S f a v) = xJ S := rfl
theorem xP_sI (S : gk_S) (f a : Nat) (v : Int32) : xP (sI S f a v) = xP S := rfl
theorem gk_n_sJ (S : gk_S) (f a : Nat) (v : Int64) : gk_n (sJ S f a v) = gk_n S := rfl
theorem gk_t_sJ (S : gk_S) (f a : Nat) (v : Int64) : gk_t (sJ S f a v) = gk_t S := rfl
theorem gk_K_sJ (S : gk_S) (f a : Nat) (v : Int64) : gk_K (sJ S f a v) = gk_K S := rfl
theorem gI_sJ (S : gk_S) (f a : Nat) (v : Int64) : gI (sJ S f a v) = gI S := rfl
theorem gJ_sJ (S : gk_S) (f a : Nat) (v : Int64) (j c : Nat) : gJ (sJ S f a v) j c = if j = f ∧ c = a then v else gJ S j c := rfl
theorem gP_sJ (S : gk_S) (f a : Nat) (v : Int64) : gP (sJ S f a v) = gP S := rfl
theorem gL_sJ (S : gk_S) (f a : Nat) (v : Int64) : gL (sJ S f a v) = gL S := rfl
theorem xI_sJ (S : gk_S) (f a : Nat) (v : Int64) : xI (sJ S f a v) = xI S := rfl
theorem xJ_sJ (S : gk_S) (f a : Nat) (v : Int64) : xJ (sJ S f a v) = xJ S := rfl
theorem xP_sJ (S : gk_S) (f a : Nat) (v : Int64) : xP (sJ S f a v) = xP S := rfl
theorem gk_n_sP (S : gk_S) (f a : Nat) (v : Option Nat) : gk_n (sP S f a v) = gk_n S := rfl
theorem gk_t_sP (S : gk_S) (f a : Nat) (v : Option Nat) : gk_t (sP S f a v) = gk_t S := rfl
theorem gk_K_sP (S : gk_S) (f a : Nat) (v : Option Nat) : gk_K (sP S f a v) = gk_K S := rfl
theorem gI_sP (S : gk_S) (f a : Nat) (v : Option Nat) : gI (sP S f a v) = gI S := rfl
theorem gJ_sP (S : gk_S) (f a : Nat) (v : Option Nat) : gJ (sP S f a v) = gJ S := rfl
theorem gP_sP (S : gk_S) (f a : Nat) (v : Option Nat) (j c : Nat) : gP (sP S f a v) j c = if j = f ∧ c = a then v else gP S j c := rfl
theorem gL_sP (S : gk_S) (f a : Nat) (v : Option Nat) : gL (sP S f a v) = gL S := rfl
theorem xI_sP (S : gk_S) (f a : Nat) (v : Option Nat) : xI (sP S f a v) = xI S := rfl
theorem xJ_sP (S : gk_S) (f a : Nat) (v : Option Nat) : xJ (sP S f a v) = xJ S := rfl
theorem xP_sP (S : gk_S) (f a : Nat) (v : Option Nat) : xP (sP S f a v) = xP S := rfl
theorem gk_n_rI (S : gk_S) (a : Nat) (v : Nat → Int32) : gk_n (rI S a v) = gk_n S := rfl
theorem gk_t_rI (S : gk_S) (a : Nat) (v : Nat → Int32) : gk_t (rI S a v) = gk_t S := rfl
theorem gk_K_rI (S : gk_S) (a : Nat) (v : Nat → Int32) : gk_K (rI S a v) = gk_K S := rfl
theorem gI_rI (S : gk_S) (a : Nat) (v : Nat → Int32) : gI (rI S a v) = gI S := rfl
theorem gJ_rI (S : gk_S) (a : Nat) (v : Nat → Int32) : gJ (rI S a v) = gJ S := rfl
theorem gP_rI (S : gk_S) (a : Nat) (v : Nat → Int32) : gP (rI S a v) = gP S := rfl
theorem gL_rI (S : gk_S) (a : Nat) (v : Nat → Int32) : gL (rI S a v) = gL S := rfl
theorem xI_rI (S : gk_S) (a : Nat) (v : Nat → Int32) (c : Nat) : xI (rI S a v) c = if c = a then v else xI S c := rfl
theorem xJ_rI (S : gk_S) (a : Nat) (v : Nat → Int32) : xJ (rI S a v) = xJ S := rfl
theorem xP_rI (S : gk_S) (a : Nat) (v : Nat → Int32) : xP (rI S a v) = xP S := rfl
theorem gk_n_rJ (S : gk_S) (a : Nat) (v : Nat → Int64) : gk_n (rJ S a v) = gk_n S := rfl
theorem gk_t_rJ (S : gk_S) (a : Nat) (v : Nat → Int64) : gk_t (rJ S a v) = gk_t S := rfl
theorem gk_K_rJ (S : gk_S) (a : Nat) (v : Nat → Int64) : gk_K (rJ S a v) = gk_K S := rfl
theorem gI_rJ (S : gk_S) (a : Nat) (v : Nat → Int64) : gI (rJ S a v) = gI S := rfl
theorem gJ_rJ (S : gk_S) (a : Nat) (v : Nat → Int64) : gJ (rJ S a v) = gJ S := rfl
theorem gP_rJ (S : gk_S) (a : Nat) (v : Nat → Int64) : gP (rJ S a v) = gP S := rfl
theorem gL_rJ (S : gk_S) (a : Nat) (v : Nat → Int64) : gL (rJ S a v) = gL S := rfl
theorem xI_rJ (S : gk_S) (a : Nat) (v : Nat → Int64) : xI (rJ S a v) = xI S := rfl
theorem xJ_rJ (S : gk_S) (a : Nat) (v : Nat → Int64) (c : Nat) : xJ (rJ S a v) c = if c = a then v else xJ S c := rfl
theorem xP_rJ (S : gk_S) (a : Nat) (v : Nat → Int64) : xP (rJ S a v) = xP S := rfl
theorem gk_n_rP (S : gk_S) (a : Nat) (v : Nat → Option Nat) : gk_n (rP S a v) = gk_n S := rfl
theorem gk_t_rP (S : gk_S) (a : Nat) (v : Nat → Option Nat) : gk_t (rP S a v) = gk_t S := rfl
theorem gk_K_rP (S : gk_S) (a : Nat) (v : Nat → Option Nat) : gk_K (rP S a v) = gk_K S := rfl
theorem gI_rP (S : gk_S) (a : Nat) (v : Nat → Option Nat) : gI (rP S a v) = gI S := rfl
theorem gJ_rP (S : gk_S) (a : Nat) (v : Nat → Option Nat) : gJ (rP S a v) = gJ S := rfl
theorem gP_rP (S : gk_S) (a : Nat) (v : Nat → Option Nat) : gP (rP S a v) = gP S := rfl
theorem gL_rP (S : gk_S) (a : Nat) (v : Nat → Option Nat) : gL (rP S a v) = gL S := rfl
theorem xI_rP (S : gk_S) (a : Nat) (v : Nat → Option Nat) : xI (rP S a v) = xI S := rfl
theorem xJ_rP (S : gk_S) (a : Nat) (v : Nat → Option Nat) : xJ (rP S a v) = xJ S := rfl
theorem xP_rP (S : gk_S) (a : Nat) (v : Nat → Option Nat) (c : Nat) : xP (rP S a v) c = if c = a then v else xP S c := rfl
theorem gk_n_cS (S : gk_S) : gk_n (cS S) = gk_n S := rfl
theorem gk_t_nK (S : gk_S) (k l : Nat) : gk_t (nK S k l) = gk_t S := rfl
theorem gk_K_cS (S : gk_S) : gk_K (cS S) = gk_K S := rfl
theorem gI_nK (S : gk_S) (k l : Nat) : gI (nK S k l) = gI S := rfl
theorem gI_cS (S : gk_S) : gI (cS S) = gI S := rfl
theorem gJ_nK (S : gk_S) (k l : Nat) : gJ (nK S k l) = gJ S := rfl
theorem gJ_cS (S : gk_S) : gJ (cS S) = gJ S := rfl
theorem gP_nK (S : gk_S) (k l : Nat) : gP (nK S k l) = gP S := rfl
theorem gP_cS (S : gk_S) : gP (cS S) = gP S := rfl
theorem gL_cS (S : gk_S) : gL (cS S) = gL S := rfl
theorem xI_nK (S : gk_S) (k l : Nat) : xI (nK S k l) = xI S := rfl
theorem xI_cS (S : gk_S) : xI (cS S) = xI S := rfl
theorem xJ_nK (S : gk_S) (k l : Nat) : xJ (nK S k l) = xJ S := rfl
theorem xJ_cS (S : gk_S) : xJ (cS S) = xJ S := rfl
theorem xP_nK (S : gk_S) (k l : Nat) : xP (nK S k l) = xP S := rfl
theorem xP_cS (S : gk_S) : xP (cS S) = xP S := rfl
theorem gk_n_nK (S : gk_S) (k l : Nat) : gk_n (nK S k l) = gk_n S + 1 := rfl
theorem gk_K_nK (S : gk_S) (k l : Nat) (c : Nat) : gk_K (nK S k l) c = if c = gk_n S then k else gk_K S c := rfl
theorem gL_nK (S : gk_S) (k l : Nat) (c : Nat) : gL (nK S k l) c = if c = gk_n S then l else gL S c := rfl
theorem gk_t_cS (S : gk_S) : gk_t (cS S) = false := rfl
