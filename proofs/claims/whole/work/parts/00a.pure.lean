/-! THE HEAP OF THE CLAIM, FIELD BY FIELD: how many cells; whether all cells from the base on are known; each cell's kind (0..9 an object of vwCl, 10 byte[], 11 int[], 12 long[], 13 boolean[], 14 Connection[], 15 Rule[], 16 RuleList[], 17 int[][], 18 long[][]); ints, longs, references by field and cell; arrays' lengths and contents -/
abbrev gk_S : Type := Nat × Bool × (Nat → Nat) × (Nat → Nat → Int32) × (Nat → Nat → Int64) × (Nat → Nat → Option Nat) × (Nat → Nat) × (Nat → Nat → Int32) × (Nat → Nat → Int64) × (Nat → Nat → Option Nat)
def gk_n (S : gk_S) : Nat := S.1
def gk_t (S : gk_S) : Bool := S.2.1
def gk_K (S : gk_S) : Nat → Nat := S.2.2.1
def gI (S : gk_S) : Nat → Nat → Int32 := S.2.2.2.1
def gJ (S : gk_S) : Nat → Nat → Int64 := S.2.2.2.2.1
def gP (S : gk_S) : Nat → Nat → Option Nat := S.2.2.2.2.2.1
def gL (S : gk_S) : Nat → Nat := S.2.2.2.2.2.2.1
def xI (S : gk_S) : Nat → Nat → Int32 := S.2.2.2.2.2.2.2.1
def xJ (S : gk_S) : Nat → Nat → Int64 := S.2.2.2.2.2.2.2.2.1
def xP (S : gk_S) : Nat → Nat → Option Nat := S.2.2.2.2.2.2.2.2.2
/-- a function of two, changed at one place -/
def up2 {α : Type} (f : Nat → Nat → α) (i a : Nat) (v : α) : Nat → Nat → α := fun j b => if j = i ∧ b = a then v else f j b
def up1 {α : Type} (f : Nat → α) (a : Nat) (v : α) : Nat → α := fun b => if b = a then v else f b
def sI (S : gk_S) (f a : Nat) (v : Int32) : gk_S := (gk_n S, gk_t S, gk_K S, up2 (gI S) f a v, gJ S, gP S, gL S, xI S, xJ S, xP S)
def sJ (S : gk_S) (f a : Nat) (v : Int64) : gk_S := (gk_n S, gk_t S, gk_K S, gI S, up2 (gJ S) f a v, gP S, gL S, xI S, xJ S, xP S)
def sP (S : gk_S) (f a : Nat) (v : Option Nat) : gk_S := (gk_n S, gk_t S, gk_K S, gI S, gJ S, up2 (gP S) f a v, gL S, xI S, xJ S, xP S)
def rI (S : gk_S) (a : Nat) (v : Nat → Int32) : gk_S := (gk_n S, gk_t S, gk_K S, gI S, gJ S, gP S, gL S, up1 (xI S) a v, xJ S, xP S)
def rJ (S : gk_S) (a : Nat) (v : Nat → Int64) : gk_S := (gk_n S, gk_t S, gk_K S, gI S, gJ S, gP S, gL S, xI S, up1 (xJ S) a v, xP S)
def rP (S : gk_S) (a : Nat) (v : Nat → Option Nat) : gk_S := (gk_n S, gk_t S, gk_K S, gI S, gJ S, gP S, gL S, xI S, xJ S, up1 (xP S) a v)
/-- one cell more, of a kind and a length -/
def nK (S : gk_S) (kind len : Nat) : gk_S := (gk_n S + 1, gk_t S, up1 (gk_K S) (gk_n S) kind, gI S, gJ S, gP S, up1 (gL S) (gk_n S) len, xI S, xJ S, xP S)
/-- the same, but that cells may have come of which nothing is said -/
def cS (S : gk_S) : gk_S := (gk_n S, false, gk_K S, gI S, gJ S, gP S, gL S, xI S, xJ S, xP S)
theorem gk_n_sI (S : gk_S) (f a : Nat) (v : Int32) : gk_n (sI S f a v) = gk_n S := rfl
theorem gk_t_sI (S : gk_S) (f a : Nat) (v : Int32) : gk_t (sI S f a v) = gk_t S := rfl
theorem gk_K_sI (S : gk_S) (f a : Nat) (v : Int32) : gk_K (sI S f a v) = gk_K S := rfl
theorem gI_sI (S : gk_S) (f a : Nat) (v : Int32) (j c : Nat) : gI (sI S f a v) j c = if j = f ∧ c = a then v else gI S j c := rfl
theorem gJ_sI (S : gk_S) (f a : Nat) (v : Int32) : gJ (sI S f a v) = gJ S := rfl
theorem gP_sI (S : gk_S) (f a : Nat) (v : Int32) : gP (sI S f a v) = gP S := rfl
theorem gL_sI (S : gk_S) (f a : Nat) (v : Int32) : gL (sI S f a v) = gL S := rfl
theorem xI_sI (S : gk_S) (f a : Nat) (v : Int32) : xI (sI S f a v) = xI S := rfl
theorem xJ_sI (S : gk_S) (f a : Nat) (v : Int32) : xJ (sI S f a v) = xJ S := rfl
theorem xP_sI (S : gk_S) (f a : Nat) (v : Int32) : xP (sI S f a v) = xP S := rfl
theorem gk_n_sJ (S : gk_S) (f a : Nat) (v : Int64) : gk_n (sJ S f a v) = gk_n S := rfl
theorem gk_t_sJ (S : gk_S) (f a : Nat) (v : Int64) : gk_t (sJ S f a v) = gk_t S := rfl
theorem gk_K_sJ (S : gk_S) (f a : Nat) (v : Int64) : gk_K (sJ S f a v) = gk_K S := rfl
theorem gI_sJ (S : gk_S) (f a : Nat) (v : Int64) : gI (sJ S f a v) = gI S := rfl
theorem gJ_sJ (S : gk_S) (f a : Nat) (v : Int64) (j c : Nat) : gJ (sJ S f a v) j c = if j = f ∧ c = a then v else gJ S j c := rfl
theorem gP_sJ (S : gk_S) (f a : Nat) (v : Int64) : gP (sJ S f a v) = gP S := rfl
theorem gL_sJ (S : gk_S) (f a : Nat) (v : Int64) : gL (sJ S f a v) = gL S := rfl
theorem xI_sJ (S : gk_S) (f a : Nat) (v : Int64) : xI (sJ S f a v) = xI S := rfl
theorem xJ_sJ (S : gk_S) (f a : Nat) (v : Int64) : xJ (sJ S f a v) = xJ S := rfl
theorem xP_sJ (S : gk_S) (f a : Nat) (v : Int64) : xP (sJ S f a v) = xP S := rfl
theorem gk_n_sP (S : gk_S) (f a : Nat) (v : Option Nat) : gk_n (sP S f a v) = gk_n S := rfl
theorem gk_t_sP (S : gk_S) (f a : Nat) (v : Option Nat) : gk_t (sP S f a v) = gk_t S := rfl
theorem gk_K_sP (S : gk_S) (f a : Nat) (v : Option Nat) : gk_K (sP S f a v) = gk_K S := rfl
theorem gI_sP (S : gk_S) (f a : Nat) (v : Option Nat) : gI (sP S f a v) = gI S := rfl
theorem gJ_sP (S : gk_S) (f a : Nat) (v : Option Nat) : gJ (sP S f a v) = gJ S := rfl
theorem gP_sP (S : gk_S) (f a : Nat) (v : Option Nat) (j c : Nat) : gP (sP S f a v) j c = if j = f ∧ c = a then v else gP S j c := rfl
theorem gL_sP (S : gk_S) (f a : Nat) (v : Option Nat) : gL (sP S f a v) = gL S := rfl
theorem xI_sP (S : gk_S) (f a : Nat) (v : Option Nat) : xI (sP S f a v) = xI S := rfl
theorem xJ_sP (S : gk_S) (f a : Nat) (v : Option Nat) : xJ (sP S f a v) = xJ S := rfl
theorem xP_sP (S : gk_S) (f a : Nat) (v : Option Nat) : xP (sP S f a v) = xP S := rfl
theorem gk_n_rI (S : gk_S) (a : Nat) (v : Nat → Int32) : gk_n (rI S a v) = gk_n S := rfl
theorem gk_t_rI (S : gk_S) (a : Nat) (v : Nat → Int32) : gk_t (rI S a v) = gk_t S := rfl
theorem gk_K_rI (S : gk_S) (a : Nat) (v : Nat → Int32) : gk_K (rI S a v) = gk_K S := rfl
theorem gI_rI (S : gk_S) (a : Nat) (v : Nat → Int32) : gI (rI S a v) = gI S := rfl
theorem gJ_rI (S : gk_S) (a : Nat) (v : Nat → Int32) : gJ (rI S a v) = gJ S := rfl
theorem gP_rI (S : gk_S) (a : Nat) (v : Nat → Int32) : gP (rI S a v) = gP S := rfl
theorem gL_rI (S : gk_S) (a : Nat) (v : Nat → Int32) : gL (rI S a v) = gL S := rfl
theorem xI_rI (S : gk_S) (a : Nat) (v : Nat → Int32) (c : Nat) : xI (rI S a v) c = if c = a then v else xI S c := rfl
theorem xJ_rI (S : gk_S) (a : Nat) (v : Nat → Int32) : xJ (rI S a v) = xJ S := rfl
theorem xP_rI (S : gk_S) (a : Nat) (v : Nat → Int32) : xP (rI S a v) = xP S := rfl
theorem gk_n_rJ (S : gk_S) (a : Nat) (v : Nat → Int64) : gk_n (rJ S a v) = gk_n S := rfl
theorem gk_t_rJ (S : gk_S) (a : Nat) (v : Nat → Int64) : gk_t (rJ S a v) = gk_t S := rfl
theorem gk_K_rJ (S : gk_S) (a : Nat) (v : Nat → Int64) : gk_K (rJ S a v) = gk_K S := rfl
theorem gI_rJ (S : gk_S) (a : Nat) (v : Nat → Int64) : gI (rJ S a v) = gI S := rfl
theorem gJ_rJ (S : gk_S) (a : Nat) (v : Nat → Int64) : gJ (rJ S a v) = gJ S := rfl
theorem gP_rJ (S : gk_S) (a : Nat) (v : Nat → Int64) : gP (rJ S a v) = gP S := rfl
theorem gL_rJ (S : gk_S) (a : Nat) (v : Nat → Int64) : gL (rJ S a v) = gL S := rfl
theorem xI_rJ (S : gk_S) (a : Nat) (v : Nat → Int64) : xI (rJ S a v) = xI S := rfl
theorem xJ_rJ (S : gk_S) (a : Nat) (v : Nat → Int64) (c : Nat) : xJ (rJ S a v) c = if c = a then v else xJ S c := rfl
theorem xP_rJ (S : gk_S) (a : Nat) (v : Nat → Int64) : xP (rJ S a v) = xP S := rfl
theorem gk_n_rP (S : gk_S) (a : Nat) (v : Nat → Option Nat) : gk_n (rP S a v) = gk_n S := rfl
theorem gk_t_rP (S : gk_S) (a : Nat) (v : Nat → Option Nat) : gk_t (rP S a v) = gk_t S := rfl
theorem gk_K_rP (S : gk_S) (a : Nat) (v : Nat → Option Nat) : gk_K (rP S a v) = gk_K S := rfl
theorem gI_rP (S : gk_S) (a : Nat) (v : Nat → Option Nat) : gI (rP S a v) = gI S := rfl
theorem gJ_rP (S : gk_S) (a : Nat) (v : Nat → Option Nat) : gJ (rP S a v) = gJ S := rfl
theorem gP_rP (S : gk_S) (a : Nat) (v : Nat → Option Nat) : gP (rP S a v) = gP S := rfl
theorem gL_rP (S : gk_S) (a : Nat) (v : Nat → Option Nat) : gL (rP S a v) = gL S := rfl
theorem xI_rP (S : gk_S) (a : Nat) (v : Nat → Option Nat) : xI (rP S a v) = xI S := rfl
theorem xJ_rP (S : gk_S) (a : Nat) (v : Nat → Option Nat) : xJ (rP S a v) = xJ S := rfl
theorem xP_rP (S : gk_S) (a : Nat) (v : Nat → Option Nat) (c : Nat) : xP (rP S a v) c = if c = a then v else xP S c := rfl
theorem gk_n_cS (S : gk_S) : gk_n (cS S) = gk_n S := rfl
theorem gk_t_nK (S : gk_S) (k l : Nat) : gk_t (nK S k l) = gk_t S := rfl
theorem gk_K_cS (S : gk_S) : gk_K (cS S) = gk_K S := rfl
theorem gI_nK (S : gk_S) (k l : Nat) : gI (nK S k l) = gI S := rfl
theorem gI_cS (S : gk_S) : gI (cS S) = gI S := rfl
theorem gJ_nK (S : gk_S) (k l : Nat) : gJ (nK S k l) = gJ S := rfl
theorem gJ_cS (S : gk_S) : gJ (cS S) = gJ S := rfl
theorem gP_nK (S : gk_S) (k l : Nat) : gP (nK S k l) = gP S := rfl
theorem gP_cS (S : gk_S) : gP (cS S) = gP S := rfl
theorem gL_cS (S : gk_S) : gL (cS S) = gL S := rfl
theorem xI_nK (S : gk_S) (k l : Nat) : xI (nK S k l) = xI S := rfl
theorem xI_cS (S : gk_S) : xI (cS S) = xI S := rfl
theorem xJ_nK (S : gk_S) (k l : Nat) : xJ (nK S k l) = xJ S := rfl
theorem xJ_cS (S : gk_S) : xJ (cS S) = xJ S := rfl
theorem xP_nK (S : gk_S) (k l : Nat) : xP (nK S k l) = xP S := rfl
theorem xP_cS (S : gk_S) : xP (cS S) = xP S := rfl
theorem gk_n_nK (S : gk_S) (k l : Nat) : gk_n (nK S k l) = gk_n S + 1 := rfl
theorem gk_K_nK (S : gk_S) (k l : Nat) (c : Nat) : gk_K (nK S k l) c = if c = gk_n S then k else gk_K S c := rfl
theorem gL_nK (S : gk_S) (k l : Nat) (c : Nat) : gL (nK S k l) c = if c = gk_n S then l else gL S c := rfl
theorem gk_t_cS (S : gk_S) : gk_t (cS S) = false := rfl
/-- launch; class numbers and slots; the base; array classes by kind; constants by number (0 the script, 1 TOPS, 2 BEHIND, 3 LIFETIMES, 4 what a check of an index is given, 10.. texts, 60.. their bytes); the script -/
abbrev gk_X : Type := Launch × va_G × Nat × (Nat → ClassId) × (Nat → Value) × Nat × (Nat → Int32)
abbrev gk_X.l (X : gk_X) : Launch := X.1
abbrev gk_X.D (X : gk_X) : va_G := X.2.1
abbrev gk_X.B (X : gk_X) : Nat := X.2.2.1
abbrev gk_X.cy (X : gk_X) : Nat → ClassId := X.2.2.2.1
abbrev gk_X.kc (X : gk_X) : Nat → Value := X.2.2.2.2.1
abbrev gk_X.sl (X : gk_X) : Nat := X.2.2.2.2.2.1
abbrev gk_X.xs (X : gk_X) : Nat → Int32 := X.2.2.2.2.2.2
abbrev gk_X.A (X : gk_X) : Nat → Prop := fun q => X.B ≤ q
def gk_tops : Nat → Int64 := fun j => ([3, 255, 4294967295, 4294967295, 65535, 65535, 3] : List Int64).getD j 0
def gk_beh : Nat → Int32 := fun j => ([0, 1, 0, 0, 0, 0, 7, 0, 2, 0, 0, 0, 7, 2, 0, 4, 3, 0, 7, 0, 2, 0, 0, 0, 7, 0, 0, 4, 3, 0, 7, 0, 0, 4, 3, 0, 7, 0, 0, 4, 4, 0, 7, 0, 0, 5, 4, 0, 7, 0, 0, 5, 6, 0, 7, 0, 0, 5, 5, 0, 7, 1, 0, 6, 6, 0, 7, 0, 0, 6, 6, 0, 7, 1, 0, 0, 0, 0, 7, 0, 0, 0, 0, 0] : List Int32).getD j 0
def gk_life : Nat → Int32 := fun j => ([120, 60, 3600, 120, 30, 120, 10] : List Int32).getD j 0
/-- the texts: class, entry, text, bytes -/
def gk_sT : List (String × Nat × String × List Int32) := [
  ("GateHouse", 251, "there is no such list", [116, 104, 101, 114, 101, 32, 105, 115, 32, 110, 111, 32, 115, 117, 99, 104, 32, 108, 105, 115, 116]),
  ("GateHouse$TextReader", 59, "policy", [112, 111, 108, 105, 99, 121]),
  ("GateHouse", 286, "drop", [100, 114, 111, 112]),
  ("GateHouse", 288, "accept", [97, 99, 99, 101, 112, 116]),
  ("GateHouse", 290, "reject", [114, 101, 106, 101, 99, 116]),
  ("GateHouse$TextReader", 134, "tcp", [116, 99, 112]),
  ("GateHouse$TextReader", 136, "udp", [117, 100, 112]),
  ("GateHouse$TextReader", 138, "icmp", [105, 99, 109, 112]),
  ("GateHouse", 292, "in", [105, 110]),
  ("GateHouse", 294, "proto", [112, 114, 111, 116, 111]),
  ("GateHouse", 296, "from", [102, 114, 111, 109]),
  ("GateHouse", 298, "to", [116, 111]),
  ("GateHouse", 300, "sport", [115, 112, 111, 114, 116]),
  ("GateHouse", 302, "dport", [100, 112, 111, 114, 116]),
  ("GateHouse", 304, "state", [115, 116, 97, 116, 101]),
  ("GateHouse", 306, "new", [110, 101, 119]),
  ("GateHouse", 308, "established", [101, 115, 116, 97, 98, 108, 105, 115, 104, 101, 100]),
  ("GateHouse", 310, "related", [114, 101, 108, 97, 116, 101, 100]),
  ("GateHouse", 312, "invalid", [105, 110, 118, 97, 108, 105, 100]),
  ("GateHouse", 260, "a policy has no such part", [97, 32, 112, 111, 108, 105, 99, 121, 32, 104, 97, 115, 32, 110, 111, 32, 115, 117, 99, 104, 32, 112, 97, 114, 116]),
  ("GateHouse", 254, "there is no such rule", [116, 104, 101, 114, 101, 32, 105, 115, 32, 110, 111, 32, 115, 117, 99, 104, 32, 114, 117, 108, 101]),
  ("GateHouse", 114, "a rule has no such part", [97, 32, 114, 117, 108, 101, 32, 104, 97, 115, 32, 110, 111, 32, 115, 117, 99, 104, 32, 112, 97, 114, 116]),
  ("GateHouse$ListWriter", 9, "policy ", [112, 111, 108, 105, 99, 121, 32]),
  ("GateHouse", 135, "there is no such byte", [116, 104, 101, 114, 101, 32, 105, 115, 32, 110, 111, 32, 115, 117, 99, 104, 32, 98, 121, 116, 101]),
  ("GateHouse", 256, "there is no such way in, or no such protocol", [116, 104, 101, 114, 101, 32, 105, 115, 32, 110, 111, 32, 115, 117, 99, 104, 32, 119, 97, 121, 32, 105, 110, 44, 32, 111, 114, 32, 110, 111, 32, 115, 117, 99, 104, 32, 112, 114, 111, 116, 111, 99, 111, 108]),
  ("GateHouse", 258, "there is no such port", [116, 104, 101, 114, 101, 32, 105, 115, 32, 110, 111, 32, 115, 117, 99, 104, 32, 112, 111, 114, 116]),
  ("GateHouse", 145, "there is no such state", [116, 104, 101, 114, 101, 32, 105, 115, 32, 110, 111, 32, 115, 117, 99, 104, 32, 115, 116, 97, 116, 101]),
  ("GateHouse", 167, "no such point was found", [110, 111, 32, 115, 117, 99, 104, 32, 112, 111, 105, 110, 116, 32, 119, 97, 115, 32, 102, 111, 117, 110, 100]),
  ("GateHouse", 183, "there are no such flags", [116, 104, 101, 114, 101, 32, 97, 114, 101, 32, 110, 111, 32, 115, 117, 99, 104, 32, 102, 108, 97, 103, 115]),
  ("GateHouse", 195, "there is no such way in", [116, 104, 101, 114, 101, 32, 105, 115, 32, 110, 111, 32, 115, 117, 99, 104, 32, 119, 97, 121, 32, 105, 110]),
  ("GateHouse", 221, "no packet came", [110, 111, 32, 112, 97, 99, 107, 101, 116, 32, 99, 97, 109, 101]),
  ("GateHouse", 227, "there is no such connection", [116, 104, 101, 114, 101, 32, 105, 115, 32, 110, 111, 32, 115, 117, 99, 104, 32, 99, 111, 110, 110, 101, 99, 116, 105, 111, 110]),
  ("GateHouse", 229, "a connection has no such part", [97, 32, 99, 111, 110, 110, 101, 99, 116, 105, 111, 110, 32, 104, 97, 115, 32, 110, 111, 32, 115, 117, 99, 104, 32, 112, 97, 114, 116]),
  ("GateHouseModel", 99, " drop accept reject policy in proto from to sport dport state tcp udp icmp new established related invalid ", [32, 100, 114, 111, 112, 32, 97, 99, 99, 101, 112, 116, 32, 114, 101, 106, 101, 99, 116, 32, 112, 111, 108, 105, 99, 121, 32, 105, 110, 32, 112, 114, 111, 116, 111, 32, 102, 114, 111, 109, 32, 116, 111, 32, 115, 112, 111, 114, 116, 32, 100, 112, 111, 114, 116, 32, 115, 116, 97, 116, 101, 32, 116, 99, 112, 32, 117, 100, 112, 32, 105, 99, 109, 112, 32, 110, 101, 119, 32, 101, 115, 116, 97, 98, 108, 105, 115, 104, 101, 100, 32, 114, 101, 108, 97, 116, 101, 100, 32, 105, 110, 118, 97, 108, 105, 100, 32])]
def gk_s (i : Nat) : String × Nat × String × List Int32 := gk_sT.getD i ("", 0, "", [])
def gk_is (S : gk_S) (a kd : Nat) : Prop := a < gk_n S ∧ gk_K S a = kd
abbrev gx_I : String := "java/lang/IndexOutOfBoundsException"
abbrev gx_E : String := "java/util/NoSuchElementException"
abbrev gx_A : String := "java/lang/IllegalArgumentException"
/-! new long[n][k], new int[n][k] -/
def nKs (S : gk_S) (kd len : Nat) : Nat → gk_S
  | 0 => S
  | i + 1 => nK (nKs S kd len i) kd len
theorem nKs_n (S : gk_S) (kd len : Nat) : ∀ i, gk_n (nKs S kd len i) = gk_n S + i
  | 0 => rfl
  | i + 1 => by show gk_n (nKs S kd len i) + 1 = _; rw [nKs_n S kd len i]; omega
theorem nKs_t (S : gk_S) (kd len : Nat) : ∀ i, gk_t (nKs S kd len i) = gk_t S
  | 0 => rfl
  | i + 1 => nKs_t S kd len i
theorem nKs_K (S : gk_S) (kd len : Nat) : ∀ i a, gk_K (nKs S kd len i) a = if gk_n S ≤ a ∧ a < gk_n S + i then kd else gk_K S a
  | 0, a => by rw [if_neg (by omega)]; rfl
  | i + 1, a => by
    show gk_K (nK (nKs S kd len i) kd len) a = _
    rw [gk_K_nK, nKs_n, nKs_K S kd len i a]
    by_cases h1 : a = gk_n S + i
    · rw [if_pos h1, if_pos (by omega)]
    · rw [if_neg h1]
      by_cases h2 : gk_n S ≤ a ∧ a < gk_n S + i
      · rw [if_pos h2, if_pos (by omega)]
      · rw [if_neg h2, if_neg (by omega)]
theorem nKs_L (S : gk_S) (kd len : Nat) : ∀ i a, gL (nKs S kd len i) a = if gk_n S ≤ a ∧ a < gk_n S + i then len else gL S a
  | 0, a => by rw [if_neg (by omega)]; rfl
  | i + 1, a => by
    show gL (nK (nKs S kd len i) kd len) a = _
    rw [gL_nK, nKs_n, nKs_L S kd len i a]
    by_cases h1 : a = gk_n S + i
    · rw [if_pos h1, if_pos (by omega)]
    · rw [if_neg h1]
      by_cases h2 : gk_n S ≤ a ∧ a < gk_n S + i
      · rw [if_pos h2, if_pos (by omega)]
      · rw [if_neg h2, if_neg (by omega)]
theorem nKs_f (S : gk_S) (kd len : Nat) : ∀ i, gI (nKs S kd len i) = gI S ∧ gJ (nKs S kd len i) = gJ S ∧ gP (nKs S kd len i) = gP S ∧ xI (nKs S kd len i) = xI S ∧ xJ (nKs S kd len i) = xJ S ∧ xP (nKs S kd len i) = xP S
  | 0 => ⟨rfl, rfl, rfl, rfl, rfl, rfl⟩
  | i + 1 => nKs_f S kd len i
/-- the heap behind it: the outer row, the inner ones behind it -/
def gk_mn (S : gk_S) (ok ik N K : Nat) : gk_S := rP (nKs (nK S ok N) ik K N) (gk_n S) (fun i => if i < N then some (gk_n S + 1 + i) else none)
/-! FUNCTIONS THAT TELL WHAT A METHOD DOES: none where one of the machine's conditions doesn't hold -/
def qk {γ : Type} (b : Bool) (A : Option γ) : Option γ := bif b then A else none
def qv {α γ : Type} (x : α) (A : α → Option γ) : Option γ := A x
def qP {γ : Type} (o : Option Nat) (A : Nat → Option γ) : Option γ := o.bind A
def qc {α γ : Type} (o : Option (α × gk_S)) (A : α → gk_S → Option γ) : Option γ := o.bind fun q => A q.1 q.2
/-- a call that may throw -/
def qx {α β : Type} (o : Option ((α ⊕ String) × gk_S)) (A : α → gk_S → Option ((β ⊕ String) × gk_S)) : Option ((β ⊕ String) × gk_S) := match o with
  | none => none
  | some (.inr E, S) => some (.inr E, S)
  | some (.inl v, S) => A v S
/-- a call whose throw is caught -/
def qh {α γ : Type} (o : Option ((α ⊕ String) × gk_S)) (A : α → gk_S → Option γ) (B : String → gk_S → Option γ) : Option γ := match o with
  | none => none
  | some (.inr E, S) => B E S
  | some (.inl v, S) => A v S
theorem qk_el {γ : Type} {b : Bool} {A : Option γ} {r : γ} (h : qk b A = some r) : b = true ∧ A = some r := by
  cases b with
  | true => exact ⟨rfl, h⟩
  | false => cases h
theorem qk_pos {γ : Type} {b : Bool} {A : Option γ} (h : b = true) : qk b A = A := by rw [h]; rfl
theorem qv_el {α γ : Type} {x : α} {A : α → Option γ} {r : γ} (h : qv x A = some r) : ∃ y, x = y ∧ A y = some r := ⟨x, rfl, h⟩
theorem qv_eq {α γ : Type} (x : α) (A : α → Option γ) : qv x A = A x := rfl
theorem qP_el {γ : Type} {o : Option Nat} {A : Nat → Option γ} {r : γ} (h : qP o A = some r) : ∃ b, o = some b ∧ A b = some r := by
  cases o with
  | none => cases h
  | some b => exact ⟨b, rfl, h⟩
theorem qP_some {γ : Type} {o : Option Nat} {b : Nat} {A : Nat → Option γ} (h : o = some b) : qP o A = A b := by rw [h]; rfl
theorem qc_el {α γ : Type} {o : Option (α × gk_S)} {A : α → gk_S → Option γ} {r : γ} (h : qc o A = some r) : ∃ v S1, o = some (v, S1) ∧ A v S1 = some r := by
  cases o with
  | none => cases h
  | some q => exact ⟨q.1, q.2, rfl, h⟩
theorem qc_some {α γ : Type} {o : Option (α × gk_S)} {v : α} {S1 : gk_S} {A : α → gk_S → Option γ} (h : o = some (v, S1)) : qc o A = A v S1 := by rw [h]; rfl
theorem qx_el {α β : Type} {o : Option ((α ⊕ String) × gk_S)} {A : α → gk_S → Option ((β ⊕ String) × gk_S)} {r : (β ⊕ String) × gk_S} (h : qx o A = some r) : (∃ E S1, o = some (.inr E, S1) ∧ r = (.inr E, S1)) ∨ ∃ v S1, o = some (.inl v, S1) ∧ A v S1 = some r := by
  cases o with
  | none => cases h
  | some q =>
    obtain ⟨q1, q2⟩ := q
    cases q1 with
    | inl v => exact Or.inr ⟨v, q2, rfl, h⟩
    | inr E => exact Or.inl ⟨E, q2, rfl, (Option.some.inj h).symm⟩
theorem qx_inl {α β : Type} {o : Option ((α ⊕ String) × gk_S)} {A : α → gk_S → Option ((β ⊕ String) × gk_S)} {v : α} {S1 : gk_S} (h : o = some (.inl v, S1)) : qx o A = A v S1 := by rw [h]; rfl
theorem qx_inr {α β : Type} {o : Option ((α ⊕ String) × gk_S)} {A : α → gk_S → Option ((β ⊕ String) × gk_S)} {E : String} {S1 : gk_S} (h : o = some (.inr E, S1)) : qx o A = some (.inr E, S1) := by rw [h]; rfl
theorem qh_el {α γ : Type} {o : Option ((α ⊕ String) × gk_S)} {A : α → gk_S → Option γ} {B : String → gk_S → Option γ} {r : γ} (h : qh o A B = some r) : (∃ E S1, o = some (.inr E, S1) ∧ B E S1 = some r) ∨ ∃ v S1, o = some (.inl v, S1) ∧ A v S1 = some r := by
  cases o with
  | none => cases h
  | some q =>
    obtain ⟨q1, q2⟩ := q
    cases q1 with
    | inl v => exact Or.inr ⟨v, q2, rfl, h⟩
    | inr E => exact Or.inl ⟨E, q2, rfl, h⟩
theorem qh_inl {α γ : Type} {o : Option ((α ⊕ String) × gk_S)} {A : α → gk_S → Option γ} {B : String → gk_S → Option γ} {v : α} {S1 : gk_S} (h : o = some (.inl v, S1)) : qh o A B = A v S1 := by rw [h]; rfl
theorem qh_inr {α γ : Type} {o : Option ((α ⊕ String) × gk_S)} {A : α → gk_S → Option γ} {B : String → gk_S → Option γ} {E : String} {S1 : gk_S} (h : o = some (.inr E, S1)) : qh o A B = B E S1 := by rw [h]; rfl
theorem qi_t {γ : Type} {c : Prop} [Decidable c] {A B : Option γ} {r : γ} (h : (if c then A else B) = some r) (hc : c) : A = some r := by rw [if_pos hc] at h; exact h
theorem qi_f {γ : Type} {c : Prop} [Decidable c] {A B : Option γ} {r : γ} (h : (if c then A else B) = some r) (hc : ¬ c) : B = some r := by rw [if_neg hc] at h; exact h
def isb (S : gk_S) (a kd : Nat) : Bool := decide (a < gk_n S ∧ gk_K S a = kd)
theorem isb_el {S : gk_S} {a kd : Nat} (h : isb S a kd = true) : gk_is S a kd := of_decide_eq_true (p := a < gk_n S ∧ gk_K S a = kd) h
theorem isb_of {S : gk_S} {a kd : Nat} (h : gk_is S a kd) : isb S a kd = true := decide_eq_true (p := a < gk_n S ∧ gk_K S a = kd) h
def inb (i : Int32) (n : Nat) : Bool := decide (0 ≤ i.toInt ∧ i.toInt < (n : Int))
theorem inb_el {i : Int32} {n : Nat} (h : inb i n = true) : vp_in i n := vp_in_iff.mpr (of_decide_eq_true h)
theorem inb_of {i : Int32} {n : Nat} (h0 : 0 ≤ i.toInt) (h1 : i.toInt < (n : Int)) : inb i n = true := decide_eq_true ⟨h0, h1⟩
def zb (x : Int32) : Bool := decide (x = 0 ∨ x = 1)
theorem zb_el {x : Int32} (h : zb x = true) : x = 0 ∨ x = 1 := of_decide_eq_true h
theorem zb_of {x : Int32} (h : x = 0 ∨ x = 1) : zb x = true := decide_eq_true h
theorem zb_ite {c : Prop} [Decidable c] : zb (if c then 1 else 0) = true := by by_cases h : c <;> simp [h, zb]
theorem zb_nar {x : Int32} (h : zb x = true) : narrow .boolean (.int x) = .int x := by rcases zb_el h with rfl | rfl <;> rfl
theorem zb_fit {x : Int32} (h : zb x = true) : narrow .boolean (.int x) = .int x ∧ fits .boolean (.int x) = true := by rcases zb_el h with rfl | rfl <;> exact ⟨rfl, rfl⟩
def nzI (x : Int32) : Bool := decide (¬ x = 0)
theorem nzI_el {x : Int32} (h : nzI x = true) : ¬ x = 0 := of_decide_eq_true h
theorem nzI_of {x : Int32} (h : ¬ x = 0) : nzI x = true := decide_eq_true h
def nzJ (x : Int64) : Bool := decide (¬ x = 0)
theorem nzJ_el {x : Int64} (h : nzJ x = true) : ¬ x = 0 := of_decide_eq_true h
theorem nzJ_of {x : Int64} (h : ¬ x = 0) : nzJ x = true := decide_eq_true h
def ltb (i n : Nat) : Bool := decide (i < n)
theorem ltb_el {i n : Nat} (h : ltb i n = true) : i < n := of_decide_eq_true h
theorem ltb_of {i n : Nat} (h : i < n) : ltb i n = true := decide_eq_true h
def tgb (S : gk_S) : Bool := gk_t S
/-! stores into rows -/
def wI (S : gk_S) (a : Nat) (i v : Int32) : gk_S := rI S a (upd (xI S a) i.toNatClampNeg v)
def wB (S : gk_S) (a : Nat) (i v : Int32) : gk_S := rI S a (upd (xI S a) i.toNatClampNeg v.toInt8.toInt32)
def wJ (S : gk_S) (a : Nat) (i : Int32) (v : Int64) : gk_S := rJ S a (vp_updL (xJ S a) i.toNatClampNeg v)
def wP (S : gk_S) (a : Nat) (i : Int32) (v : Nat) : gk_S := rP S a (va_up (xP S a) i.toNatClampNeg (some v))
def aI (S : gk_S) (a : Nat) (i : Int32) : Int32 := xI S a i.toNatClampNeg
def aJ (S : gk_S) (a : Nat) (i : Int32) : Int64 := xJ S a i.toNatClampNeg
def aP (S : gk_S) (a : Nat) (i : Int32) : Option Nat := xP S a i.toNatClampNeg
def chb (x : Int32) : Bool := decide ((x.toUInt32 % 65536).toInt32 = x)
def btb (x : Int32) : Bool := decide (x.toInt8.toInt32 = x)
