/-! how the functions are walked: what the conditions say of a changed heap -/
theorem isb_sI (S : gk_S) (f a : Nat) (v : Int32) (b k : Nat) : isb (sI S f a v) b k = isb S b k := rfl
