/-! THE LIBRARY'S ROWS OF A FIELD OF FIELDS: named ahead of all, so that every part is read over the same library -/
theorem lib_fill (s : State) (c d : ClassId) (N M : Nat) (dv : Value) (i : Nat) : (Jvm.Free.Multi.fill s c d N M dv i).heap.size = s.heap.size + 1 + i := (Jvm.Free.Multi.fill_facts s c d N M dv i).1
