/-! THE JUDGEMENT: from pc, with these locals, this stack and this heap, the method comes to its end with R -/
abbrev gk_R : Type := (Option Value ⊕ String) × gk_S
def gk_QR (X : gk_X) (R : gk_R) : Array Value → State → Outcome → State → Prop := fun _ st o t => ∃ v, R.1 = .inl v ∧ o = .returned (v.map (gk_v X)) ∧ gk_H X R.2 t.heap ∧ va_F X.A st t
def gk_XR (X : gk_X) (R : gk_R) : String → State → State → Prop := fun E st t => R.1 = .inr E ∧ gk_H X R.2 t.heap ∧ va_F X.A st t
def gk_C (X : gk_X) (M : gk_M) (p : Program) (s : State) (m : MethodId) (args : Array Value) (meth : Method) (c : Code) : Prop :=
  p.tables.exec = Jvm.exec ∧ c.code = M.cc ∧ meth.sig.returnType = M.rt ∧ c.maxLocals = M.nL ∧ s.vm.findClass M.y.cls = some m.cls ∧ (∀ w ∈ gG, w.before args s = true) ∧ meth.locks = false ∧ c.exceptionTable.toList = tableOf M.hh ∧ meth.name = M.y.name ∧ va_K X.D vwCl (gk_tys X) s ∧ gk_St X s s.heap ∧ X.B ≤ s.heap.size ∧ X.l.stackTraces = false
/-- the locals that are known -/
def gk_la (X : gk_X) (L : List (Option Value)) : List (Nat × Value) := (List.range L.length).filterMap fun i => (L[i]?.join).map fun v => (i, gk_v X v)
theorem gk_la_mem {X : gk_X} {L : List (Option Value)} {i : Nat} {v : Value} (h : L[i]? = some (some v)) : (i, gk_v X v) ∈ gk_la X L := by
  have hl : i < L.length := (List.getElem?_eq_some_iff.mp h).1
  exact List.mem_filterMap.mpr ⟨i, List.mem_range.mpr hl, by rw [h]; rfl⟩
theorem gk_la_inv {X : gk_X} {L : List (Option Value)} {q : Nat × Value} (h : q ∈ gk_la X L) : ∃ v, L[q.1]? = some (some v) ∧ q.2 = gk_v X v := by
  obtain ⟨i, -, hi⟩ := List.mem_filterMap.mp h
  cases hv : L[i]? with
  | none => rw [hv] at hi; cases hi
  | some o =>
    rw [hv] at hi
    cases o with
    | none => cases hi
    | some v => cases hi; exact ⟨v, hv, rfl⟩
theorem gk_la_at {X : gk_X} {L : List (Option Value)} {ls : Array Slot} {n i : Nat} {v : Value} (hl : lv_has ls n (gk_la X L)) (h : L[i]? = some (some v)) : ls[i]? = some (.val (gk_v X v)) := hl.2.2 _ (gk_la_mem h)
theorem lv_mono {ls : Array Slot} {n : Nat} {l l' : List (Nat × Value)} (h : lv_has ls n l) (hs : ∀ q ∈ l', q ∈ l) : lv_has ls n l' := ⟨h.1, h.2.1, fun q hq => h.2.2 q (hs q hq)⟩
/-- a local is set: a long takes the next place too, and a long that ends there is gone -/
def gk_st (L : List (Option Value)) (i : Nat) (v : Value) : List (Option Value) := (List.range L.length).map fun j => if j = i then some v else if j = i + 1 ∧ v.category = 2 then none else if j + 1 = i ∧ (L[j]?.join).map Value.category = some 2 then none else L[j]?.join
theorem gk_cat (X : gk_X) {v : Value} (h : ∀ c, v = .retAddr c → (X.kc c).category = 1) : (gk_v X v).category = v.category := by
  cases v <;> first | rfl | exact h _ rfl
theorem gk_catR {v : Value} (h : v = .null ∨ ∃ a, v = .ref a) : v.category = 1 := by rcases h with rfl | ⟨a, rfl⟩ <;> rfl
theorem gk_st_inv {L : List (Option Value)} {i j : Nat} {v w : Value} (h : (gk_st L i v)[j]? = some (some w)) : (j = i ∧ w = v ∧ i < L.length) ∨ (j ≠ i ∧ ¬ (j = i + 1 ∧ v.category = 2) ∧ ¬ (j + 1 = i ∧ w.category = 2) ∧ L[j]? = some (some w)) := by
  unfold gk_st at h
  rw [List.getElem?_map] at h
  cases hr : (List.range L.length)[j]? with
  | none => rw [hr] at h; cases h
  | some j' =>
    have hlt : j < L.length := by simpa using (List.getElem?_eq_some_iff.mp hr).1
    rw [List.getElem?_range hlt] at hr
    cases hr
    rw [List.getElem?_range hlt] at h
    simp only [Option.map_some, Option.some.injEq] at h
    by_cases h1 : j = i
    · subst h1
      rw [if_pos rfl] at h
      exact Or.inl ⟨rfl, (Option.some.inj h).symm, hlt⟩
    · rw [if_neg h1] at h
      by_cases h2 : j = i + 1 ∧ v.category = 2
      · rw [if_pos h2] at h; cases h
      · rw [if_neg h2] at h
        by_cases h3 : j + 1 = i ∧ (L[j]?.join).map Value.category = some 2
        · rw [if_pos h3] at h; cases h
        · rw [if_neg h3] at h
          have h4 : L[j]? = some (some w) := by
            cases hj : L[j]? with
            | none => rw [hj] at h; cases h
            | some o => rw [hj] at h; cases o with
              | none => cases h
              | some z => cases h; rfl
          refine Or.inr ⟨h1, h2, fun hc => h3 ⟨hc.1, ?_⟩, h4⟩
          rw [h4]
          exact congrArg some hc.2
/-- what the machine keeps behind a store of one place -/
theorem gk_la_st1 {X : gk_X} {L : List (Option Value)} {i : Nat} {v : Value} {ls : Array Slot} {n : Nat} (hk : ∀ c, (∃ j : Nat, L[j]? = some (some (Value.retAddr c))) → (X.kc c).category = 1)
    (h : lv_has ls n ((i, gk_v X v) :: (gk_la X L).filter (fun q => !(q.1 == i) && !(q.1 + 1 == i && q.2.category == 2)))) : lv_has ls n (gk_la X (gk_st L i v)) := by
  refine lv_mono h fun q hq => ?_
  obtain ⟨w, hw, e⟩ := gk_la_inv hq
  rcases gk_st_inv hw with ⟨h1, h2, -⟩ | ⟨h1, -, h3, h4⟩
  · have : q = (i, gk_v X v) := by obtain ⟨a, b⟩ := q; dsimp only at h1 e; rw [h1, e, h2]
    rw [this]
    exact List.mem_cons_self
  · refine List.mem_cons_of_mem _ (List.mem_filter.mpr ⟨?_, ?_⟩)
    · have hm := gk_la_mem (X := X) h4
      rw [← e] at hm
      exact hm
    · have hc : q.2.category = w.category := by
        rw [e]
        exact gk_cat X fun c hc => hk c ⟨q.1, by rw [h4, hc]⟩
      simp only [Bool.and_eq_true, Bool.not_eq_true', beq_eq_false_iff_ne, ne_eq, Bool.and_eq_false_iff]
      refine ⟨h1, ?_⟩
      rw [hc]
      by_cases h5 : q.1 + 1 = i
      · exact Or.inr fun h6 => h3 ⟨h5, h6⟩
      · exact Or.inl h5
theorem gk_la_st2 {X : gk_X} {L : List (Option Value)} {i : Nat} {v : Value} (hv2 : v.category = 2) {ls : Array Slot} {n : Nat} (hk : ∀ c, (∃ j : Nat, L[j]? = some (some (Value.retAddr c))) → (X.kc c).category = 1)
    (h : lv_has ls n ((i, gk_v X v) :: (gk_la X L).filter (fun q => !(q.1 == i) && (!(q.1 == i + 1) && !(q.1 + 1 == i && q.2.category == 2))))) : lv_has ls n (gk_la X (gk_st L i v)) := by
  refine lv_mono h fun q hq => ?_
  obtain ⟨w, hw, e⟩ := gk_la_inv hq
  rcases gk_st_inv hw with ⟨h1, h2, -⟩ | ⟨h1, hs, h3, h4⟩
  · have : q = (i, gk_v X v) := by obtain ⟨a, b⟩ := q; dsimp only at h1 e; rw [h1, e, h2]
    rw [this]
    exact List.mem_cons_self
  · refine List.mem_cons_of_mem _ (List.mem_filter.mpr ⟨?_, ?_⟩)
    · have hm := gk_la_mem (X := X) h4
      rw [← e] at hm
      exact hm
    · have hc : q.2.category = w.category := by
        rw [e]
        exact gk_cat X fun c hc => hk c ⟨q.1, by rw [h4, hc]⟩
      simp only [Bool.and_eq_true, Bool.not_eq_true', beq_eq_false_iff_ne, ne_eq, Bool.and_eq_false_iff]
      refine ⟨h1, fun h7 => hs ⟨h7, hv2⟩, ?_⟩
      rw [hc]
      by_cases h5 : q.1 + 1 = i
      · exact Or.inr fun h6 => h3 ⟨h5, h6⟩
      · exact Or.inl h5
/-- every local is a number or a reference that is known to be one -/
def gk_okL (L : List (Option Value)) : Bool := L.all fun o => match o with
  | some (.retAddr c) => gk_isR (.retAddr c)
  | _ => true
theorem gk_okL_spec {X : gk_X} {s : State} {H : Heap} (h : gk_St X s H) {L : List (Option Value)} (hL : gk_okL L = true) : ∀ c, (∃ j : Nat, L[j]? = some (some (Value.retAddr c))) → (X.kc c).category = 1 := by
  rintro c ⟨j, hj⟩
  have h1 := List.all_eq_true.mp hL _ (List.mem_of_getElem? hj)
  exact gk_catR (gk_isR_spec h (v := .retAddr c) h1)
def EvW (X : gk_X) (M : gk_M) (d k j pc : Nat) (L : List (Option Value)) (st : List Value) (S : gk_S) (R : gk_R) : Prop :=
  ∀ (p : Program) (e : Env) (Rm : Room) (s : State) (m : MethodId) (args : Array Value) (below : List Frame) (meth : Method) (c : Code) (H : Heap) (locs : List Loc) (cells slots mc ms : Nat) (ls : Array Slot),
    gk_C X M p s m args meth c → (d ≤ Rm.frames ∧ 64 * d ≤ Rm.locals) → gk_H X S H → va_S X.A s.heap H locs → (cells + k ≤ mc ∧ slots + j ≤ ms ∧ mc ≤ Rm.cells ∧ ms ≤ Rm.slots) → lv_has ls M.nL (gk_la X L) →
    W p X.l e Rm s m args below meth c H locs cells slots (vx_MQ below (gk_QR X R) (gk_XR X R) args s mc ms X.A) (F0 m pc ls (st.map (gk_v X)))
section EVP
variable {X : gk_X} {M : gk_M} {d k j pc pc' : Nat} {L L' : List (Option Value)} {st st' : List Value} {S : gk_S} {R : gk_R}
theorem ev_pure (h : ∀ (p : Program) (e : Env) (Rm : Room) (s : State) (m : MethodId) (args : Array Value) (below : List Frame) (meth : Method) (c : Code) (H : Heap) (locs : List Loc) (cells slots : Nat) (Q : State → Prop) (ls : Array Slot), gk_C X M p s m args meth c → lv_has ls M.nL (gk_la X L) →
      (∀ ls' : Array Slot, lv_has ls' M.nL (gk_la X L') → W p X.l e Rm s m args below meth c H locs cells slots Q (F0 m pc' ls' (st'.map (gk_v X)))) → W p X.l e Rm s m args below meth c H locs cells slots Q (F0 m pc ls (st.map (gk_v X))))
    (kk : EvW X M d k j pc' L' st' S R) : EvW X M d k j pc L st S R :=
  fun p e Rm s m args below meth c H locs cells slots mc ms ls C r hH hS hc hl => h p e Rm s m args below meth c H locs cells slots _ ls C hl fun ls' hl' => kk p e Rm s m args below meth c H locs cells slots mc ms ls' C r hH hS hc hl'

theorem ev_iconst {n : Int} {v : Int32} (hv : Int32.ofInt n = v) (hd : decode M.cc pc = .ok (.iconst n, 1)) (kk : EvW X M d k j (pc + 1) L (.int v :: st) S R) : EvW X M d k j pc L (st) S R := ev_pure (fun p e Rm s m args below meth c H locs cells slots Q ls C hl w => lv_iconst C.1 C.2.1 hd hv (w ls hl)) kk
theorem ev_bipush {n : Int} {v : Int32} (hv : (Int8.ofInt n).toInt32 = v) (hd : decode M.cc pc = .ok (.bipush n, 2)) (kk : EvW X M d k j (pc + 2) L (.int v :: st) S R) : EvW X M d k j pc L (st) S R := ev_pure (fun p e Rm s m args below meth c H locs cells slots Q ls C hl w => lv_bipush C.1 C.2.1 hd hv (w ls hl)) kk
theorem ev_sipush {n : Int} {v : Int32} (hv : (Int16.ofInt n).toInt32 = v) (hd : decode M.cc pc = .ok (.sipush n, 3)) (kk : EvW X M d k j (pc + 3) L (.int v :: st) S R) : EvW X M d k j pc L (st) S R := ev_pure (fun p e Rm s m args below meth c H locs cells slots Q ls C hl w => lv_sipush C.1 C.2.1 hd hv (w ls hl)) kk
theorem ev_lconst {n : Fin 2} {v : Int64} (hv : Int64.ofNat (n : Nat) = v) (hd : decode M.cc pc = .ok (.lconst n, 1)) (kk : EvW X M d k j (pc + 1) L (.long v :: st) S R) : EvW X M d k j pc L (st) S R := ev_pure (fun p e Rm s m args below meth c H locs cells slots Q ls C hl w => lv_lconst C.1 C.2.1 hd hv (w ls hl)) kk
theorem ev_ldc {i : Nat} {v : Int32} (hw : Cond.constant M.y.cls i v ∈ gG) (hd : decode M.cc pc = .ok (.ldc i, 2)) (kk : EvW X M d k j (pc + 2) L (.int v :: st) S R) : EvW X M d k j pc L (st) S R := ev_pure (fun p e Rm s m args below meth c H locs cells slots Q ls C hl w => lv_ldc C.1 C.2.1 C.2.2.2.2.1 (C.2.2.2.2.2.1 _ hw) hd (w ls hl)) kk
theorem ev_ldcw {i : Nat} {v : Int32} (hw : Cond.constant M.y.cls i v ∈ gG) (hd : decode M.cc pc = .ok (.ldc_w i, 3)) (kk : EvW X M d k j (pc + 3) L (.int v :: st) S R) : EvW X M d k j pc L (st) S R := ev_pure (fun p e Rm s m args below meth c H locs cells slots Q ls C hl w => lv_ldcw C.1 C.2.1 C.2.2.2.2.1 (C.2.2.2.2.2.1 _ hw) hd (w ls hl)) kk
theorem ev_ldc2 {i : Nat} {v : Int64} (hw : Cond.constantLong M.y.cls i v ∈ gG) (hd : decode M.cc pc = .ok (.ldc2_w i, 3)) (kk : EvW X M d k j (pc + 3) L (.long v :: st) S R) : EvW X M d k j pc L (st) S R := ev_pure (fun p e Rm s m args below meth c H locs cells slots Q ls C hl w => lv_ldc2 C.1 C.2.1 C.2.2.2.2.1 (C.2.2.2.2.2.1 _ hw) hd (w ls hl)) kk
theorem ev_iload_n {n : Fin 4} {i : Nat} {x : Int32} (hi : (n : Nat) = i) (hL : L[i]? = some (some (.int x))) (hd : decode M.cc pc = .ok (.iload_n n, 1)) (kk : EvW X M d k j (pc + 1) L (.int x :: st) S R) : EvW X M d k j pc L (st) S R := ev_pure (fun p e Rm s m args below meth c H locs cells slots Q ls C hl w => lv_iload_n C.1 C.2.1 hd hi (gk_la_at hl hL) (w ls hl)) kk
theorem ev_iload {i : Nat} {x : Int32} (hL : L[i]? = some (some (.int x))) (hd : decode M.cc pc = .ok (.iload i, 2)) (kk : EvW X M d k j (pc + 2) L (.int x :: st) S R) : EvW X M d k j pc L (st) S R := ev_pure (fun p e Rm s m args below meth c H locs cells slots Q ls C hl w => lv_iload C.1 C.2.1 hd (gk_la_at hl hL) (w ls hl)) kk
theorem ev_lload_n {n : Fin 4} {i : Nat} {x : Int64} (hi : (n : Nat) = i) (hL : L[i]? = some (some (.long x))) (hd : decode M.cc pc = .ok (.lload_n n, 1)) (kk : EvW X M d k j (pc + 1) L (.long x :: st) S R) : EvW X M d k j pc L (st) S R := ev_pure (fun p e Rm s m args below meth c H locs cells slots Q ls C hl w => lv_lload_n C.1 C.2.1 hd hi (gk_la_at hl hL) (w ls hl)) kk
theorem ev_lload {i : Nat} {x : Int64} (hL : L[i]? = some (some (.long x))) (hd : decode M.cc pc = .ok (.lload i, 2)) (kk : EvW X M d k j (pc + 2) L (.long x :: st) S R) : EvW X M d k j pc L (st) S R := ev_pure (fun p e Rm s m args below meth c H locs cells slots Q ls C hl w => lv_lload C.1 C.2.1 hd (gk_la_at hl hL) (w ls hl)) kk
theorem ev_aload_n {n : Fin 4} {i : Nat} {v : Value} (hi : (n : Nat) = i) (hL : L[i]? = some (some v)) (hv : gk_isR v = true) (hd : decode M.cc pc = .ok (.aload_n n, 1)) (kk : EvW X M d k j (pc + 1) L (v :: st) S R) : EvW X M d k j pc L st S R := by
  refine ev_pure (fun p e Rm s m args below meth c H locs cells slots Q ls C hl w => ?_) kk
  have h1 := gk_la_at hl hL
  have h2 := w ls hl
  rcases gk_isR_spec C.2.2.2.2.2.2.2.2.2.2.1 hv with e1 | ⟨a, e1⟩
  · rw [e1] at h1
    rw [List.map_cons, e1] at h2
    exact lv_aload_nN C.1 C.2.1 hd hi h1 h2
  · rw [e1] at h1
    rw [List.map_cons, e1] at h2
    exact lv_aload_n C.1 C.2.1 hd hi h1 h2
theorem ev_aload {i : Nat} {v : Value} (hL : L[i]? = some (some v)) (hv : gk_isR v = true) (hd : decode M.cc pc = .ok (.aload i, 2)) (kk : EvW X M d k j (pc + 2) L (v :: st) S R) : EvW X M d k j pc L st S R := by
  refine ev_pure (fun p e Rm s m args below meth c H locs cells slots Q ls C hl w => ?_) kk
  have h1 := gk_la_at hl hL
  have h2 := w ls hl
  rcases gk_isR_spec C.2.2.2.2.2.2.2.2.2.2.1 hv with e1 | ⟨a, e1⟩
  · rw [e1] at h1
    rw [List.map_cons, e1] at h2
    exact lv_aloadN C.1 C.2.1 hd h1 h2
  · rw [e1] at h1
    rw [List.map_cons, e1] at h2
    exact lv_aload C.1 C.2.1 hd h1 h2
theorem ev_istore_n {n : Fin 4} {i : Nat} {x : Int32} (hi : (n : Nat) = i) (hn : i < M.nL) (hok : gk_okL L = true) (hL : gk_st L i (.int x) = L') (hd : decode M.cc pc = .ok (.istore_n n, 1)) (kk : EvW X M d k j (pc + 1) L' st S R) : EvW X M d k j pc L (.int x :: st) S R := by
  subst hL
  exact ev_pure (fun p e Rm s m args below meth c H locs cells slots Q ls C hl w => lv_istore_n C.1 C.2.1 hd hi hl hn rfl (fun ls' hl' => w ls' (gk_la_st1 (v := .int x) (gk_okL_spec C.2.2.2.2.2.2.2.2.2.2.1 hok) hl'))) kk
theorem ev_istore {i : Nat} {x : Int32} (hn : i < M.nL) (hok : gk_okL L = true) (hL : gk_st L i (.int x) = L') (hd : decode M.cc pc = .ok (.istore i, 2)) (kk : EvW X M d k j (pc + 2) L' st S R) : EvW X M d k j pc L (.int x :: st) S R := by
  subst hL
  exact ev_pure (fun p e Rm s m args below meth c H locs cells slots Q ls C hl w => lv_istore C.1 C.2.1 hd hl hn rfl (fun ls' hl' => w ls' (gk_la_st1 (v := .int x) (gk_okL_spec C.2.2.2.2.2.2.2.2.2.2.1 hok) hl'))) kk
theorem ev_lstore_n {n : Fin 4} {i : Nat} {x : Int64} (hi : (n : Nat) = i) (hn : i + 1 < M.nL) (hok : gk_okL L = true) (hL : gk_st L i (.long x) = L') (hd : decode M.cc pc = .ok (.lstore_n n, 1)) (kk : EvW X M d k j (pc + 1) L' st S R) : EvW X M d k j pc L (.long x :: st) S R := by
  subst hL
  exact ev_pure (fun p e Rm s m args below meth c H locs cells slots Q ls C hl w => lv_lstore_n C.1 C.2.1 hd hi hl hn rfl (fun ls' hl' => w ls' (gk_la_st2 rfl (v := .long x) (gk_okL_spec C.2.2.2.2.2.2.2.2.2.2.1 hok) hl'))) kk
theorem ev_lstore {i : Nat} {x : Int64} (hn : i + 1 < M.nL) (hok : gk_okL L = true) (hL : gk_st L i (.long x) = L') (hd : decode M.cc pc = .ok (.lstore i, 2)) (kk : EvW X M d k j (pc + 2) L' st S R) : EvW X M d k j pc L (.long x :: st) S R := by
  subst hL
  exact ev_pure (fun p e Rm s m args below meth c H locs cells slots Q ls C hl w => lv_lstore C.1 C.2.1 hd hl hn rfl (fun ls' hl' => w ls' (gk_la_st2 rfl (v := .long x) (gk_okL_spec C.2.2.2.2.2.2.2.2.2.2.1 hok) hl'))) kk
theorem ev_astore_n {n : Fin 4} {i : Nat} {v : Value} (hi : (n : Nat) = i) (hn : i < M.nL) (hok : gk_okL L = true) (hv : gk_isR v = true) (hL : gk_st L i v = L') (hd : decode M.cc pc = .ok (.astore_n n, 1)) (kk : EvW X M d k j (pc + 1) L' st S R) : EvW X M d k j pc L (v :: st) S R := by
  subst hL
  refine ev_pure (fun p e Rm s m args below meth c H locs cells slots Q ls C hl w => ?_) kk
  have hk := gk_okL_spec C.2.2.2.2.2.2.2.2.2.2.1 hok
  have w2 : ∀ ls' : Array Slot, lv_has ls' M.nL ((i, gk_v X v) :: (gk_la X L).filter (fun q => !(q.1 == i) && !(q.1 + 1 == i && q.2.category == 2))) → _ := fun ls' hl' => w ls' (gk_la_st1 (v := v) hk hl')
  rcases gk_isR_spec C.2.2.2.2.2.2.2.2.2.2.1 hv with e1 | ⟨a, e1⟩
  · rw [e1] at w2
    rw [List.map_cons, e1]
    exact lv_astore_nN C.1 C.2.1 hd hi hl hn rfl w2
  · rw [e1] at w2
    rw [List.map_cons, e1]
    exact lv_astore_n C.1 C.2.1 hd hi hl hn rfl w2
theorem ev_astore {i : Nat} {v : Value} (hn : i < M.nL) (hok : gk_okL L = true) (hv : gk_isR v = true) (hL : gk_st L i v = L') (hd : decode M.cc pc = .ok (.astore i, 2)) (kk : EvW X M d k j (pc + 2) L' st S R) : EvW X M d k j pc L (v :: st) S R := by
  subst hL
  refine ev_pure (fun p e Rm s m args below meth c H locs cells slots Q ls C hl w => ?_) kk
  have hk := gk_okL_spec C.2.2.2.2.2.2.2.2.2.2.1 hok
  have w2 : ∀ ls' : Array Slot, lv_has ls' M.nL ((i, gk_v X v) :: (gk_la X L).filter (fun q => !(q.1 == i) && !(q.1 + 1 == i && q.2.category == 2))) → _ := fun ls' hl' => w ls' (gk_la_st1 (v := v) hk hl')
  rcases gk_isR_spec C.2.2.2.2.2.2.2.2.2.2.1 hv with e1 | ⟨a, e1⟩
  · rw [e1] at w2
    rw [List.map_cons, e1]
    exact lv_astoreN C.1 C.2.1 hd hl hn rfl w2
  · rw [e1] at w2
    rw [List.map_cons, e1]
    exact lv_astore C.1 C.2.1 hd hl hn rfl w2
theorem ev_iinc {i : Nat} {n : Int} {x v : Int32} (hx : L[i]? = some (some (.int x))) (hv : x + Int32.ofInt n = v) (hn : i < M.nL) (hok : gk_okL L = true) (hL : gk_st L i (.int v) = L') (hd : decode M.cc pc = .ok (.iinc i n, 3)) (kk : EvW X M d k j (pc + 3) L' st S R) : EvW X M d k j pc L st S R := by
  subst hL
  refine ev_pure (fun p e Rm s m args below meth c H locs cells slots Q ls C hl w => ?_) kk
  obtain ⟨k9, hk9⟩ := List.getElem?_of_mem (gk_la_mem (X := X) hx)
  exact lv_iinc C.1 C.2.1 hd hl (k := k9) hk9 hv hn rfl (fun ls' hl' => w ls' (gk_la_st1 (v := .int v) (gk_okL_spec C.2.2.2.2.2.2.2.2.2.2.1 hok) hl'))
theorem ev_iadd {x y : Int32} (hd : decode M.cc pc = .ok (.iadd, 1)) (kk : EvW X M d k j (pc + 1) L (.int (x + y) :: st) S R) : EvW X M d k j pc L (.int y :: .int x :: st) S R := ev_pure (fun p e Rm s m args below meth c H locs cells slots Q ls C hl w => lv_iadd C.1 C.2.1 hd (w ls hl)) kk
theorem ev_isub {x y : Int32} (hd : decode M.cc pc = .ok (.isub, 1)) (kk : EvW X M d k j (pc + 1) L (.int (x - y) :: st) S R) : EvW X M d k j pc L (.int y :: .int x :: st) S R := ev_pure (fun p e Rm s m args below meth c H locs cells slots Q ls C hl w => lv_isub C.1 C.2.1 hd (w ls hl)) kk
theorem ev_imul {x y : Int32} (hd : decode M.cc pc = .ok (.imul, 1)) (kk : EvW X M d k j (pc + 1) L (.int (x * y) :: st) S R) : EvW X M d k j pc L (.int y :: .int x :: st) S R := ev_pure (fun p e Rm s m args below meth c H locs cells slots Q ls C hl w => lv_imul C.1 C.2.1 hd (w ls hl)) kk
theorem ev_iand {x y : Int32} (hd : decode M.cc pc = .ok (.iand, 1)) (kk : EvW X M d k j (pc + 1) L (.int (x &&& y) :: st) S R) : EvW X M d k j pc L (.int y :: .int x :: st) S R := ev_pure (fun p e Rm s m args below meth c H locs cells slots Q ls C hl w => lv_iand C.1 C.2.1 hd (w ls hl)) kk
theorem ev_ior {x y : Int32} (hd : decode M.cc pc = .ok (.ior, 1)) (kk : EvW X M d k j (pc + 1) L (.int (x ||| y) :: st) S R) : EvW X M d k j pc L (.int y :: .int x :: st) S R := ev_pure (fun p e Rm s m args below meth c H locs cells slots Q ls C hl w => lv_ior C.1 C.2.1 hd (w ls hl)) kk
theorem ev_ixor {x y : Int32} (hd : decode M.cc pc = .ok (.ixor, 1)) (kk : EvW X M d k j (pc + 1) L (.int (x ^^^ y) :: st) S R) : EvW X M d k j pc L (.int y :: .int x :: st) S R := ev_pure (fun p e Rm s m args below meth c H locs cells slots Q ls C hl w => lv_ixor C.1 C.2.1 hd (w ls hl)) kk
theorem ev_ladd {x y : Int64} (hd : decode M.cc pc = .ok (.ladd, 1)) (kk : EvW X M d k j (pc + 1) L (.long (x + y) :: st) S R) : EvW X M d k j pc L (.long y :: .long x :: st) S R := ev_pure (fun p e Rm s m args below meth c H locs cells slots Q ls C hl w => lv_ladd C.1 C.2.1 hd (w ls hl)) kk
theorem ev_lsub {x y : Int64} (hd : decode M.cc pc = .ok (.lsub, 1)) (kk : EvW X M d k j (pc + 1) L (.long (x - y) :: st) S R) : EvW X M d k j pc L (.long y :: .long x :: st) S R := ev_pure (fun p e Rm s m args below meth c H locs cells slots Q ls C hl w => lv_lsub C.1 C.2.1 hd (w ls hl)) kk
theorem ev_lmul {x y : Int64} (hd : decode M.cc pc = .ok (.lmul, 1)) (kk : EvW X M d k j (pc + 1) L (.long (x * y) :: st) S R) : EvW X M d k j pc L (.long y :: .long x :: st) S R := ev_pure (fun p e Rm s m args below meth c H locs cells slots Q ls C hl w => lv_lmul C.1 C.2.1 hd (w ls hl)) kk
theorem ev_land {x y : Int64} (hd : decode M.cc pc = .ok (.land, 1)) (kk : EvW X M d k j (pc + 1) L (.long (x &&& y) :: st) S R) : EvW X M d k j pc L (.long y :: .long x :: st) S R := ev_pure (fun p e Rm s m args below meth c H locs cells slots Q ls C hl w => lv_land C.1 C.2.1 hd (w ls hl)) kk
theorem ev_lor {x y : Int64} (hd : decode M.cc pc = .ok (.lor, 1)) (kk : EvW X M d k j (pc + 1) L (.long (x ||| y) :: st) S R) : EvW X M d k j pc L (.long y :: .long x :: st) S R := ev_pure (fun p e Rm s m args below meth c H locs cells slots Q ls C hl w => lv_lor C.1 C.2.1 hd (w ls hl)) kk
theorem ev_lxor {x y : Int64} (hd : decode M.cc pc = .ok (.lxor, 1)) (kk : EvW X M d k j (pc + 1) L (.long (x ^^^ y) :: st) S R) : EvW X M d k j pc L (.long y :: .long x :: st) S R := ev_pure (fun p e Rm s m args below meth c H locs cells slots Q ls C hl w => lv_lxor C.1 C.2.1 hd (w ls hl)) kk
theorem ev_idiv {x y : Int32} (hne : ¬ y = 0) (hd : decode M.cc pc = .ok (.idiv, 1)) (kk : EvW X M d k j (pc + 1) L (.int (x / y) :: st) S R) : EvW X M d k j pc L (.int y :: .int x :: st) S R := ev_pure (fun p e Rm s m args below meth c H locs cells slots Q ls C hl w => lv_idiv C.1 C.2.1 hd hne (w ls hl)) kk
theorem ev_irem {x y : Int32} (hne : ¬ y = 0) (hd : decode M.cc pc = .ok (.irem, 1)) (kk : EvW X M d k j (pc + 1) L (.int (x - x / y * y) :: st) S R) : EvW X M d k j pc L (.int y :: .int x :: st) S R := ev_pure (fun p e Rm s m args below meth c H locs cells slots Q ls C hl w => lv_irem C.1 C.2.1 hd hne (w ls hl)) kk
theorem ev_ldiv {x y : Int64} (hne : ¬ y = 0) (hd : decode M.cc pc = .ok (.ldiv, 1)) (kk : EvW X M d k j (pc + 1) L (.long (x / y) :: st) S R) : EvW X M d k j pc L (.long y :: .long x :: st) S R := ev_pure (fun p e Rm s m args below meth c H locs cells slots Q ls C hl w => lv_ldiv C.1 C.2.1 hd hne (w ls hl)) kk
theorem ev_lrem {x y : Int64} (hne : ¬ y = 0) (hd : decode M.cc pc = .ok (.lrem, 1)) (kk : EvW X M d k j (pc + 1) L (.long (x - x / y * y) :: st) S R) : EvW X M d k j pc L (.long y :: .long x :: st) S R := ev_pure (fun p e Rm s m args below meth c H locs cells slots Q ls C hl w => lv_lrem C.1 C.2.1 hd hne (w ls hl)) kk
theorem ev_ineg {x : Int32} (hd : decode M.cc pc = .ok (.ineg, 1)) (kk : EvW X M d k j (pc + 1) L (.int (-x) :: st) S R) : EvW X M d k j pc L (.int x :: st) S R := ev_pure (fun p e Rm s m args below meth c H locs cells slots Q ls C hl w => lv_ineg C.1 C.2.1 hd (w ls hl)) kk
theorem ev_ishl {x y : Int32} (hd : decode M.cc pc = .ok (.ishl, 1)) (kk : EvW X M d k j (pc + 1) L (.int (x <<< (y &&& 31)) :: st) S R) : EvW X M d k j pc L (.int y :: .int x :: st) S R := ev_pure (fun p e Rm s m args below meth c H locs cells slots Q ls C hl w => lv_ishl C.1 C.2.1 hd (w ls hl)) kk
theorem ev_ishr {x y : Int32} (hd : decode M.cc pc = .ok (.ishr, 1)) (kk : EvW X M d k j (pc + 1) L (.int (x >>> (y &&& 31)) :: st) S R) : EvW X M d k j pc L (.int y :: .int x :: st) S R := ev_pure (fun p e Rm s m args below meth c H locs cells slots Q ls C hl w => lv_ishr C.1 C.2.1 hd (w ls hl)) kk
theorem ev_iushr {x y : Int32} (hd : decode M.cc pc = .ok (.iushr, 1)) (kk : EvW X M d k j (pc + 1) L (.int ((x.toUInt32 >>> (y.toUInt32 &&& Int32.toUInt32 31)).toInt32) :: st) S R) : EvW X M d k j pc L (.int y :: .int x :: st) S R := ev_pure (fun p e Rm s m args below meth c H locs cells slots Q ls C hl w => lv_iushr C.1 C.2.1 hd rfl (w ls hl)) kk
theorem ev_lushr {x : Int64} {y : Int32} (hd : decode M.cc pc = .ok (.lushr, 1)) (kk : EvW X M d k j (pc + 1) L (.long ((x.toUInt64 >>> (y.toInt64.toUInt64 &&& Int64.toUInt64 63)).toInt64) :: st) S R) : EvW X M d k j pc L (.int y :: .long x :: st) S R := ev_pure (fun p e Rm s m args below meth c H locs cells slots Q ls C hl w => lv_lushr C.1 C.2.1 hd rfl (w ls hl)) kk
theorem ev_lshl {x : Int64} {y : Int32} (hd : decode M.cc pc = .ok (.lshl, 1)) (kk : EvW X M d k j (pc + 1) L (.long (x <<< (y.toInt64 &&& 63)) :: st) S R) : EvW X M d k j pc L (.int y :: .long x :: st) S R := ev_pure (fun p e Rm s m args below meth c H locs cells slots Q ls C hl w => lv_lshl C.1 C.2.1 hd rfl (w ls hl)) kk
theorem ev_lshr {x : Int64} {y : Int32} (hd : decode M.cc pc = .ok (.lshr, 1)) (kk : EvW X M d k j (pc + 1) L (.long (x >>> (y.toInt64 &&& 63)) :: st) S R) : EvW X M d k j pc L (.int y :: .long x :: st) S R := ev_pure (fun p e Rm s m args below meth c H locs cells slots Q ls C hl w => lv_lshr C.1 C.2.1 hd rfl (w ls hl)) kk
theorem ev_i2l {x : Int32} (hd : decode M.cc pc = .ok (.i2l, 1)) (kk : EvW X M d k j (pc + 1) L (.long x.toInt64 :: st) S R) : EvW X M d k j pc L (.int x :: st) S R := ev_pure (fun p e Rm s m args below meth c H locs cells slots Q ls C hl w => lv_i2l C.1 C.2.1 hd rfl (w ls hl)) kk
theorem ev_l2i {x : Int64} (hd : decode M.cc pc = .ok (.l2i, 1)) (kk : EvW X M d k j (pc + 1) L (.int x.toInt32 :: st) S R) : EvW X M d k j pc L (.long x :: st) S R := ev_pure (fun p e Rm s m args below meth c H locs cells slots Q ls C hl w => lv_l2i C.1 C.2.1 hd rfl (w ls hl)) kk
theorem ev_i2b {x : Int32} (hd : decode M.cc pc = .ok (.i2b, 1)) (kk : EvW X M d k j (pc + 1) L (.int x.toInt8.toInt32 :: st) S R) : EvW X M d k j pc L (.int x :: st) S R := ev_pure (fun p e Rm s m args below meth c H locs cells slots Q ls C hl w => lv_i2b C.1 C.2.1 hd rfl (w ls hl)) kk
theorem ev_i2c {x : Int32} (hd : decode M.cc pc = .ok (.i2c, 1)) (kk : EvW X M d k j (pc + 1) L (.int (x.toUInt32 % 65536).toInt32 :: st) S R) : EvW X M d k j pc L (.int x :: st) S R := ev_pure (fun p e Rm s m args below meth c H locs cells slots Q ls C hl w => lv_i2c C.1 C.2.1 hd rfl (w ls hl)) kk
theorem ev_lcmp {x y : Int64} (hd : decode M.cc pc = .ok (.lcmp, 1)) (kk : EvW X M d k j (pc + 1) L (.int (lg_cmp x y) :: st) S R) : EvW X M d k j pc L (.long y :: .long x :: st) S R := ev_pure (fun p e Rm s m args below meth c H locs cells slots Q ls C hl w => W.lcmp C.1 C.2.1 hd (w ls hl)) kk
theorem ev_dup {v : Value} (hv : (∃ x, v = .int x) ∨ gk_isR v = true) (hd : decode M.cc pc = .ok (.dup, 1)) (kk : EvW X M d k j (pc + 1) L (v :: v :: st) S R) : EvW X M d k j pc L (v :: st) S R :=
  ev_pure (fun p e Rm s m args below meth c H locs cells slots Q ls C hl w => lv_dup C.1 C.2.1 hd (by rcases hv with ⟨x, rfl⟩ | hv; exact rfl; exact gk_catR (gk_isR_spec C.2.2.2.2.2.2.2.2.2.2.1 hv)) (w ls hl)) kk
theorem ev_pop {v : Value} (hv : (∃ x, v = .int x) ∨ gk_isR v = true) (hd : decode M.cc pc = .ok (.pop, 1)) (kk : EvW X M d k j (pc + 1) L st S R) : EvW X M d k j pc L (v :: st) S R :=
  ev_pure (fun p e Rm s m args below meth c H locs cells slots Q ls C hl w => lv_pop C.1 C.2.1 hd (by rcases hv with ⟨x, rfl⟩ | hv; exact rfl; exact gk_catR (gk_isR_spec C.2.2.2.2.2.2.2.2.2.2.1 hv)) (w ls hl)) kk
theorem ev_dup2 {x : Int32} {v : Value} (hv : gk_isR v = true) (hd : decode M.cc pc = .ok (.dup2, 1)) (kk : EvW X M d k j (pc + 1) L (.int x :: v :: .int x :: v :: st) S R) : EvW X M d k j pc L (.int x :: v :: st) S R :=
  ev_pure (fun p e Rm s m args below meth c H locs cells slots Q ls C hl w => lv_dup2_11 C.1 C.2.1 hd rfl (gk_catR (gk_isR_spec C.2.2.2.2.2.2.2.2.2.2.1 hv)) (w ls hl)) kk
theorem ev_dupx1 {x : Int32} {v : Value} (hv : gk_isR v = true) (hd : decode M.cc pc = .ok (.dup_x1, 1)) (kk : EvW X M d k j (pc + 1) L (.int x :: v :: .int x :: st) S R) : EvW X M d k j pc L (.int x :: v :: st) S R :=
  ev_pure (fun p e Rm s m args below meth c H locs cells slots Q ls C hl w => lv_dup_x1 C.1 C.2.1 hd rfl (gk_catR (gk_isR_spec C.2.2.2.2.2.2.2.2.2.2.1 hv)) (w ls hl)) kk
theorem ev_goto {off : Int} {tgt : Nat} (ht : (pc : Int) + off = (tgt : Int)) (hd : decode M.cc pc = .ok (.goto off, 3)) (kk : EvW X M d k j tgt L st S R) : EvW X M d k j pc L st S R :=
  ev_pure (fun p e Rm s m args below meth c H locs cells slots Q ls C hl w => lv_goto C.1 C.2.1 hd ht (w ls hl)) kk
theorem ev_if_eq {x : Int32} {off : Int} {tgt : Nat} (ht : (pc : Int) + off = (tgt : Int)) (hd : decode M.cc pc = .ok (.ifCond .eq off, 3)) (kt : x = 0 → EvW X M d k j tgt L st S R) (kf : ¬ (x = 0) → EvW X M d k j (pc + 3) L st S R) : EvW X M d k j pc L (.int x :: st) S R :=
  fun p e Rm s m args below meth c H locs cells slots mc ms ls C r hH hS hc hl => lv_if_eq C.1 C.2.1 hd ht (fun h => kt h p e Rm s m args below meth c H locs cells slots mc ms ls C r hH hS hc hl) (fun h => kf h p e Rm s m args below meth c H locs cells slots mc ms ls C r hH hS hc hl)
theorem ev_ic_eq {x y : Int32} {off : Int} {tgt : Nat} (ht : (pc : Int) + off = (tgt : Int)) (hd : decode M.cc pc = .ok (.if_icmp .eq off, 3)) (kt : x = y → EvW X M d k j tgt L st S R) (kf : ¬ (x = y) → EvW X M d k j (pc + 3) L st S R) : EvW X M d k j pc L (.int y :: .int x :: st) S R :=
  fun p e Rm s m args below meth c H locs cells slots mc ms ls C r hH hS hc hl => lv_icmp_eq C.1 C.2.1 hd ht (fun h => kt h p e Rm s m args below meth c H locs cells slots mc ms ls C r hH hS hc hl) (fun h => kf h p e Rm s m args below meth c H locs cells slots mc ms ls C r hH hS hc hl)
theorem ev_if_ne {x : Int32} {off : Int} {tgt : Nat} (ht : (pc : Int) + off = (tgt : Int)) (hd : decode M.cc pc = .ok (.ifCond .ne off, 3)) (kt : ¬ x = 0 → EvW X M d k j tgt L st S R) (kf : x = 0 → EvW X M d k j (pc + 3) L st S R) : EvW X M d k j pc L (.int x :: st) S R :=
  fun p e Rm s m args below meth c H locs cells slots mc ms ls C r hH hS hc hl => lv_if_ne C.1 C.2.1 hd ht (fun h => kt h p e Rm s m args below meth c H locs cells slots mc ms ls C r hH hS hc hl) (fun h => kf h p e Rm s m args below meth c H locs cells slots mc ms ls C r hH hS hc hl)
theorem ev_ic_ne {x y : Int32} {off : Int} {tgt : Nat} (ht : (pc : Int) + off = (tgt : Int)) (hd : decode M.cc pc = .ok (.if_icmp .ne off, 3)) (kt : ¬ x = y → EvW X M d k j tgt L st S R) (kf : x = y → EvW X M d k j (pc + 3) L st S R) : EvW X M d k j pc L (.int y :: .int x :: st) S R :=
  fun p e Rm s m args below meth c H locs cells slots mc ms ls C r hH hS hc hl => lv_icmp_ne C.1 C.2.1 hd ht (fun h => kt h p e Rm s m args below meth c H locs cells slots mc ms ls C r hH hS hc hl) (fun h => kf h p e Rm s m args below meth c H locs cells slots mc ms ls C r hH hS hc hl)
theorem ev_if_lt {x : Int32} {off : Int} {tgt : Nat} (ht : (pc : Int) + off = (tgt : Int)) (hd : decode M.cc pc = .ok (.ifCond .lt off, 3)) (kt : x < 0 → EvW X M d k j tgt L st S R) (kf : ¬ (x < 0) → EvW X M d k j (pc + 3) L st S R) : EvW X M d k j pc L (.int x :: st) S R :=
  fun p e Rm s m args below meth c H locs cells slots mc ms ls C r hH hS hc hl => lv_if_lt C.1 C.2.1 hd ht (fun h => kt h p e Rm s m args below meth c H locs cells slots mc ms ls C r hH hS hc hl) (fun h => kf h p e Rm s m args below meth c H locs cells slots mc ms ls C r hH hS hc hl)
theorem ev_ic_lt {x y : Int32} {off : Int} {tgt : Nat} (ht : (pc : Int) + off = (tgt : Int)) (hd : decode M.cc pc = .ok (.if_icmp .lt off, 3)) (kt : x < y → EvW X M d k j tgt L st S R) (kf : ¬ (x < y) → EvW X M d k j (pc + 3) L st S R) : EvW X M d k j pc L (.int y :: .int x :: st) S R :=
  fun p e Rm s m args below meth c H locs cells slots mc ms ls C r hH hS hc hl => lv_icmp_lt C.1 C.2.1 hd ht (fun h => kt h p e Rm s m args below meth c H locs cells slots mc ms ls C r hH hS hc hl) (fun h => kf h p e Rm s m args below meth c H locs cells slots mc ms ls C r hH hS hc hl)
theorem ev_if_ge {x : Int32} {off : Int} {tgt : Nat} (ht : (pc : Int) + off = (tgt : Int)) (hd : decode M.cc pc = .ok (.ifCond .ge off, 3)) (kt : 0 ≤ x → EvW X M d k j tgt L st S R) (kf : ¬ (0 ≤ x) → EvW X M d k j (pc + 3) L st S R) : EvW X M d k j pc L (.int x :: st) S R :=
  fun p e Rm s m args below meth c H locs cells slots mc ms ls C r hH hS hc hl => lv_if_ge C.1 C.2.1 hd ht (fun h => kt h p e Rm s m args below meth c H locs cells slots mc ms ls C r hH hS hc hl) (fun h => kf h p e Rm s m args below meth c H locs cells slots mc ms ls C r hH hS hc hl)
theorem ev_ic_ge {x y : Int32} {off : Int} {tgt : Nat} (ht : (pc : Int) + off = (tgt : Int)) (hd : decode M.cc pc = .ok (.if_icmp .ge off, 3)) (kt : y ≤ x → EvW X M d k j tgt L st S R) (kf : ¬ (y ≤ x) → EvW X M d k j (pc + 3) L st S R) : EvW X M d k j pc L (.int y :: .int x :: st) S R :=
  fun p e Rm s m args below meth c H locs cells slots mc ms ls C r hH hS hc hl => lv_icmp_ge C.1 C.2.1 hd ht (fun h => kt h p e Rm s m args below meth c H locs cells slots mc ms ls C r hH hS hc hl) (fun h => kf h p e Rm s m args below meth c H locs cells slots mc ms ls C r hH hS hc hl)
theorem ev_if_gt {x : Int32} {off : Int} {tgt : Nat} (ht : (pc : Int) + off = (tgt : Int)) (hd : decode M.cc pc = .ok (.ifCond .gt off, 3)) (kt : 0 < x → EvW X M d k j tgt L st S R) (kf : ¬ (0 < x) → EvW X M d k j (pc + 3) L st S R) : EvW X M d k j pc L (.int x :: st) S R :=
  fun p e Rm s m args below meth c H locs cells slots mc ms ls C r hH hS hc hl => lv_if_gt C.1 C.2.1 hd ht (fun h => kt h p e Rm s m args below meth c H locs cells slots mc ms ls C r hH hS hc hl) (fun h => kf h p e Rm s m args below meth c H locs cells slots mc ms ls C r hH hS hc hl)
theorem ev_ic_gt {x y : Int32} {off : Int} {tgt : Nat} (ht : (pc : Int) + off = (tgt : Int)) (hd : decode M.cc pc = .ok (.if_icmp .gt off, 3)) (kt : y < x → EvW X M d k j tgt L st S R) (kf : ¬ (y < x) → EvW X M d k j (pc + 3) L st S R) : EvW X M d k j pc L (.int y :: .int x :: st) S R :=
  fun p e Rm s m args below meth c H locs cells slots mc ms ls C r hH hS hc hl => lv_icmp_gt C.1 C.2.1 hd ht (fun h => kt h p e Rm s m args below meth c H locs cells slots mc ms ls C r hH hS hc hl) (fun h => kf h p e Rm s m args below meth c H locs cells slots mc ms ls C r hH hS hc hl)
theorem ev_if_le {x : Int32} {off : Int} {tgt : Nat} (ht : (pc : Int) + off = (tgt : Int)) (hd : decode M.cc pc = .ok (.ifCond .le off, 3)) (kt : x ≤ 0 → EvW X M d k j tgt L st S R) (kf : ¬ (x ≤ 0) → EvW X M d k j (pc + 3) L st S R) : EvW X M d k j pc L (.int x :: st) S R :=
  fun p e Rm s m args below meth c H locs cells slots mc ms ls C r hH hS hc hl => lv_if_le C.1 C.2.1 hd ht (fun h => kt h p e Rm s m args below meth c H locs cells slots mc ms ls C r hH hS hc hl) (fun h => kf h p e Rm s m args below meth c H locs cells slots mc ms ls C r hH hS hc hl)
theorem ev_ic_le {x y : Int32} {off : Int} {tgt : Nat} (ht : (pc : Int) + off = (tgt : Int)) (hd : decode M.cc pc = .ok (.if_icmp .le off, 3)) (kt : x ≤ y → EvW X M d k j tgt L st S R) (kf : ¬ (x ≤ y) → EvW X M d k j (pc + 3) L st S R) : EvW X M d k j pc L (.int y :: .int x :: st) S R :=
  fun p e Rm s m args below meth c H locs cells slots mc ms ls C r hH hS hc hl => lv_icmp_le C.1 C.2.1 hd ht (fun h => kt h p e Rm s m args below meth c H locs cells slots mc ms ls C r hH hS hc hl) (fun h => kf h p e Rm s m args below meth c H locs cells slots mc ms ls C r hH hS hc hl)
theorem ev_lookup {dflt : Int} {ps : Array (Int × Int)} {len : Nat} {x : Int32} {off : Int} {tgt : Nat} (hp : (ps.toList.zip (ps.toList.drop 1)).all (fun (a, next) => a.1 < next.1) = true) (ho : Op.lookupswitch.offset ps.toList dflt x.toInt = off) (ht : (pc : Int) + off = (tgt : Int)) (hd : decode M.cc pc = .ok (.lookupswitch dflt ps, len)) (kk : EvW X M d k j tgt L st S R) : EvW X M d k j pc L (.int x :: st) S R :=
  fun p e Rm s m args below meth c H locs cells slots mc ms ls C r hH hS hc hl => lv_lookup C.1 C.2.1 hd hp ho ht (kk p e Rm s m args below meth c H locs cells slots mc ms ls C r hH hS hc hl)
theorem ev_tableOut {dflt lo hi : Int} {offs : Array Int} {len : Nat} {x : Int32} {tgt : Nat} (h : x.toInt < lo ∨ hi < x.toInt) (ht : (pc : Int) + dflt = (tgt : Int)) (hd : decode M.cc pc = .ok (.tableswitch dflt lo hi offs, len)) (kk : EvW X M d k j tgt L st S R) : EvW X M d k j pc L (.int x :: st) S R :=
  fun p e Rm s m args below meth c H locs cells slots mc ms ls C r hH hS hc hl => lv_tableOut C.1 C.2.1 hd h ht (kk p e Rm s m args below meth c H locs cells slots mc ms ls C r hH hS hc hl)
theorem ev_tableIn {dflt lo hi : Int} {offs : Array Int} {len : Nat} {x : Int32} {off : Int} {tgt : Nat} (h1 : ¬ x.toInt < lo) (h2 : ¬ hi < x.toInt) (ho : offs[(x.toInt - lo).toNat]? = some off) (ht : (pc : Int) + off = (tgt : Int)) (hd : decode M.cc pc = .ok (.tableswitch dflt lo hi offs, len)) (kk : EvW X M d k j tgt L st S R) : EvW X M d k j pc L (.int x :: st) S R :=
  fun p e Rm s m args below meth c H locs cells slots mc ms ls C r hH hS hc hl => lv_tableIn C.1 C.2.1 hd h1 h2 ho ht (kk p e Rm s m args below meth c H locs cells slots mc ms ls C r hH hS hc hl)
/-- less room asked, fewer cells made -/
theorem ev_mono {d' k' j' : Nat} (h1 : d' ≤ d) (h2 : k' ≤ k) (h3 : j' ≤ j) (kk : EvW X M d' k' j' pc L st S R) : EvW X M d k j pc L st S R :=
  fun p e Rm s m args below meth c H locs cells slots mc ms ls C r hH hS hc hl => kk p e Rm s m args below meth c H locs cells slots mc ms ls C ⟨Nat.le_trans h1 r.1, Nat.le_trans (Nat.mul_le_mul_left 64 h1) r.2⟩ hH hS ⟨Nat.le_trans (Nat.add_le_add_left h2 _) hc.1, Nat.le_trans (Nat.add_le_add_left h3 _) hc.2.1, hc.2.2.1, hc.2.2.2⟩ hl
/-- returns -/
theorem ev_ireturn {v : Int32} {ty : FieldType} (hr : M.rt = some ty) (hn : narrow ty (.int v) = .int v) (hR : R = (.inl (some (.int v)), S)) (hd : decode M.cc pc = .ok (.ireturn, 1)) : EvW X M d k j pc L [.int v] S R := by
  subst hR
  intro p e Rm s m args below meth c H locs cells slots mc ms ls C r hH hS hc hl
  refine W.widen (Nat.le_trans (Nat.le_add_right _ _) hc.1) (Nat.le_trans (Nat.le_add_right _ _) hc.2.1) (vx_ret ?_)
  exact W.zret C.1 C.2.1 (C.2.2.1.trans hr) hn (fun t ht hW => ⟨_, rfl, rfl, by rw [ht]; exact hH, hS.F ht⟩) hS.2.2 hd C.2.2.2.2.2.2.1
theorem ev_lreturn {v : Int64} (hr : M.rt = some .long) (hR : R = (.inl (some (.long v)), S)) (hd : decode M.cc pc = .ok (.lreturn, 1)) : EvW X M d k j pc L [.long v] S R := by
  subst hR
  intro p e Rm s m args below meth c H locs cells slots mc ms ls C r hH hS hc hl
  refine W.widen (Nat.le_trans (Nat.le_add_right _ _) hc.1) (Nat.le_trans (Nat.le_add_right _ _) hc.2.1) (vx_ret ?_)
  exact W.lret C.1 C.2.1 (C.2.2.1.trans hr) (fun t ht hW => ⟨_, rfl, rfl, by rw [ht]; exact hH, hS.F ht⟩) hS.2.2 hd C.2.2.2.2.2.2.1
theorem ev_return (hr : M.rt = none) (hR : R = (.inl none, S)) (hd : decode M.cc pc = .ok (.return_, 1)) : EvW X M d k j pc L [] S R := by
  subst hR
  intro p e Rm s m args below meth c H locs cells slots mc ms ls C r hH hS hc hl
  refine W.widen (Nat.le_trans (Nat.le_add_right _ _) hc.1) (Nat.le_trans (Nat.le_add_right _ _) hc.2.1) (vx_ret ?_)
  exact W.vret C.1 C.2.1 (C.2.2.1.trans hr) (fun t ht hW => ⟨_, rfl, rfl, by rw [ht]; exact hH, hS.F ht⟩) hS.2.2 hd C.2.2.2.2.2.2.1
theorem ev_areturn {v : Value} {rt : FieldType} (hr : M.rt = some rt) (hrt : (∃ n, rt = .object n) ∨ ∃ t, rt = .array t) (hv : gk_isR v = true) (hR : R = (.inl (some v), S)) (hd : decode M.cc pc = .ok (.areturn, 1)) : EvW X M d k j pc L [v] S R := by
  subst hR
  intro p e Rm s m args below meth c H locs cells slots mc ms ls C r hH hS hc hl
  refine W.widen (Nat.le_trans (Nat.le_add_right _ _) hc.1) (Nat.le_trans (Nat.le_add_right _ _) hc.2.1) (vx_ret ?_)
  exact W.aret C.1 C.2.1 (C.2.2.1.trans hr) hrt (gk_isR_spec C.2.2.2.2.2.2.2.2.2.2.1 hv) (fun t ht hW => ⟨_, rfl, rfl, by rw [ht]; exact hH, hS.F ht⟩) hS.2.2 hd C.2.2.2.2.2.2.1
end EVP
