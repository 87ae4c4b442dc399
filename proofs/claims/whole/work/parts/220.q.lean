theorem is_sI {S T : gk_S} {f a b kd : Nat} {v : Int32} (h : gk_is S b kd) (e : sI S f a v = T) : gk_is T b kd := by subst e; exact h
theorem is_sJ {S T : gk_S} {f a b kd : Nat} {v : Int64} (h : gk_is S b kd) (e : sJ S f a v = T) : gk_is T b kd := by subst e; exact h
theorem is_sP {S T : gk_S} {f a b kd : Nat} {v : Option Nat} (h : gk_is S b kd) (e : sP S f a v = T) : gk_is T b kd := by subst e; exact h
theorem is_wI {S T : gk_S} {a b kd : Nat} {i v : Int32} (h : gk_is S b kd) (e : wI S a i v = T) : gk_is T b kd := by subst e; exact h
theorem is_wB {S T : gk_S} {a b kd : Nat} {i v : Int32} (h : gk_is S b kd) (e : wB S a i v = T) : gk_is T b kd := by subst e; exact h
theorem is_wJ {S T : gk_S} {a b kd : Nat} {i : Int32} {v : Int64} (h : gk_is S b kd) (e : wJ S a i v = T) : gk_is T b kd := by subst e; exact h
theorem is_wP {S T : gk_S} {a b kd : Nat} {i : Int32} {v : Nat} (h : gk_is S b kd) (e : wP S a i v = T) : gk_is T b kd := by subst e; exact h
/-! results -/
abbrev qRI (r : Int32 × gk_S) : gk_R := (.inl (some (.int r.1)), r.2)
abbrev qRJ (r : Int64 × gk_S) : gk_R := (.inl (some (.long r.1)), r.2)
abbrev qRP (r : Nat × gk_S) : gk_R := (.inl (some (.ref r.1)), r.2)
abbrev qRT (r : Nat × gk_S) : gk_R := (.inl (some (.retAddr (10 + r.1))), r.2)
abbrev qRU (r : Unit × gk_S) : gk_R := (.inl none, r.2)
def qXI (r : (Int32 ⊕ String) × gk_S) : gk_R := match r with
  | (.inl v, S) => (.inl (some (.int v)), S)
  | (.inr E, S) => (.inr E, S)
def qXU (r : (Unit ⊕ String) × gk_S) : gk_R := match r with
  | (.inl _, S) => (.inl none, S)
  | (.inr E, S) => (.inr E, S)
/-- a throw costs a cell and six slots -/
def qb {α : Type} (r : (α ⊕ String) × gk_S) (k j : Nat) : Prop := ∀ E, r.1 = .inr E → 1 ≤ k ∧ 6 ≤ j
theorem qb_inl {α : Type} {v : α} {S : gk_S} {k j : Nat} : qb (.inl v, S) k j := fun _ h => by cases h
theorem qb_inr {α : Type} {E : String} {S : gk_S} {k j : Nat} (h : qb (α := α) (.inr E, S) k j) : 1 ≤ k ∧ 6 ≤ j := h E rfl
/-! what is known of the locals may be forgotten -/
def qL (L L' : List (Option Value)) : Prop := ∀ (i : Nat) (v : Value), L[i]? = some (some v) → L'[i]? = some (some v)
theorem qL_nil {L : List (Option Value)} : qL [] L := fun i v h => by cases i <;> cases h
theorem qL_n {x : Option Value} {L L' : List (Option Value)} (h : qL L L') : qL (none :: L) (x :: L') := fun i v e => by
  cases i with
  | zero => cases e
  | succ i => exact h i v e
theorem qL_s {x : Option Value} {L L' : List (Option Value)} (h : qL L L') : qL (x :: L) (x :: L') := fun i v e => by
  cases i with
  | zero => exact e
  | succ i => exact h i v e
section QV
variable {X : gk_X} {M N : gk_M} {d k j pc : Nat} {L L' : List (Option Value)} {st : List Value} {S : gk_S} {R : gk_R}
theorem ev_weak (hL : qL L L') (kk : EvW X M d k j pc L st S R) : EvW X M d k j pc L' st S R :=
  fun p e Rm s m args below meth c H locs cells slots mc ms ls C r hH hS hc hl => kk p e Rm s m args below meth c H locs cells slots mc ms ls C r hH hS hc (lv_mono hl fun q hq => by
    obtain ⟨v, hv, e9⟩ := gk_la_inv hq
    have h9 := gk_la_mem (X := X) (hL _ _ hv)
    rw [← e9] at h9
    exact h9)
theorem yv_iast {a : Nat} {i x : Int32} {T : gk_S} (hs : gk_is S a 11) (hin : vp_in i (gL S a)) (hT : wI S a i x = T) (hd : decode M.cc pc = .ok (.iastore, 1)) (kk : EvW X M d k j (pc + 1) L st T R) : EvW X M d k j pc L (.int x :: .int i :: .ref a :: st) S R := by
  subst hT
  exact ev_iast hs hin hd kk
theorem yv_bast {a : Nat} {i x : Int32} {T : gk_S} (hs : gk_is S a 10) (hin : vp_in i (gL S a)) (hT : wB S a i x = T) (hd : decode M.cc pc = .ok (.bastore, 1)) (kk : EvW X M d k j (pc + 1) L st T R) : EvW X M d k j pc L (.int x :: .int i :: .ref a :: st) S R := by
  subst hT
  exact ev_bast hs hin hd kk
theorem yv_zast {a : Nat} {i x : Int32} {T : gk_S} (hs : gk_is S a 13) (hx : zb x = true) (hin : vp_in i (gL S a)) (hT : wI S a i x = T) (hd : decode M.cc pc = .ok (.bastore, 1)) (kk : EvW X M d k j (pc + 1) L st T R) : EvW X M d k j pc L (.int x :: .int i :: .ref a :: st) S R := by
  subst hT
  exact ev_zast hs (zb_el hx) hin hd kk
theorem yv_last {a : Nat} {i : Int32} {x : Int64} {T : gk_S} (hs : gk_is S a 12) (hin : vp_in i (gL S a)) (hT : wJ S a i x = T) (hd : decode M.cc pc = .ok (.lastore, 1)) (kk : EvW X M d k j (pc + 1) L st T R) : EvW X M d k j pc L (.long x :: .int i :: .ref a :: st) S R := by
  subst hT
  exact ev_last hs hin hd kk
theorem yv_aast {a b kd : Nat} {i : Int32} {T : gk_S} (hs : gk_is S a kd) (hk : 14 ≤ kd ∧ kd ≤ 16) (hb : gk_is S b (gk_cA kd)) (hin : vp_in i (gL S a)) (hT : wP S a i b = T) (hd : decode M.cc pc = .ok (.aastore, 1)) (kk : EvW X M d k j (pc + 1) L st T R) : EvW X M d k j pc L (.ref b :: .int i :: .ref a :: st) S R := by
  subst hT
  exact ev_aast hs hk hb hin hd kk
theorem yv_putI {ci f fn a idx : Nat} {x : Int32} {T : gk_S} (hF : gk_FI ci f fn false) (hn : narrow (gk_ty ci f) (.int x) = .int x ∧ fits (gk_ty ci f) (.int x) = true) (hs : gk_is S a ci) (hT : sI S fn a x = T) (hw : Cond.fieldLink M.y.cls idx ((gk_q ci).2.1 f).1 ((gk_q ci).2.1 f).2.1 ((gk_q ci).2.1 f).2.2.1 ∈ gG) (hd : decode M.cc pc = .ok (.putfield idx, 3)) (kk : EvW X M d k j (pc + 3) L st T R) : EvW X M d k j pc L (.int x :: .ref a :: st) S R := by
  subst hT
  exact xv_putI hF hn hs hw hd kk
theorem yv_putJ {ci f fn a idx : Nat} {x : Int64} {T : gk_S} (hF : gk_FJ ci f fn false) (hs : gk_is S a ci) (hT : sJ S fn a x = T) (hw : Cond.fieldLink M.y.cls idx ((gk_q ci).2.1 f).1 ((gk_q ci).2.1 f).2.1 ((gk_q ci).2.1 f).2.2.1 ∈ gG) (hd : decode M.cc pc = .ok (.putfield idx, 3)) (kk : EvW X M d k j (pc + 3) L st T R) : EvW X M d k j pc L (.long x :: .ref a :: st) S R := by
  subst hT
  exact xv_putJ hF hs hw hd kk
theorem yv_putP {ci f fn a b idx : Nat} {T : gk_S} (hF : gk_FP ci f fn false) (hs : gk_is S a ci) (hT : sP S fn a (some b) = T) (hw : Cond.fieldLink M.y.cls idx ((gk_q ci).2.1 f).1 ((gk_q ci).2.1 f).2.1 ((gk_q ci).2.1 f).2.2.1 ∈ gG) (hd : decode M.cc pc = .ok (.putfield idx, 3)) (kk : EvW X M d k j (pc + 3) L st T R) : EvW X M d k j pc L (.ref b :: .ref a :: st) S R := by
  subst hT
  exact xv_putP hF hs hw hd kk
theorem yv_putPF {ci f fn a b idx : Nat} {T : gk_S} (hF : gk_FP ci f fn true) (hin2 : M.y.name = "<init>") (hdecl : ((gk_q ci).2.1 f).1 = M.y.cls) (hs : gk_is S a ci) (hT : sP S fn a (some b) = T) (hw : Cond.fieldLink M.y.cls idx ((gk_q ci).2.1 f).1 ((gk_q ci).2.1 f).2.1 ((gk_q ci).2.1 f).2.2.1 ∈ gG) (hd : decode M.cc pc = .ok (.putfield idx, 3)) (kk : EvW X M d k j (pc + 3) L st T R) : EvW X M d k j pc L (.ref b :: .ref a :: st) S R := by
  subst hT
  exact xv_putPF hF hin2 hdecl hs hw hd kk
theorem yv_iald {a : Nat} {i x : Int32} (hs : gk_is S a 11) (hin : vp_in i (gL S a)) (hv : aI S a i = x) (hd : decode M.cc pc = .ok (.iaload, 1)) (kk : EvW X M d k j (pc + 1) L (.int x :: st) S R) : EvW X M d k j pc L (.int i :: .ref a :: st) S R := xv_iald hs hin hv hd kk
theorem yv_bald {a : Nat} {i x : Int32} (hs : gk_is S a 10) (hin : vp_in i (gL S a)) (hv : aI S a i = x) (hd : decode M.cc pc = .ok (.baload, 1)) (kk : EvW X M d k j (pc + 1) L (.int x :: st) S R) : EvW X M d k j pc L (.int i :: .ref a :: st) S R := xv_bald hs hin hv hd kk
theorem yv_zald {a : Nat} {i x : Int32} (hs : gk_is S a 13) (hin : vp_in i (gL S a)) (hv : aI S a i = x) (hd : decode M.cc pc = .ok (.baload, 1)) (kk : EvW X M d k j (pc + 1) L (.int x :: st) S R) : EvW X M d k j pc L (.int i :: .ref a :: st) S R := xv_zald hs hin hv hd kk
theorem yv_lald {a : Nat} {i : Int32} {x : Int64} (hs : gk_is S a 12) (hin : vp_in i (gL S a)) (hv : aJ S a i = x) (hd : decode M.cc pc = .ok (.laload, 1)) (kk : EvW X M d k j (pc + 1) L (.long x :: st) S R) : EvW X M d k j pc L (.int i :: .ref a :: st) S R := xv_lald hs hin hv hd kk
theorem yv_aald {a b kd : Nat} {i : Int32} (hs : gk_is S a kd) (hk : 14 ≤ kd ∧ kd ≤ 18) (hin : vp_in i (gL S a)) (hb : aP S a i = some b) (hd : decode M.cc pc = .ok (.aaload, 1)) (kk : EvW X M d k j (pc + 1) L (.ref b :: st) S R) : EvW X M d k j pc L (.int i :: .ref a :: st) S R := ev_aald hs hk hin hb hd kk
end QV
/-! a comparison of longs -/
theorem lc_lt {x y : Int64} (h : lg_cmp x y < 0) : x < y := (lg_cmp_lt x y).mp h
theorem lc_ltN {x y : Int64} (h : ¬ lg_cmp x y < 0) : ¬ x < y := fun q => h ((lg_cmp_lt x y).mpr q)
theorem lc_ge {x y : Int64} (h : 0 ≤ lg_cmp x y) : y ≤ x := (lg_cmp_ge x y).mp h
theorem lc_geN {x y : Int64} (h : ¬ 0 ≤ lg_cmp x y) : ¬ y ≤ x := fun q => h ((lg_cmp_ge x y).mpr q)
theorem lc_gt {x y : Int64} (h : 0 < lg_cmp x y) : y < x := (lg_cmp_gt x y).mp h
theorem lc_gtN {x y : Int64} (h : ¬ 0 < lg_cmp x y) : ¬ y < x := fun q => h ((lg_cmp_gt x y).mpr q)
theorem lc_le {x y : Int64} (h : lg_cmp x y ≤ 0) : x ≤ y := (lg_cmp_le x y).mp h
theorem lc_leN {x y : Int64} (h : ¬ lg_cmp x y ≤ 0) : ¬ x ≤ y := fun q => h ((lg_cmp_le x y).mpr q)
theorem lc_eq {x y : Int64} (h : lg_cmp x y = 0) : x = y := (lg_cmp_eq x y).mp h
theorem lc_eqN {x y : Int64} (h : ¬ lg_cmp x y = 0) : ¬ x = y := fun q => h ((lg_cmp_eq x y).mpr q)
/-! switches -/
theorem ti_ne {x y : Int32} {n : Int} (h : ¬ x = y) (e : y.toInt = n) : ¬ x.toInt = n := fun q => h (Int32.toInt_inj.mp (q.trans e.symm))
theorem lo_nil {d k : Int} : Op.lookupswitch.offset [] d k = d := rfl
theorem lo_ne {a o : Int} {r : List (Int × Int)} {d k z : Int} (h : ¬ k = a) (e : Op.lookupswitch.offset r d k = z) : Op.lookupswitch.offset ((a, o) :: r) d k = z := by
  rw [← e]
  exact if_neg (fun q => h q.symm)
