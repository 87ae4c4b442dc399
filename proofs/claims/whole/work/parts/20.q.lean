/-! FUNCTIONS THAT TELL WHAT A METHOD DOES: none where one of the machine's conditions doesn't hold -/
def qk {γ : Type} (b : Bool) (A : Option γ) : Option γ := bif b then A else none
def qv {α γ : Type} (x : α) (A : α → Option γ) : Option γ := A x
def qP {γ : Type} (o : Option Nat) (A : Nat → Option γ) : Option γ := o.bind A
def qc {α γ : Type} (o : Option (α × gk_S)) (A : α → gk_S → Option γ) : Option γ := o.bind fun q => A q.1 q.2
/-- a call that may throw -/
def qx {α β : Type} (o : Option ((α ⊕ String) × gk_S)) (A : α → gk_S → Option ((β ⊕ String) × gk_S)) : Option ((β ⊕ String) × gk_S) := match o with
  | none => none
  | some (.inr E, S) => some (.inr E, S)
  | some (.inl v, S) => A v S
/-- a call whose throw is caught -/
def qh {α γ : Type} (o : Option ((α ⊕ String) × gk_S)) (A : α → gk_S → Option γ) (B : String → gk_S → Option γ) : Option γ := match o with
  | none => none
  | some (.inr E, S) => B E S
  | some (.inl v, S) => A v S
theorem qk_el {γ : Type} {b : Bool} {A : Option γ} {r : γ} (h : qk b A = some r) : b = true ∧ A = some r := by
  cases b with
  | true => exact ⟨rfl, h⟩
  | false => cases h
theorem qk_pos {γ : Type} {b : Bool} {A : Option γ} (h : b = true) : qk b A = A := by rw [h]; rfl
theorem qv_el {α γ : Type} {x : α} {A : α → Option γ} {r : γ} (h : qv x A = some r) : ∃ y, x = y ∧ A y = some r := ⟨x, rfl, h⟩
theorem qv_eq {α γ : Type} (x : α) (A : α → Option γ) : qv x A = A x := rfl
theorem qP_el {γ : Type} {o : Option Nat} {A : Nat → Option γ} {r : γ} (h : qP o A = some r) : ∃ b, o = some b ∧ A b = some r := by
  cases o with
  | none => cases h
  | some b => exact ⟨b, rfl, h⟩
theorem qP_some {γ : Type} {o : Option Nat} {b : Nat} {A : Nat → Option γ} (h : o = some b) : qP o A = A b := by rw [h]; rfl
theorem qc_el {α γ : Type} {o : Option (α × gk_S)} {A : α → gk_S → Option γ} {r : γ} (h : qc o A = some r) : ∃ v S1, o = some (v, S1) ∧ A v S1 = some r := by
  cases o with
  | none => cases h
  | some q => exact ⟨q.1, q.2, rfl, h⟩
theorem qc_some {α γ : Type} {o : Option (α × gk_S)} {v : α} {S1 : gk_S} {A : α → gk_S → Option γ} (h : o = some (v, S1)) : qc o A = A v S1 := by rw [h]; rfl
theorem qx_el {α β : Type} {o : Option ((α ⊕ String) × gk_S)} {A : α → gk_S → Option ((β ⊕ String) × gk_S)} {r : (β ⊕ String) × gk_S} (h : qx o A = some r) : (∃ E S1, o = some (.inr E, S1) ∧ r = (.inr E, S1)) ∨ ∃ v S1, o = some (.inl v, S1) ∧ A v S1 = some r := by
  cases o with
  | none => cases h
  | some q =>
    obtain ⟨q1, q2⟩ := q
    cases q1 with
    | inl v => exact Or.inr ⟨v, q2, rfl, h⟩
    | inr E => exact Or.inl ⟨E, q2, rfl, (Option.some.inj h).symm⟩
theorem qx_inl {α β : Type} {o : Option ((α ⊕ String) × gk_S)} {A : α → gk_S → Option ((β ⊕ String) × gk_S)} {v : α} {S1 : gk_S} (h : o = some (.inl v, S1)) : qx o A = A v S1 := by rw [h]; rfl
theorem qx_inr {α β : Type} {o : Option ((α ⊕ String) × gk_S)} {A : α → gk_S → Option ((β ⊕ String) × gk_S)} {E : String} {S1 : gk_S} (h : o = some (.inr E, S1)) : qx o A = some (.inr E, S1) := by rw [h]; rfl
theorem qh_el {α γ : Type} {o : Option ((α ⊕ String) × gk_S)} {A : α → gk_S → Option γ} {B : String → gk_S → Option γ} {r : γ} (h : qh o A B = some r) : (∃ E S1, o = some (.inr E, S1) ∧ B E S1 = some r) ∨ ∃ v S1, o = some (.inl v, S1) ∧ A v S1 = some r := by
  cases o with
  | none => cases h
  | some q =>
    obtain ⟨q1, q2⟩ := q
    cases q1 with
    | inl v => exact Or.inr ⟨v, q2, rfl, h⟩
    | inr E => exact Or.inl ⟨E, q2, rfl, h⟩
theorem qh_inl {α γ : Type} {o : Option ((α ⊕ String) × gk_S)} {A : α → gk_S → Option γ} {B : String → gk_S → Option γ} {v : α} {S1 : gk_S} (h : o = some (.inl v, S1)) : qh o A B = A v S1 := by rw [h]; rfl
theorem qh_inr {α γ : Type} {o : Option ((α ⊕ String) × gk_S)} {A : α → gk_S → Option γ} {B : String → gk_S → Option γ} {E : String} {S1 : gk_S} (h : o = some (.inr E, S1)) : qh o A B = B E S1 := by rw [h]; rfl
theorem qi_t {γ : Type} {c : Prop} [Decidable c] {A B : Option γ} {r : γ} (h : (if c then A else B) = some r) (hc : c) : A = some r := by rw [if_pos hc] at h; exact h
theorem qi_f {γ : Type} {c : Prop} [Decidable c] {A B : Option γ} {r : γ} (h : (if c then A else B) = some r) (hc : ¬ c) : B = some r := by rw [if_neg hc] at h; exact h
def isb (S : gk_S) (a kd : Nat) : Bool := decide (a < gk_n S ∧ gk_K S a = kd)
theorem isb_el {S : gk_S} {a kd : Nat} (h : isb S a kd = true) : gk_is S a kd := of_decide_eq_true (p := a < gk_n S ∧ gk_K S a = kd) h
theorem isb_of {S : gk_S} {a kd : Nat} (h : gk_is S a kd) : isb S a kd = true := decide_eq_true (p := a < gk_n S ∧ gk_K S a = kd) h
def inb (i : Int32) (n : Nat) : Bool := decide (0 ≤ i.toInt ∧ i.toInt < (n : Int))
theorem inb_el {i : Int32} {n : Nat} (h : inb i n = true) : vp_in i n := vp_in_iff.mpr (of_decide_eq_true h)
theorem inb_of {i : Int32} {n : Nat} (h0 : 0 ≤ i.toInt) (h1 : i.toInt < (n : Int)) : inb i n = true := decide_eq_true ⟨h0, h1⟩
def zb (x : Int32) : Bool := decide (x = 0 ∨ x = 1)
theorem zb_el {x : Int32} (h : zb x = true) : x = 0 ∨ x = 1 := of_decide_eq_true h
theorem zb_of {x : Int32} (h : x = 0 ∨ x = 1) : zb x = true := decide_eq_true h
theorem zb_ite {c : Prop} [Decidable c] : zb (if c then 1 else 0) = true := by by_cases h : c <;> simp [h, zb]
theorem zb_nar {x : Int32} (h : zb x = true) : narrow .boolean (.int x) = .int x := by rcases zb_el h with rfl | rfl <;> rfl
theorem zb_fit {x : Int32} (h : zb x = true) : narrow .boolean (.int x) = .int x ∧ fits .boolean (.int x) = true := by rcases zb_el h with rfl | rfl <;> exact ⟨rfl, rfl⟩
def nzI (x : Int32) : Bool := decide (¬ x = 0)
theorem nzI_el {x : Int32} (h : nzI x = true) : ¬ x = 0 := of_decide_eq_true h
theorem nzI_of {x : Int32} (h : ¬ x = 0) : nzI x = true := decide_eq_true h
def nzJ (x : Int64) : Bool := decide (¬ x = 0)
theorem nzJ_el {x : Int64} (h : nzJ x = true) : ¬ x = 0 := of_decide_eq_true h
theorem nzJ_of {x : Int64} (h : ¬ x = 0) : nzJ x = true := decide_eq_true h
def ltb (i n : Nat) : Bool := decide (i < n)
theorem ltb_el {i n : Nat} (h : ltb i n = true) : i < n := of_decide_eq_true h
theorem ltb_of {i n : Nat} (h : i < n) : ltb i n = true := decide_eq_true h
def tgb (S : gk_S) : Bool := gk_t S
/-! stores into rows -/
def wI (S : gk_S) (a : Nat) (i v : Int32) : gk_S := rI S a (upd (xI S a) i.toNatClampNeg v)
def wB (S : gk_S) (a : Nat) (i v : Int32) : gk_S := rI S a (upd (xI S a) i.toNatClampNeg v.toInt8.toInt32)
def wJ (S : gk_S) (a : Nat) (i : Int32) (v : Int64) : gk_S := rJ S a (vp_updL (xJ S a) i.toNatClampNeg v)
def wP (S : gk_S) (a : Nat) (i : Int32) (v : Nat) : gk_S := rP S a (va_up (xP S a) i.toNatClampNeg (some v))
def aI (S : gk_S) (a : Nat) (i : Int32) : Int32 := xI S a i.toNatClampNeg
def aJ (S : gk_S) (a : Nat) (i : Int32) : Int64 := xJ S a i.toNatClampNeg
def aP (S : gk_S) (a : Nat) (i : Int32) : Option Nat := xP S a i.toNatClampNeg
theorem is_sI {S T : gk_S} {f a b kd : Nat} {v : Int32} (h : gk_is S b kd) (e : sI S f a v = T) : gk_is T b kd := by subst e; exact h
theorem is_sJ {S T : gk_S} {f a b kd : Nat} {v : Int64} (h : gk_is S b kd) (e : sJ S f a v = T) : gk_is T b kd := by subst e; exact h
theorem is_sP {S T : gk_S} {f a b kd : Nat} {v : Option Nat} (h : gk_is S b kd) (e : sP S f a v = T) : gk_is T b kd := by subst e; exact h
theorem is_wI {S T : gk_S} {a b kd : Nat} {i v : Int32} (h : gk_is S b kd) (e : wI S a i v = T) : gk_is T b kd := by subst e; exact h
theorem is_wB {S T : gk_S} {a b kd : Nat} {i v : Int32} (h : gk_is S b kd) (e : wB S a i v = T) : gk_is T b kd := by subst e; exact h
theorem is_wJ {S T : gk_S} {a b kd : Nat} {i : Int32} {v : Int64} (h : gk_is S b kd) (e : wJ S a i v = T) : gk_is T b kd := by subst e; exact h
theorem is_wP {S T : gk_S} {a b kd : Nat} {i : Int32} {v : Nat} (h : gk_is S b kd) (e : wP S a i v = T) : gk_is T b kd := by subst e; exact h
/-! results -/
abbrev qRI (r : Int32 × gk_S) : gk_R := (.inl (some (.int r.1)), r.2)
abbrev qRJ (r : Int64 × gk_S) : gk_R := (.inl (some (.long r.1)), r.2)
abbrev qRP (r : Nat × gk_S) : gk_R := (.inl (some (.ref r.1)), r.2)
abbrev qRT (r : Nat × gk_S) : gk_R := (.inl (some (.retAddr (10 + r.1))), r.2)
abbrev qRU (r : Unit × gk_S) : gk_R := (.inl none, r.2)
def qXI (r : (Int32 ⊕ String) × gk_S) : gk_R := match r with
  | (.inl v, S) => (.inl (some (.int v)), S)
  | (.inr E, S) => (.inr E, S)
def qXU (r : (Unit ⊕ String) × gk_S) : gk_R := match r with
  | (.inl _, S) => (.inl none, S)
  | (.inr E, S) => (.inr E, S)
/-- a throw costs a cell and six slots -/
def qb {α : Type} (r : (α ⊕ String) × gk_S) (k j : Nat) : Prop := ∀ E, r.1 = .inr E → 1 ≤ k ∧ 6 ≤ j
theorem qb_inl {α : Type} {v : α} {S : gk_S} {k j : Nat} : qb (.inl v, S) k j := fun _ h => by cases h
theorem qb_inr {α : Type} {E : String} {S : gk_S} {k j : Nat} (h : qb (α := α) (.inr E, S) k j) : 1 ≤ k ∧ 6 ≤ j := h E rfl
/-! what is known of the locals may be forgotten -/
def qL (L L' : List (Option Value)) : Prop := ∀ (i : Nat) (v : Value), L[i]? = some (some v) → L'[i]? = some (some v)
theorem qL_nil {L : List (Option Value)} : qL [] L := fun i v h => by cases i <;> cases h
theorem qL_n {x : Option Value} {L L' : List (Option Value)} (h : qL L L') : qL (none :: L) (x :: L') := fun i v e => by
  cases i with
  | zero => cases e
  | succ i => exact h i v e
theorem qL_s {x : Option Value} {L L' : List (Option Value)} (h : qL L L') : qL (x :: L) (x :: L') := fun i v e => by
  cases i with
  | zero => exact e
  | succ i => exact h i v e
section QV
variable {X : gk_X} {M N : gk_M} {d k j pc : Nat} {L L' : List (Option Value)} {st : List Value} {S : gk_S} {R : gk_R}
theorem ev_weak (hL : qL L L') (kk : EvW X M d k j pc L st S R) : EvW X M d k j pc L' st S R :=
  fun p e Rm s m args below meth c H locs cells slots mc ms ls C r hH hS hc hl => kk p e Rm s m args below meth c H locs cells slots mc ms ls C r hH hS hc (lv_mono hl fun q hq => by
    obtain ⟨v, hv, e9⟩ := gk_la_inv hq
    have h9 := gk_la_mem (X := X) (hL _ _ hv)
    rw [← e9] at h9
    exact h9)
theorem yv_iast {a : Nat} {i x : Int32} {T : gk_S} (hs : gk_is S a 11) (hin : vp_in i (gL S a)) (hT : wI S a i x = T) (hd : decode M.cc pc = .ok (.iastore, 1)) (kk : EvW X M d k j (pc + 1) L st T R) : EvW X M d k j pc L (.int x :: .int i :: .ref a :: st) S R := by
  subst hT
  exact ev_iast hs hin hd kk
theorem yv_bast {a : Nat} {i x : Int32} {T : gk_S} (hs : gk_is S a 10) (hin : vp_in i (gL S a)) (hT : wB S a i x = T) (hd : decode M.cc pc = .ok (.bastore, 1)) (kk : EvW X M d k j (pc + 1) L st T R) : EvW X M d k j pc L (.int x :: .int i :: .ref a :: st) S R := by
  subst hT
  exact ev_bast hs hin hd kk
theorem yv_zast {a : Nat} {i x : Int32} {T : gk_S} (hs : gk_is S a 13) (hx : zb x = true) (hin : vp_in i (gL S a)) (hT : wI S a i x = T) (hd : decode M.cc pc = .ok (.bastore, 1)) (kk : EvW X M d k j (pc + 1) L st T R) : EvW X M d k j pc L (.int x :: .int i :: .ref a :: st) S R := by
  subst hT
  exact ev_zast hs (zb_el hx) hin hd kk
theorem yv_last {a : Nat} {i : Int32} {x : Int64} {T : gk_S} (hs : gk_is S a 12) (hin : vp_in i (gL S a)) (hT : wJ S a i x = T) (hd : decode M.cc pc = .ok (.lastore, 1)) (kk : EvW X M d k j (pc + 1) L st T R) : EvW X M d k j pc L (.long x :: .int i :: .ref a :: st) S R := by
  subst hT
  exact ev_last hs hin hd kk
theorem yv_aast {a b kd : Nat} {i : Int32} {T : gk_S} (hs : gk_is S a kd) (hk : 14 ≤ kd ∧ kd ≤ 16) (hb : gk_is S b (gk_cA kd)) (hin : vp_in i (gL S a)) (hT : wP S a i b = T) (hd : decode M.cc pc = .ok (.aastore, 1)) (kk : EvW X M d k j (pc + 1) L st T R) : EvW X M d k j pc L (.ref b :: .int i :: .ref a :: st) S R := by
  subst hT
  exact ev_aast hs hk hb hin hd kk
theorem yv_putI {ci f fn a idx : Nat} {x : Int32} {T : gk_S} (hF : gk_FI ci f fn false) (hn : narrow (gk_ty ci f) (.int x) = .int x ∧ fits (gk_ty ci f) (.int x) = true) (hs : gk_is S a ci) (hT : sI S fn a x = T) (hw : Cond.fieldLink M.y.cls idx ((gk_q ci).2.1 f).1 ((gk_q ci).2.1 f).2.1 ((gk_q ci).2.1 f).2.2.1 ∈ gG) (hd : decode M.cc pc = .ok (.putfield idx, 3)) (kk : EvW X M d k j (pc + 3) L st T R) : EvW X M d k j pc L (.int x :: .ref a :: st) S R := by
  subst hT
  exact xv_putI hF hn hs hw hd kk
theorem yv_putJ {ci f fn a idx : Nat} {x : Int64} {T : gk_S} (hF : gk_FJ ci f fn false) (hs : gk_is S a ci) (hT : sJ S fn a x = T) (hw : Cond.fieldLink M.y.cls idx ((gk_q ci).2.1 f).1 ((gk_q ci).2.1 f).2.1 ((gk_q ci).2.1 f).2.2.1 ∈ gG) (hd : decode M.cc pc = .ok (.putfield idx, 3)) (kk : EvW X M d k j (pc + 3) L st T R) : EvW X M d k j pc L (.long x :: .ref a :: st) S R := by
  subst hT
  exact xv_putJ hF hs hw hd kk
theorem yv_putP {ci f fn a b idx : Nat} {T : gk_S} (hF : gk_FP ci f fn false) (hs : gk_is S a ci) (hT : sP S fn a (some b) = T) (hw : Cond.fieldLink M.y.cls idx ((gk_q ci).2.1 f).1 ((gk_q ci).2.1 f).2.1 ((gk_q ci).2.1 f).2.2.1 ∈ gG) (hd : decode M.cc pc = .ok (.putfield idx, 3)) (kk : EvW X M d k j (pc + 3) L st T R) : EvW X M d k j pc L (.ref b :: .ref a :: st) S R := by
  subst hT
  exact xv_putP hF hs hw hd kk
theorem yv_putPF {ci f fn a b idx : Nat} {T : gk_S} (hF : gk_FP ci f fn true) (hin2 : M.y.name = "<init>") (hdecl : ((gk_q ci).2.1 f).1 = M.y.cls) (hs : gk_is S a ci) (hT : sP S fn a (some b) = T) (hw : Cond.fieldLink M.y.cls idx ((gk_q ci).2.1 f).1 ((gk_q ci).2.1 f).2.1 ((gk_q ci).2.1 f).2.2.1 ∈ gG) (hd : decode M.cc pc = .ok (.putfield idx, 3)) (kk : EvW X M d k j (pc + 3) L st T R) : EvW X M d k j pc L (.ref b :: .ref a :: st) S R := by
  subst hT
  exact xv_putPF hF hin2 hdecl hs hw hd kk
theorem yv_iald {a : Nat} {i x : Int32} (hs : gk_is S a 11) (hin : vp_in i (gL S a)) (hv : aI S a i = x) (hd : decode M.cc pc = .ok (.iaload, 1)) (kk : EvW X M d k j (pc + 1) L (.int x :: st) S R) : EvW X M d k j pc L (.int i :: .ref a :: st) S R := xv_iald hs hin hv hd kk
theorem yv_bald {a : Nat} {i x : Int32} (hs : gk_is S a 10) (hin : vp_in i (gL S a)) (hv : aI S a i = x) (hd : decode M.cc pc = .ok (.baload, 1)) (kk : EvW X M d k j (pc + 1) L (.int x :: st) S R) : EvW X M d k j pc L (.int i :: .ref a :: st) S R := xv_bald hs hin hv hd kk
theorem yv_zald {a : Nat} {i x : Int32} (hs : gk_is S a 13) (hin : vp_in i (gL S a)) (hv : aI S a i = x) (hd : decode M.cc pc = .ok (.baload, 1)) (kk : EvW X M d k j (pc + 1) L (.int x :: st) S R) : EvW X M d k j pc L (.int i :: .ref a :: st) S R := xv_zald hs hin hv hd kk
theorem yv_lald {a : Nat} {i : Int32} {x : Int64} (hs : gk_is S a 12) (hin : vp_in i (gL S a)) (hv : aJ S a i = x) (hd : decode M.cc pc = .ok (.laload, 1)) (kk : EvW X M d k j (pc + 1) L (.long x :: st) S R) : EvW X M d k j pc L (.int i :: .ref a :: st) S R := xv_lald hs hin hv hd kk
theorem yv_aald {a b kd : Nat} {i : Int32} (hs : gk_is S a kd) (hk : 14 ≤ kd ∧ kd ≤ 18) (hin : vp_in i (gL S a)) (hb : aP S a i = some b) (hd : decode M.cc pc = .ok (.aaload, 1)) (kk : EvW X M d k j (pc + 1) L (.ref b :: st) S R) : EvW X M d k j pc L (.int i :: .ref a :: st) S R := ev_aald hs hk hin hb hd kk
end QV
/-! a comparison of longs -/
theorem lc_lt {x y : Int64} (h : lg_cmp x y < 0) : x < y := (lg_cmp_lt x y).mp h
theorem lc_ltN {x y : Int64} (h : ¬ lg_cmp x y < 0) : ¬ x < y := fun q => h ((lg_cmp_lt x y).mpr q)
theorem lc_ge {x y : Int64} (h : 0 ≤ lg_cmp x y) : y ≤ x := (lg_cmp_ge x y).mp h
theorem lc_geN {x y : Int64} (h : ¬ 0 ≤ lg_cmp x y) : ¬ y ≤ x := fun q => h ((lg_cmp_ge x y).mpr q)
theorem lc_gt {x y : Int64} (h : 0 < lg_cmp x y) : y < x := (lg_cmp_gt x y).mp h
theorem lc_gtN {x y : Int64} (h : ¬ 0 < lg_cmp x y) : ¬ y < x := fun q => h ((lg_cmp_gt x y).mpr q)
theorem lc_le {x y : Int64} (h : lg_cmp x y ≤ 0) : x ≤ y := (lg_cmp_le x y).mp h
theorem lc_leN {x y : Int64} (h : ¬ lg_cmp x y ≤ 0) : ¬ x ≤ y := fun q => h ((lg_cmp_le x y).mpr q)
theorem lc_eq {x y : Int64} (h : lg_cmp x y = 0) : x = y := (lg_cmp_eq x y).mp h
theorem lc_eqN {x y : Int64} (h : ¬ lg_cmp x y = 0) : ¬ x = y := fun q => h ((lg_cmp_eq x y).mpr q)
/-! switches -/
theorem ti_ne {x y : Int32} {n : Int} (h : ¬ x = y) (e : y.toInt = n) : ¬ x.toInt = n := fun q => h (Int32.toInt_inj.mp (q.trans e.symm))
theorem lo_nil {d k : Int} : Op.lookupswitch.offset [] d k = d := rfl
theorem lo_ne {a o : Int} {r : List (Int × Int)} {d k z : Int} (h : ¬ k = a) (e : Op.lookupswitch.offset r d k = z) : Op.lookupswitch.offset ((a, o) :: r) d k = z := by
  rw [← e]
  exact if_neg (fun q => h q.symm)
