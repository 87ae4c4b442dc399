/-! the start: the constructors leave rows as they are -/
def Er (S T : gk_S) : Prop := xI T = xI S ∧ xJ T = xJ S
def Pr {α : Type} (S : gk_S) (o : Option (α × gk_S)) : Prop := ∀ v T, o = some (v, T) → Er S T
section PRR
variable {α β : Type} {S : gk_S} {F : Nat}
theorem Pr_some (v : α) : Pr S (some (v, S)) := fun v' T e => by injection e with e; injection e with _ e; subst e; exact ⟨rfl, rfl⟩
theorem Pr_none : Pr S (none : Option (α × gk_S)) := fun v' T e => by cases e
theorem Pr_qk {b : Bool} {A : Option (α × gk_S)} (h : Pr S A) : Pr S (qk b A) := fun v T e => h v T (qk_el e).2
theorem Pr_qP {o : Option Nat} {A : Nat → Option (α × gk_S)} (h : ∀ b, Pr S (A b)) : Pr S (qP o A) := fun v T e => by
  obtain ⟨b, -, e⟩ := qP_el e
  exact h b v T e
theorem Pr_qn {x : Nat} {A : Nat → Option (α × gk_S)} (h : ∀ b, Pr S (A b)) : Pr S (qv x A) := fun v T e => h x v T e
theorem Pr_qi {x : Int32} {A : Int32 → Option (α × gk_S)} (h : ∀ b, Pr S (A b)) : Pr S (qv x A) := fun v T e => h x v T e
theorem Pr_qc {o : Option (β × gk_S)} {A : β → gk_S → Option (α × gk_S)} (h1 : Pr S o) (h2 : ∀ v T, Pr T (A v T)) : Pr S (qc o A) := fun v T e => by
  obtain ⟨x, T1, e1, e⟩ := qc_el e
  have a := h1 x T1 e1
  have b := h2 x T1 v T e
  exact ⟨b.1.trans a.1, b.2.trans a.2⟩
theorem Pr_if {c : Prop} [Decidable c] {A B : Option (α × gk_S)} (h1 : Pr S A) (h2 : Pr S B) : Pr S (if c then A else B) := by
  split
  · exact h1
  · exact h2
theorem Pr_st {U : gk_S} {A : gk_S → Option (α × gk_S)} (e : Er S U) (h : ∀ T, Pr T (A T)) : Pr S (qv U A) := fun v T k => by
  have b := h U v T k
  exact ⟨b.1.trans e.1, b.2.trans e.2⟩
theorem Pr_nK {a b : Nat} {A : gk_S → Option (α × gk_S)} (h : ∀ T, Pr T (A T)) : Pr S (qv (nK S a b) A) := Pr_st ⟨rfl, rfl⟩ h
theorem Pr_sP {f a : Nat} {v : Option Nat} {A : gk_S → Option (α × gk_S)} (h : ∀ T, Pr T (A T)) : Pr S (qv (sP S f a v) A) := Pr_st ⟨rfl, rfl⟩ h
theorem Pr_sI {f a : Nat} {v : Int32} {A : gk_S → Option (α × gk_S)} (h : ∀ T, Pr T (A T)) : Pr S (qv (sI S f a v) A) := Pr_st ⟨rfl, rfl⟩ h
theorem Pr_sJ {f a : Nat} {v : Int64} {A : gk_S → Option (α × gk_S)} (h : ∀ T, Pr T (A T)) : Pr S (qv (sJ S f a v) A) := Pr_st ⟨rfl, rfl⟩ h
theorem Pr_wP {a v : Nat} {i : Int32} {A : gk_S → Option (α × gk_S)} (h : ∀ T, Pr T (A T)) : Pr S (qv (wP S a i v) A) := Pr_st ⟨rfl, rfl⟩ h
theorem Pr_mn {a b c d : Nat} {A : gk_S → Option (α × gk_S)} (h : ∀ T, Pr T (A T)) : Pr S (qv (gk_mn S a b c d) A) := Pr_st (by
  have e := nKs_f (nK S a c) b d c
  exact ⟨by unfold gk_mn; rw [xI_rP]; exact e.2.2.2.1.trans rfl, by unfold gk_mn; rw [xJ_rP]; exact e.2.2.2.2.1.trans rfl⟩) h
theorem Pr_X2a (a : Nat) : Pr S (f_X2_init_2100 F S a) := by
  unfold f_X2_init_2100
  with_reducible repeat' first | exact Pr_some _ | apply Pr_qk | (refine Pr_nK fun T => ?_) | (refine Pr_sP fun T => ?_) | (refine Pr_sI fun T => ?_) | (refine Pr_sJ fun T => ?_) | (refine Pr_wP fun T => ?_) | (refine Pr_mn fun T => ?_) | (refine Pr_qn fun b => ?_) | (refine Pr_qP fun b => ?_)
theorem Pr_X2b (a : Nat) : Pr S (f_X2_init_3000 F S a) := by
  unfold f_X2_init_3000
  with_reducible repeat' first | exact Pr_some _ | apply Pr_qk | (refine Pr_nK fun T => ?_) | (refine Pr_sP fun T => ?_) | (refine Pr_sI fun T => ?_) | (refine Pr_sJ fun T => ?_) | (refine Pr_wP fun T => ?_) | (refine Pr_mn fun T => ?_) | (refine Pr_qn fun b => ?_) | (refine Pr_qP fun b => ?_)
theorem Pr_X5 (a : Nat) : Pr S (f_X5_init F S a) := by
  unfold f_X5_init
  with_reducible repeat' first | exact Pr_some _ | apply Pr_qk | (refine Pr_nK fun T => ?_) | (refine Pr_sP fun T => ?_) | (refine Pr_sI fun T => ?_) | (refine Pr_sJ fun T => ?_) | (refine Pr_wP fun T => ?_) | (refine Pr_mn fun T => ?_) | (refine Pr_qn fun b => ?_) | (refine Pr_qP fun b => ?_)
theorem Pr_X0 (a : Nat) : Pr S (f_X0_init F S a) := by
  unfold f_X0_init
  with_reducible repeat' first | exact Pr_some _ | apply Pr_qk | (refine Pr_nK fun T => ?_) | (refine Pr_sP fun T => ?_) | (refine Pr_sI fun T => ?_) | (refine Pr_sJ fun T => ?_) | (refine Pr_wP fun T => ?_) | (refine Pr_mn fun T => ?_) | (refine Pr_qn fun b => ?_) | (refine Pr_qP fun b => ?_)
theorem Pr_X9 (a b : Nat) : Pr S (f_X9_init F S a b) := by
  unfold f_X9_init
  with_reducible repeat' first | exact Pr_some _ | apply Pr_qk | (refine Pr_nK fun T => ?_) | (refine Pr_sP fun T => ?_) | (refine Pr_sI fun T => ?_) | (refine Pr_sJ fun T => ?_) | (refine Pr_wP fun T => ?_) | (refine Pr_mn fun T => ?_) | (refine Pr_qn fun b => ?_) | (refine Pr_qP fun b => ?_)
theorem Pr_X7 (a : Nat) : Pr S (f_X7_init F S a) := by
  unfold f_X7_init
  with_reducible repeat' first | exact Pr_some _ | apply Pr_qk | (refine Pr_nK fun T => ?_) | (refine Pr_sP fun T => ?_) | (refine Pr_sI fun T => ?_) | (refine Pr_sJ fun T => ?_) | (refine Pr_wP fun T => ?_) | (refine Pr_mn fun T => ?_) | (refine Pr_qn fun b => ?_) | (refine Pr_qP fun b => ?_)
theorem Pr_X3 (a : Nat) : Pr S (f_X3_init F S a) := by
  unfold f_X3_init
  with_reducible repeat' first | exact Pr_some _ | apply Pr_qk | (refine Pr_nK fun T => ?_) | (refine Pr_sP fun T => ?_) | (refine Pr_sI fun T => ?_) | (refine Pr_sJ fun T => ?_) | (refine Pr_wP fun T => ?_) | (refine Pr_mn fun T => ?_) | (refine Pr_qn fun b => ?_) | (refine Pr_qP fun b => ?_)
theorem Pr_X6l (a : Nat) : ∀ n l1 (S : gk_S), Pr S (f_X6_init_15 F n a l1 S) := by
  intro n
  induction n with
  | zero => intro l1 S; exact Pr_none
  | succ n ih =>
    intro l1 S
    rw [f_X6_init_15]
    refine Pr_if ?_ ?_
    · with_reducible repeat' first | exact Pr_some _ | apply Pr_qk | (refine Pr_sI fun T => ?_)
    · with_reducible repeat' first | exact ih _ _ | exact Pr_X5 _ | apply Pr_qk | (refine Pr_nK fun T => ?_) | (refine Pr_wP fun T => ?_) | (refine Pr_qn fun b => ?_) | (refine Pr_qP fun b => ?_) | (refine Pr_qc ?_ fun v T => ?_)
theorem Pr_X6 (a : Nat) : Pr S (f_X6_init F S a) := by
  unfold f_X6_init
  with_reducible repeat' first | exact Pr_X6l _ _ _ _ | apply Pr_qk | (refine Pr_nK fun T => ?_) | (refine Pr_sP fun T => ?_) | (refine Pr_qn fun b => ?_)
theorem Pr_X8l (a : Nat) : ∀ n l1 (S : gk_S), Pr S (f_X8_init_15 F n a l1 S) := by
  intro n
  induction n with
  | zero => intro l1 S; exact Pr_none
  | succ n ih =>
    intro l1 S
    rw [f_X8_init_15]
    refine Pr_if ?_ ?_
    · with_reducible repeat' first | exact Pr_some _ | apply Pr_qk | (refine Pr_sI fun T => ?_)
    · with_reducible repeat' first | exact ih _ _ | exact Pr_X0 _ | apply Pr_qk | (refine Pr_nK fun T => ?_) | (refine Pr_wP fun T => ?_) | (refine Pr_qn fun b => ?_) | (refine Pr_qP fun b => ?_) | (refine Pr_qc ?_ fun v T => ?_)
theorem Pr_X8 (a : Nat) : Pr S (f_X8_init F S a) := by
  unfold f_X8_init
  with_reducible repeat' first | exact Pr_X8l _ _ _ _ | apply Pr_qk | (refine Pr_nK fun T => ?_) | (refine Pr_sP fun T => ?_) | (refine Pr_qn fun b => ?_)
theorem Pr_X11l (a : Nat) : ∀ n l1 (S : gk_S), Pr S (f_X11_init_42 F n a l1 S) := by
  intro n
  induction n with
  | zero => intro l1 S; exact Pr_none
  | succ n ih =>
    intro l1 S
    rw [f_X11_init_42]
    refine Pr_if ?_ ?_
    · with_reducible repeat' first | exact Pr_some _ | exact Pr_X6 _ | exact Pr_X9 _ _ | exact Pr_X7 _ | exact Pr_X8 _ | exact Pr_X3 _ | apply Pr_qk | (refine Pr_nK fun T => ?_) | (refine Pr_sP fun T => ?_) | (refine Pr_sI fun T => ?_) | (refine Pr_qn fun b => ?_) | (refine Pr_qP fun b => ?_) | (refine Pr_qc ?_ fun v T => ?_)
    · with_reducible repeat' first | exact ih _ _ | exact Pr_X6 _ | apply Pr_qk | (refine Pr_nK fun T => ?_) | (refine Pr_wP fun T => ?_) | (refine Pr_qn fun b => ?_) | (refine Pr_qP fun b => ?_) | (refine Pr_qc ?_ fun v T => ?_)
theorem Pr_X11 (a : Nat) : Pr S (f_X11_init F S a) := by
  unfold f_X11_init
  with_reducible repeat' first | exact Pr_X11l _ _ _ _ | exact Pr_X2a _ | exact Pr_X2b _ | apply Pr_qk | (refine Pr_nK fun T => ?_) | (refine Pr_sP fun T => ?_) | (refine Pr_qn fun b => ?_) | (refine Pr_qc ?_ fun v T => ?_)
end PRR
/-- the model's words are written into two rows -/
def EW (l0 : Nat) (S T : gk_S) : Prop := xJ T = xJ S ∧ gP T = gP S ∧ ∀ a, gP S 912 l0 ≠ some a → gP S 913 l0 ≠ some a → xI T a = xI S a
section EWR
variable {S T : gk_S} {F l0 : Nat}
theorem EW_refl : EW l0 S S := ⟨rfl, rfl, fun _ _ _ => rfl⟩
theorem EW_trans {U : gk_S} (h : EW l0 S T) (g : EW l0 T U) : EW l0 S U := ⟨g.1.trans h.1, g.2.1.trans h.2.1, fun a p q => (g.2.2 a (by rw [h.2.1]; exact p) (by rw [h.2.1]; exact q)).trans (h.2.2 a p q)⟩
theorem len_st {a : Nat} {x : Int32} (h : f_J0_length_8abf5 F S a = some (x, T)) : T = S := by
  unfold f_J0_length_8abf5 f_J0_coder_7d493 at h
  obtain ⟨-, h⟩ := qk_el h
  obtain ⟨y, T1, h1, h⟩ := qc_el h
  obtain ⟨-, h1⟩ := qk_el h1
  rw [qv_eq] at h
  injection h1 with h1; injection h1 with _ h1
  injection h with h; injection h with _ h
  rw [← h, ← h1]
theorem cI_st {p q x : Int32} (h : f_J3_checkIndex_8e157 F S p q = some (x, T)) : T = S := by
  unfold f_J3_checkIndex_8e157 f_J3_checkIndex_8e157_9 at h
  repeat' split at h
  all_goals first | (cases h; done) | (injection h with h; injection h with _ h; exact h.symm)
theorem chr_st {a : Nat} {p x : Int32} (h : f_J0_charAt_5068e F S a p = some (x, T)) : T = S := by
  unfold f_J0_charAt_5068e f_J0_isLatin1_aae02 f_J1_charAt_3b067 f_J0_checkIndex_df160 at h
  obtain ⟨-, h⟩ := qk_el h
  obtain ⟨y, T1, h1, h⟩ := qc_el h
  obtain ⟨-, h1⟩ := qk_el h1
  injection h1 with h1; injection h1 with _ h1
  split at h
  · cases h
  · obtain ⟨y2, T2, h2, h⟩ := qc_el h
    obtain ⟨-, h⟩ := qk_el h
    injection h with h; injection h with _ h
    obtain ⟨-, h2⟩ := qk_el h2
    obtain ⟨y3, T3, h3, h2⟩ := qc_el h2
    obtain ⟨y4, T4, h4, h3⟩ := qc_el h3
    injection h3 with h3; injection h3 with _ h3
    obtain ⟨-, h2⟩ := qk_el h2
    rw [qv_eq] at h2
    obtain ⟨-, h2⟩ := qk_el h2
    injection h2 with h2; injection h2 with _ h2
    rw [← h, ← h2, ← h3, cI_st h4, ← h1]
theorem EW_w {b : Nat} {i v : Int32} (h : gP S 912 l0 = some b ∨ gP S 913 l0 = some b) : EW l0 S (wI S b i v) := ⟨rfl, rfl, fun a p q => ri_ne _ _ _ _ (fun e => by
  subst e
  rcases h with h | h
  · exact p h
  · exact q h)⟩
theorem w210 {k172 : Nat → Int32 → Int32 → gk_S → Option (Unit × gk_S)} (hk : ∀ l1 l2 S v T, k172 l0 l1 l2 S = some (v, T) → EW l0 S T) : ∀ n l1 l2 l3 S v T, f_X12_init_210 F k172 n l0 l1 l2 l3 S = some (v, T) → EW l0 S T := by
  intro n
  induction n with
  | zero => intro l1 l2 l3 S v T h; cases h
  | succ n ih =>
    intro l1 l2 l3 S v T h
    rw [f_X12_init_210] at h
    obtain ⟨x, T1, h1, h0⟩ := qc_el h
    clear h
    have e1 := chr_st h1
    subst e1
    have h := h0
    clear h0
    split at h
    · obtain ⟨-, h⟩ := qk_el h
      obtain ⟨b, hb, h⟩ := qP_el h
      obtain ⟨-, h⟩ := qk_el h
      obtain ⟨-, h⟩ := qk_el h
      rw [qv_eq] at h
      exact EW_trans (EW_w (Or.inr hb)) (hk _ _ _ _ _ h)
    · exact ih _ _ _ _ _ _ h
theorem w172 : ∀ n l1 l2 S v T, f_X12_init_172 F n l0 l1 l2 S = some (v, T) → EW l0 S T := by
  intro n
  induction n with
  | zero => intro l1 l2 S v T h; cases h
  | succ n ih =>
    intro l1 l2 S v T h
    rw [f_X12_init_172] at h
    obtain ⟨x, T1, h1, h0⟩ := qc_el h
    clear h
    have e1 := len_st h1
    subst e1
    have h := h0
    clear h0
    split at h
    · injection h with h; injection h with _ h
      subst h
      exact EW_refl
    · obtain ⟨x, T2, h2, h0⟩ := qc_el h
      clear h
      have e2 := chr_st h2
      subst e2
      have h := h0
      clear h0
      split at h
      · obtain ⟨-, h⟩ := qk_el h
        obtain ⟨b, hb, h⟩ := qP_el h
        obtain ⟨-, h⟩ := qk_el h
        obtain ⟨-, h⟩ := qk_el h
        rw [qv_eq] at h
        exact EW_trans (EW_w (Or.inl hb)) (w210 ih _ _ _ _ _ _ _ h)
      · exact ih _ _ _ _ _ h
end EWR
/-- what X12's constructor leaves -/
def Pm (l0 : Nat) (S : gk_S) (o : Option (Unit × gk_S)) : Prop := ∀ v T, o = some (v, T) → xJ T = xJ S ∧ ∀ a, gP T 912 l0 ≠ some a → gP T 913 l0 ≠ some a → xI T a = xI S a
section PMM
variable {S : gk_S} {F l0 : Nat}
theorem Pm_qk {b : Bool} {A : Option (Unit × gk_S)} (h : Pm l0 S A) : Pm l0 S (qk b A) := fun v T e => h v T (qk_el e).2
theorem Pm_qn {x : Nat} {A : Nat → Option (Unit × gk_S)} (h : ∀ b, Pm l0 S (A b)) : Pm l0 S (qv x A) := fun v T e => h x v T e
theorem Pm_st {U : gk_S} {A : gk_S → Option (Unit × gk_S)} (e : Er S U) (h : ∀ T, Pm l0 T (A T)) : Pm l0 S (qv U A) := fun v T k => by
  have b := h U v T k
  exact ⟨b.1.trans e.2, fun a p q => (b.2 a p q).trans (congrFun e.1 a)⟩
theorem Pm_nK {a b : Nat} {A : gk_S → Option (Unit × gk_S)} (h : ∀ T, Pm l0 T (A T)) : Pm l0 S (qv (nK S a b) A) := Pm_st ⟨rfl, rfl⟩ h
theorem Pm_sP {f a : Nat} {v : Option Nat} {A : gk_S → Option (Unit × gk_S)} (h : ∀ T, Pm l0 T (A T)) : Pm l0 S (qv (sP S f a v) A) := Pm_st ⟨rfl, rfl⟩ h
theorem Pm_sI {f a : Nat} {v : Int32} {A : gk_S → Option (Unit × gk_S)} (h : ∀ T, Pm l0 T (A T)) : Pm l0 S (qv (sI S f a v) A) := Pm_st ⟨rfl, rfl⟩ h
theorem Pm_l (n : Nat) (l1 l2 : Int32) : Pm l0 S (f_X12_init_172 F n l0 l1 l2 S) := fun v T e => by
  have b := w172 n l1 l2 S v T e
  exact ⟨b.1, fun a p q => b.2.2 a (by rw [← b.2.1]; exact p) (by rw [← b.2.1]; exact q)⟩
theorem Pm_X12 : Pm l0 S (f_X12_init F S l0) := by
  unfold f_X12_init
  with_reducible repeat' first | exact Pm_l _ _ _ | apply Pm_qk | (refine Pm_nK fun T => ?_) | (refine Pm_sP fun T => ?_) | (refine Pm_sI fun T => ?_) | (refine Pm_qn fun b => ?_)
end PMM
