/-! the model reads a list: frame, tests -/
def MF (S T : gk_S) : Prop := gk_n T = gk_n S ∧ gk_K T = gk_K S ∧ gL T = gL S ∧ (∀ f a, f ∉ [904, 914, 915, 916] → gI T f a = gI S f a) ∧ (∀ f a, f ≠ 917 → gJ T f a = gJ S f a) ∧ gP T = gP S ∧ (∀ a, a < 354 ∨ 357 < a → xI T a = xI S a) ∧ (∀ a i, (a = 354 ∨ a = 355) → i ≠ 4 → xI T a i = xI S a i) ∧ (∀ a i, (a = 356 ∨ a = 357) → i < 64 → xI T a i = xI S a i) ∧ (∀ a, a ≠ 358 → a ≠ 359 → xJ T a = xJ S a) ∧ (∀ a i, (a = 358 ∨ a = 359) → i < 384 → xJ T a i = xJ S a i) ∧ xP T = xP S
section MFR
variable {S T U : gk_S}
theorem MF_refl : MF S S := ⟨rfl, rfl, rfl, fun _ _ _ => rfl, fun _ _ _ => rfl, rfl, fun _ _ => rfl, fun _ _ _ _ => rfl, fun _ _ _ _ => rfl, fun _ _ _ => rfl, fun _ _ _ _ => rfl, rfl⟩
theorem MF_trans (h : MF S T) (g : MF T U) : MF S U := by
  obtain ⟨a1, a2, a3, a4, a5, a6, a7, a8, a9, a10, a11, a12⟩ := h
  obtain ⟨b1, b2, b3, b4, b5, b6, b7, b8, b9, b10, b11, b12⟩ := g
  exact ⟨b1.trans a1, b2.trans a2, b3.trans a3, fun f a q => (b4 f a q).trans (a4 f a q), fun f a q => (b5 f a q).trans (a5 f a q), b6.trans a6, fun a q => (b7 a q).trans (a7 a q), fun a i q p => (b8 a i q p).trans (a8 a i q p), fun a i q p => (b9 a i q p).trans (a9 a i q p), fun a q p => (b10 a q p).trans (a10 a q p), fun a i q p => (b11 a i q p).trans (a11 a i q p), b12.trans a12⟩
theorem MF_F (h : Frm [904, 914, 915, 916] [917] [] [] [] [] S T) : MF S T := by
  obtain ⟨a1, a2, a3, a4, a5, a6, a7, a8, a9⟩ := h
  exact ⟨a1, a2, a3, fun f a q => a4 f a q, fun f a q => a5 f a (by simpa using q), funext fun f => funext fun a => a6 f a (by simp), fun a _ => a7 a (by simp), fun a i _ _ => by rw [a7 a (by simp)], fun a i _ _ => by rw [a7 a (by simp)], fun a _ _ => a8 a (by simp), fun a i _ _ => by rw [a8 a (by simp)], funext fun a => a9 a (by simp)⟩
theorem MF_sI (h : MF S T) {f : Nat} (hf : f ∈ [904, 914, 915, 916]) (a : Nat) (v : Int32) : MF S (sI T f a v) := MF_trans h ⟨rfl, rfl, rfl, fun f' a' q => rd_ne _ _ (Or.inl (fun x => q (x ▸ hf))), fun _ _ _ => rfl, rfl, fun _ _ => rfl, fun _ _ _ _ => rfl, fun _ _ _ _ => rfl, fun _ _ _ => rfl, fun _ _ _ _ => rfl, rfl⟩
theorem ri_eq (S : gk_S) (a : Nat) {i : Nat} (hi : i < 2 ^ 31) (v : Int32) (j : Nat) : xI (wI S a (nI i) v) a j = if j = i then v else xI S a j := by
  rw [xI_wI, if_pos rfl, nI_clamp hi]
  rfl
theorem ri_ne (S : gk_S) (a : Nat) (i v : Int32) {c : Nat} (h : c ≠ a) : xI (wI S a i v) c = xI S c := by rw [xI_wI, if_neg h]
theorem MF_wI (h : MF S T) {a i : Nat} (ha : ((a = 354 ∨ a = 355) ∧ i = 4) ∨ ((a = 356 ∨ a = 357) ∧ 64 ≤ i)) (hi : i < 2 ^ 31) (v : Int32) : MF S (wI T a (nI i) v) := by
  refine MF_trans h ⟨rfl, rfl, rfl, fun _ _ _ => rfl, fun _ _ _ => rfl, rfl, fun c q => ri_ne _ _ _ _ (by omega), fun c j q p => ?_, fun c j q p => ?_, fun _ _ _ => rfl, fun _ _ _ _ => rfl, rfl⟩
  · by_cases e : c = a
    · subst e; rw [ri_eq _ _ hi, if_neg (by omega)]
    · rw [ri_ne _ _ _ _ e]
  · by_cases e : c = a
    · subst e; rw [ri_eq _ _ hi, if_neg (by omega)]
    · rw [ri_ne _ _ _ _ e]
theorem MF_wJ (h : MF S T) {a i : Nat} (ha : a = 358 ∨ a = 359) (h4 : 384 ≤ i) (hi : i < 2 ^ 31) (v : Int64) : MF S (wJ T a (nI i) v) := by
  refine MF_trans h ⟨rfl, rfl, rfl, fun _ _ _ => rfl, fun _ _ _ => rfl, rfl, fun _ _ => rfl, fun _ _ _ _ => rfl, fun _ _ _ _ => rfl, fun c p q => rw_ne _ _ _ _ (by omega), fun c j q p => ?_, rfl⟩
  by_cases e : c = a
  · subst e; rw [rw_eq _ _ hi, if_neg (by omega)]
  · rw [rw_ne _ _ _ _ e]
theorem MF_Sh (h : MF S T) (s : Sh S) : Sh T := by
  obtain ⟨a1, a2, a3, a4, a5, a6, a7, a8, a9, a10, a11, a12⟩ := h
  obtain ⟨s1, s2, s3, s4, s5⟩ := s
  refine ⟨a1.trans s1, fun a ha => by rw [a2, a3]; exact s2 a ha, fun q hq => by rw [a6]; exact s3 q hq, fun k hk => ?_, fun i hi => ?_⟩
  · rw [a6, a12]; exact s4 k hk
  · rw [a12]; exact s5 i hi
theorem MF_MD {b : Nat → Nat} {m : Nat} (h : MF S T) (s : MD S b m) : MD T b m := by
  have x := h.2.2.2.2.2.2.1
  refine ⟨MF_Sh h s.1, (h.2.2.2.1 903 352 (by decide)).trans s.2.1, s.2.2.1, by rw [x 353 (by omega)]; exact s.2.2.2.1, by rw [x 353 (by omega)]; exact s.2.2.2.2.1, Wd_c s.2.2.2.2.2 (x 361 (by omega)) (x 362 (by omega))⟩
end MFR
/-- the same, and what is wrong -/
def MG (S T : gk_S) : Prop := ∃ U, MF S U ∧ Frm [915, 918, 919] [] [] [] [] [] U T
theorem MG_s {S T U : gk_S} (g : MF S T) (h : MG T U) : MG S U := by
  obtain ⟨V, h1, h2⟩ := h
  exact ⟨V, MF_trans g h1, h2⟩
def ML4 (T : gk_S) (L : AL) (q : Prop) : Prop := xI T 355 4 = nI L.n ∧ xI T 354 4 = nI L.p ∧ (∀ i, i < L.n → MR T (64 + i) (L.r i)) ∧ (q → MR T (64 + L.n) (L.r L.n))
def MA (T : gk_S) (b : Nat → Nat) (m : Nat) (A : AS) : Prop := MD T b m ∧ MTk T b (wsE b m A.o) (tok b m (wsE b m A.o)) ∧ ML4 T A.L (5 ≤ A.w)
section MTS
variable {S T : gk_S} {F m : Nat} {b : Nat → Nat} {A : AS}
theorem ML4_c {T' : gk_S} {L : AL} {q q' : Prop} (h : ML4 T L q) (hq : q' → q) (e : sML T T') : ML4 T' L q' := by
  obtain ⟨h1, h2, h3, h4⟩ := h
  exact ⟨by rw [e.2.1]; exact h1, by rw [e.1]; exact h2, fun i hi => MR_c (h3 i hi) e, fun p => MR_c (h4 (hq p)) e⟩
theorem Fr_sML {lI lJ : List Nat} {T' : gk_S} (f : Frm lI lJ [] [] [] [] T T') : sML T T' := ⟨f.2.2.2.2.2.2.1 _ (by simp), f.2.2.2.2.2.2.1 _ (by simp), f.2.2.2.2.2.2.1 _ (by simp), f.2.2.2.2.2.2.1 _ (by simp), f.2.2.2.2.2.2.2.1 _ (by simp), f.2.2.2.2.2.2.2.1 _ (by simp)⟩
/-- the next token, from e on -/
theorem v_nx (hF : 16400 ≤ F) {e : Nat} {L : AL} {q : Prop} (h : MD T b m) (e4 : gI T 904 352 = nI e) (he : e ≤ m) (l : ML4 T L q) : ∃ T', f_X12_next F T 352 = some ((), T') ∧ MF T T' ∧ MD T' b m ∧ MTk T' b (wsE b m e) (tok b m (wsE b m e)) ∧ ML4 T' L q := by
  obtain ⟨T', r1, r2, r3⟩ := v_next (F := F) hF h e4 he
  exact ⟨T', r1, MF_F r2, MF_MD (MF_F r2) h, r3, ML4_c l id (Fr_sML r2)⟩
theorem tok_0 (b : Nat → Nat) (m s : Nat) : (tok b m s).1 = 0 ↔ m ≤ s := by
  constructor
  · intro e
    rcases tok_ok b m s with ⟨_, _⟩ | ⟨a1, a2, a3, ⟨a, -⟩ | ⟨a, v⟩ | ⟨a, v⟩ | ⟨a, v⟩ | a⟩
    · rcases Nat.lt_or_ge s m with q | q
      · exfalso
        unfold tok at e
        rw [if_neg (show ¬ m ≤ s by omega)] at e
        by_cases c1 : cA (b s) = true
        · rw [if_pos c1] at e
          by_cases c2 : alD b (runE b m s - s) s = true
          · rw [if_pos c2] at e
            by_cases c3 : runE b m s < m ∧ b (runE b m s) = 46
            · rw [if_pos c3] at e
              cases ea : adr b (adrE b m s - s) s s 0 0 with
              | none => rw [ea] at e; exact absurd e (by simp)
              | some v => rw [ea] at e; exact absurd e (by simp)
            · rw [if_neg c3] at e
              by_cases c4 : runE b m s - s ≤ 5
              · rw [if_pos c4] at e; exact absurd e (show ¬ (2 : Nat) = 0 by decide)
              · rw [if_neg c4] at e; exact absurd e (show ¬ (5 : Nat) = 0 by decide)
          · rw [if_neg c2] at e
            by_cases c4 : alL b (runE b m s - s) s = true ∧ runE b m s - s ≤ 11
            · rw [if_pos c4] at e; exact absurd e (show ¬ (1 : Nat) = 0 by decide)
            · rw [if_neg c4] at e; exact absurd e (show ¬ (5 : Nat) = 0 by decide)
        · rw [if_neg c1] at e
          by_cases c4 : cS4 (b s) = true
          · rw [if_pos c4] at e; exact absurd e (show ¬ (4 : Nat) = 0 by decide)
          · rw [if_neg c4] at e; exact absurd e (show ¬ (5 : Nat) = 0 by decide)
      · exact q
    · omega
    · omega
    · omega
    · omega
    · omega
  · intro e
    unfold tok
    rw [if_pos e]
/-- what the model's fields say of the token -/
def MV (T : gk_S) (b : Nat → Nat) (t : Nat × Nat × Nat × Nat) (k : Nat) : Prop := k < 6 ∧ gI T 914 352 = nI k ∧ (t.1 ≠ 6 → k = t.1 ∧ gI T 915 352 = nI t.2.2.1 ∧ (t.1 < 5 → gI T 904 352 = nI t.2.2.2) ∧ (t.1 = 1 → gI T 916 352 = wval (wk b t) 18) ∧ (t.1 = 4 → gI T 916 352 = nI t.2.1) ∧ (t.1 = 2 ∨ t.1 = 3 → gJ T 917 352 = lN t.2.1)) ∧ (k = 4 → ∃ v, v < 256 ∧ gI T 916 352 = nI v ∧ (t.1 ≠ 6 → t.2.1 = v)) ∧ (k = 1 → ∃ w, w ≤ 18 ∧ gI T 916 352 = wval w 18 ∧ (t.1 ≠ 6 → wk b t = w)) ∧ ∀ F, f_X12_isLate F T 352 = some (bI (decide (t.1 = 6)), T)
theorem MV_of (h : MD T b m) {p : Nat} (hp : p ≤ m) (t : MTk T b (wsE b m p) (tok b m (wsE b m p))) : MV T b (tk b m p) (tok b m (wsE b m p)).1 := by
  have m2 := h.2.2.1
  have wl := ws_le b hp
  have t0 := tok_0 b m (wsE b m p)
  have tko := tok_ok b m (wsE b m p)
  obtain ⟨t1, t2, t3, t4, t5, t6⟩ := t
  unfold tk
  generalize wsE b m p = s at t0 tko t1 t2 t3 t4 t5 t6 wl
  generalize tok b m s = u at t0 tko t1 t2 t3 t4 t5 t6
  have uk : u.1 < 6 := by rcases tko with ⟨a, _⟩ | ⟨a1, a2, a3, ⟨a, -⟩ | ⟨a, v⟩ | ⟨a, v⟩ | ⟨a, v⟩ | a⟩ <;> omega
  have z0 : nI u.1 = 0 ↔ u.1 = 0 := nI_eq (b := 0) (by omega) (by omega)
  have zm : nI m ≤ 2000 ↔ m ≤ 2000 := nI_leI (b := 2000) (by omega) (by omega)
  have zs : nI s < 2000 ↔ s < 2000 := nI_ltI (b := 2000) (by omega) (by omega)
  have late : ∀ F, f_X12_isLate F T 352 = some (bI (decide (2000 ≤ s ∧ 2000 < m)), T) := by
    intro F
    unfold f_X12_isLate
    rw [z_i352 h.1, qk_true, qv_eq, h.2.1]
    by_cases c1 : m ≤ 2000
    · rw [if_pos (zm.mpr c1), decide_eq_false (by omega)]; rfl
    · rw [if_neg (fun e => c1 (zm.mp e)), qv_eq, t1]
      by_cases c2 : u.1 = 0
      · have := t0.mp c2
        rw [if_pos (z0.mpr c2), decide_eq_true (by omega)]; rfl
      · rw [if_neg (fun e => c2 (z0.mp e)), qv_eq, t2]
        by_cases c3 : s < 2000
        · rw [if_pos (zs.mpr c3), decide_eq_false (by omega)]; rfl
        · rw [if_neg (fun e => c3 (zs.mp e)), decide_eq_true (by omega)]; rfl
  have sg : u.1 = 4 → u.2.1 < 256 ∧ gI T 916 352 = nI u.2.1 := by
    intro q
    refine ⟨?_, t5 q⟩
    rcases tko with ⟨a, _⟩ | ⟨a1, a2, a3, ⟨a, -⟩ | ⟨a, v⟩ | ⟨a, v⟩ | ⟨a, v⟩ | a⟩
    · omega
    · omega
    · omega
    · omega
    · have := cS4_r v; omega
    · omega
  by_cases c : 2000 ≤ s ∧ 2000 < m
  · rw [if_pos c]
    refine ⟨uk, t1, fun q => absurd rfl q, fun q => ⟨_, (sg q).1, (sg q).2, fun q => absurd rfl q⟩, fun q => ⟨_, wix_le _, t4 q, fun q => absurd rfl q⟩, fun F => ?_⟩
    rw [late F, decide_eq_true c, decide_eq_true (show 6 = 6 from rfl)]
  · rw [if_neg c]
    have wke : u.1 = 1 → wk b (u.1, u.2.1, s, u.2.2) = wix (bl b (u.2.2 - s) s) := by
      intro q
      unfold wk
      rw [if_pos (show (u.1, u.2.1, s, u.2.2).1 = 1 from q)]
    refine ⟨uk, t1, fun _ => ⟨rfl, t2, t3, fun q => ?_, t5, t6⟩, fun q => ⟨_, (sg q).1, (sg q).2, fun _ => rfl⟩, fun q => ⟨_, wix_le _, t4 q, fun _ => wke q⟩, fun F => ?_⟩
    · rw [wke q]; exact t4 q
    · rw [late F, decide_eq_false c, decide_eq_false (show ¬ (u.1, u.2.1, s, u.2.2).1 = 6 by show ¬ u.1 = 6; omega)]
end MTS
