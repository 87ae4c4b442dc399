/-! the class's words -/
def TF (m : Nat) (t : Nat × Nat × Nat × Nat) : Prop := t.1 < 7 ∧ (t.1 = 1 → t.2.2.2 ≤ m ∧ t.2.2.1 ≤ t.2.2.2) ∧ (t.1 = 4 → cS4 t.2.1 = true) ∧ (t.1 = 2 → t.2.1 < 100000) ∧ (t.1 = 3 → t.2.1 < 4294967296)
theorem tk_TF (b : Nat → Nat) {m p : Nat} (hp : p ≤ m) : TF m (tk b m p) := by
  obtain ⟨a1, a2, a3, a4, a5, a6, a7⟩ := tk_ok b hp
  exact ⟨a1, fun e => ⟨(a3 (by omega)).2, by have := a4 (by omega) (by omega); omega⟩, a7, a5, a6⟩
theorem kk_iff {m : Nat} {t : Nat × Nat × Nat × Nat} (f : TF m t) {c : Nat} (hc : c < 300) : kk t.1 t.2.1 = nI c ↔ kn t.1 t.2.1 = c := by
  rw [kk_kn]
  refine nI_eq ?_ (by omega)
  have f1 := f.1
  unfold kn
  split
  · rename_i h; have := cS4_r (f.2.2.1 h); omega
  · split <;> omega
theorem kn_k {m : Nat} {t : Nat × Nat × Nat × Nat} (f : TF m t) : (kn t.1 t.2.1 = 256 ↔ t.1 = 0) ∧ (kn t.1 t.2.1 = 257 ↔ t.1 = 1) ∧ (kn t.1 t.2.1 = 258 ↔ t.1 = 2) ∧ (kn t.1 t.2.1 = 259 ↔ t.1 = 3) ∧ (kn t.1 t.2.1 = 260 ↔ t.1 = 5) ∧ (kn t.1 t.2.1 = 261 ↔ t.1 = 6) ∧ ∀ c, c < 256 → (kn t.1 t.2.1 = c ↔ t.1 = 4 ∧ t.2.1 = c) := by
  have f1 := f.1
  unfold kn
  by_cases h : t.1 = 4
  · have := cS4_r (f.2.2.1 h)
    rw [if_pos h]
    exact ⟨by omega, by omega, by omega, by omega, by omega, by omega, fun c hc => by omega⟩
  · rw [if_neg h]
    by_cases h4 : t.1 < 4
    · rw [if_pos h4]
      exact ⟨by omega, by omega, by omega, by omega, by omega, by omega, fun c hc => by omega⟩
    · rw [if_neg h4]
      exact ⟨by omega, by omega, by omega, by omega, by omega, by omega, fun c hc => by omega⟩
theorem kkL {m : Nat} {t : Nat × Nat × Nat × Nat} (f : TF m t) : (kk t.1 t.2.1 = 256 ↔ t.1 = 0) ∧ (kk t.1 t.2.1 = 257 ↔ t.1 = 1) ∧ (kk t.1 t.2.1 = 258 ↔ t.1 = 2) ∧ (kk t.1 t.2.1 = 259 ↔ t.1 = 3) ∧ (kk t.1 t.2.1 = 260 ↔ t.1 = 5) ∧ (kk t.1 t.2.1 = 261 ↔ t.1 = 6) ∧ (kk t.1 t.2.1 = 59 ↔ t.1 = 4 ∧ t.2.1 = 59) ∧ (kk t.1 t.2.1 = 44 ↔ t.1 = 4 ∧ t.2.1 = 44) ∧ (kk t.1 t.2.1 = 45 ↔ t.1 = 4 ∧ t.2.1 = 45) ∧ (kk t.1 t.2.1 = 47 ↔ t.1 = 4 ∧ t.2.1 = 47) := by
  obtain ⟨k0, k1, k2, k3, k5, k6, kc⟩ := kn_k f
  exact ⟨(kk_iff f (c := 256) (by omega)).trans k0, (kk_iff f (c := 257) (by omega)).trans k1, (kk_iff f (c := 258) (by omega)).trans k2, (kk_iff f (c := 259) (by omega)).trans k3, (kk_iff f (c := 260) (by omega)).trans k5, (kk_iff f (c := 261) (by omega)).trans k6, (kk_iff f (c := 59) (by omega)).trans (kc 59 (by omega)), (kk_iff f (c := 44) (by omega)).trans (kc 44 (by omega)), (kk_iff f (c := 45) (by omega)).trans (kc 45 (by omega)), (kk_iff f (c := 47) (by omega)).trans (kc 47 (by omega))⟩
section WDS
variable {S T : gk_S} {F m : Nat} {b : Nat → Nat} {t : Nat × Nat × Nat × Nat}
theorem k_isw (hF : 16400 ≤ F) (h : RD T b m) (c : CTk T t) (f : TF m t) {i w : Nat} (hi : i < 34) (hw : w < 18) (e : txt i = wrd w) : f_X9_isWord F T 256 i = some (bI (decide (wk b t = w)), T) := by
  have m2 := h.2.2.1
  have hl := (tx_ok i hi).1
  have kq := kkL f
  unfold f_X9_isWord wk
  rw [ltb_of hi, qk_true, z_i256 h.1, qk_true, qv_eq, c.1]
  by_cases c1 : t.1 = 1
  · obtain ⟨f1, f2⟩ := f.2.1 c1
    have z : nI (t.2.2.2 - t.2.2.1) = nI (tlen i) ↔ t.2.2.2 - t.2.2.1 = tlen i := nI_eq (by omega) (by omega)
    rw [if_pos (kq.2.1.mpr c1), qv_eq, qv_eq, c.2.2.1 (by omega), c.2.1, j_len hi, qc_some', pk_sub f2, if_pos c1]
    by_cases cl : t.2.2.2 - t.2.2.1 = tlen i
    · have k := k_isw30 (F := F) h c.2.1 hi (by omega) (tlen i) 0 F (by omega) (by omega)
      rw [if_pos (z.mpr cl), cl]
      rw [List.drop_zero, Nat.add_zero] at k
      refine k.trans ?_
      congr 3
      refine decide_eq_decide.mpr ?_
      rw [wix_iff hw, e]
      exact ⟨fun q => q.symm, fun q => q.symm⟩
    · rw [if_neg (fun q => cl (z.mp q)), decide_eq_false]
      · rfl
      · intro q
        have := (wix_iff hw _).mp q
        apply cl
        rw [← txt_len, e, this, bl_len]
  · rw [if_neg (fun q => c1 (kq.2.1.mp q)), if_neg c1, decide_eq_false (by omega)]
    rfl
theorem k_act2 (hF : 16400 ≤ F) (h : RD T b m) (c : CTk T t) (f : TF m t) : ∀ d k fu, k + d = 3 → d < fu → f_X9_actionHere_2 F fu 256 (nI k) T = some (if k ≤ wk b t ∧ wk b t < 3 then nI (wk b t) else -1, T) := by
  intro d
  induction d with
  | zero =>
    intro k fu h1 h2
    obtain ⟨fu, rfl⟩ : ∃ q, fu = q + 1 := ⟨fu - 1, by omega⟩
    rw [f_X9_actionHere_2, if_pos (show (3 : Int32) ≤ nI k from nI_le (a := 3) (by omega) (by omega)), if_neg (by omega)]
  | succ d ih =>
    intro k fu h1 h2
    obtain ⟨fu, rfl⟩ : ∃ q, fu = q + 1 := ⟨fu - 1, by omega⟩
    rw [f_X9_actionHere_2, if_neg (show ¬ (3 : Int32) ≤ nI k from nI_ge (b := 3) (by omega) (by omega)), k_aword (by omega), qc_some', z_i256 h.1, qk_true, k_isw hF h c f (by omega) (by omega : k < 18) (twrd.2.2.2.2.1 k (by omega)), qc_some']
    by_cases q : wk b t = k
    · rw [decide_eq_true q, if_neg (show ¬ bI true = 0 by decide), if_pos (by omega), q]
    · rw [decide_eq_false q, if_pos (show bI false = 0 from rfl), nI_1, ih (k + 1) fu (by omega) (by omega)]
      by_cases q2 : k ≤ wk b t ∧ wk b t < 3
      · rw [if_pos q2, if_pos (by omega)]
      · rw [if_neg q2, if_neg (by omega)]
theorem k_act (hF : 16400 ≤ F) (h : RD T b m) (c : CTk T t) (f : TF m t) : f_X9_actionHere F T 256 = some (if wk b t < 3 then nI (wk b t) else -1, T) := by
  have := k_act2 (F := F) hF h c f 3 0 F (by omega) (by omega)
  simp only [Nat.zero_le, true_and] at this
  exact this
theorem k_par2 (hF : 16400 ≤ F) (h : RD T b m) (c : CTk T t) (f : TF m t) : ∀ d k fu, k + d = 7 → d < fu → f_X9_partHere_2 F fu 256 (nI k) T = some (if 4 + k ≤ wk b t ∧ wk b t < 11 then nI (wk b t - 4) else -1, T) := by
  intro d
  induction d with
  | zero =>
    intro k fu h1 h2
    obtain ⟨fu, rfl⟩ : ∃ q, fu = q + 1 := ⟨fu - 1, by omega⟩
    rw [f_X9_partHere_2, if_pos (show (7 : Int32) ≤ nI k from nI_le (a := 7) (by omega) (by omega)), if_neg (by omega)]
  | succ d ih =>
    intro k fu h1 h2
    obtain ⟨fu, rfl⟩ : ∃ q, fu = q + 1 := ⟨fu - 1, by omega⟩
    have pw : f_X11_partWord F T (nI k) = some (8 + k, T) := by
      by_cases k6 : k < 6
      · exact k_pword k6
      · have : k = 6 := by omega
        subst this
        rfl
    rw [f_X9_partHere_2, if_neg (show ¬ (7 : Int32) ≤ nI k from nI_ge (b := 7) (by omega) (by omega)), pw, qc_some', z_i256 h.1, qk_true, k_isw hF h c f (by omega) (by omega : 4 + k < 18) (twrd.2.2.2.2.2.1 k (by omega)), qc_some']
    by_cases q : wk b t = 4 + k
    · rw [decide_eq_true q, if_neg (show ¬ bI true = 0 by decide), if_pos (by omega), q, show 4 + k - 4 = k by omega]
    · rw [decide_eq_false q, if_pos (show bI false = 0 from rfl), nI_1, ih (k + 1) fu (by omega) (by omega)]
      by_cases q2 : 4 + k ≤ wk b t ∧ wk b t < 11
      · rw [if_pos q2, if_pos (by omega)]
      · rw [if_neg q2, if_neg (by omega)]
theorem k_par (hF : 16400 ≤ F) (h : RD T b m) (c : CTk T t) (f : TF m t) : f_X9_partHere F T 256 = some (if 4 ≤ wk b t ∧ wk b t < 11 then nI (wk b t - 4) else -1, T) := k_par2 (F := F) hF h c f 7 0 F (by omega) (by omega)
theorem k_sta2 (hF : 16400 ≤ F) (h : RD T b m) (c : CTk T t) (f : TF m t) : ∀ d k fu, k + d = 4 → d < fu → f_X9_stateHere_2 F fu 256 (nI k) T = some (if 14 + k ≤ wk b t ∧ wk b t < 18 then nI (wk b t - 14) else -1, T) := by
  intro d
  induction d with
  | zero =>
    intro k fu h1 h2
    obtain ⟨fu, rfl⟩ : ∃ q, fu = q + 1 := ⟨fu - 1, by omega⟩
    rw [f_X9_stateHere_2, if_pos (show (4 : Int32) ≤ nI k from nI_le (a := 4) (by omega) (by omega)), if_neg (by omega)]
  | succ d ih =>
    intro k fu h1 h2
    obtain ⟨fu, rfl⟩ : ∃ q, fu = q + 1 := ⟨fu - 1, by omega⟩
    rw [f_X9_stateHere_2, if_neg (show ¬ (4 : Int32) ≤ nI k from nI_ge (b := 4) (by omega) (by omega)), k_sword (by omega), qc_some', z_i256 h.1, qk_true, k_isw hF h c f (by omega) (by omega : 14 + k < 18) (twrd.2.2.2.2.2.2 k (by omega)), qc_some']
    by_cases q : wk b t = 14 + k
    · rw [decide_eq_true q, if_neg (show ¬ bI true = 0 by decide), if_pos (by omega), q, show 14 + k - 14 = k by omega]
    · rw [decide_eq_false q, if_pos (show bI false = 0 from rfl), nI_1, ih (k + 1) fu (by omega) (by omega)]
      by_cases q2 : 14 + k ≤ wk b t ∧ wk b t < 18
      · rw [if_pos q2, if_pos (by omega)]
      · rw [if_neg q2, if_neg (by omega)]
theorem k_sta (hF : 16400 ≤ F) (h : RD T b m) (c : CTk T t) (f : TF m t) : f_X9_stateHere F T 256 = some (if 14 ≤ wk b t ∧ wk b t < 18 then nI (wk b t - 14) else -1, T) := k_sta2 (F := F) hF h c f 4 0 F (by omega) (by omega)
end WDS
