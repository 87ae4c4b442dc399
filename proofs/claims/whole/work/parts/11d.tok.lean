/-! tokens, the words of them -/
def tk (b : Nat → Nat) (m p : Nat) : Nat × Nat × Nat × Nat := if 2000 ≤ wsE b m p ∧ 2000 < m then (6, 0, 2000, wsE b m p) else ((tok b m (wsE b m p)).1, (tok b m (wsE b m p)).2.1, wsE b m p, (tok b m (wsE b m p)).2.2)
def CTk (T : gk_S) (t : Nat × Nat × Nat × Nat) : Prop := gI T 703 256 = kk t.1 t.2.1 ∧ gI T 704 256 = nI t.2.2.1 ∧ (t.1 < 5 → gI T 705 256 = nI t.2.2.2) ∧ (t.1 = 2 ∨ t.1 = 3 → gJ T 706 256 = lN t.2.1)
theorem ws_le (b : Nat → Nat) {m p : Nat} (h : p ≤ m) : p ≤ wsE b m p ∧ wsE b m p ≤ m := by
  have := scn_ge (fun i => sp (b i)) (m - p) p
  unfold wsE
  omega
theorem run_le (b : Nat → Nat) {m s : Nat} (h : s < m) (hA : cA (b s) = true) : s < runE b m s ∧ runE b m s ≤ m := by
  have g := scn_ge (fun i => cA (b i)) (m - s - 1) (s + 1)
  unfold runE
  rw [show m - s = m - s - 1 + 1 by omega, scn, if_pos hA]
  omega
theorem adr_le (b : Nat → Nat) {m s : Nat} (h : s < m) (hA : cA (b s) = true) : s < adrE b m s ∧ adrE b m s ≤ m := by
  have g := scn_ge (fun i => cX (b i)) (m - s - 1) (s + 1)
  unfold adrE
  rw [show m - s = m - s - 1 + 1 by omega, scn, if_pos (show cX (b s) = true by unfold cX; rw [hA]; rfl)]
  omega
theorem adr_lt (b : Nat → Nat) : ∀ d k gs n v w, v < 256 ^ n → adr b d k gs n v = some w → w < 4294967296 := by
  intro d
  have key : ∀ {n v x : Nat}, v < 256 ^ n → x < 256 → v * 256 + x < 256 ^ (n + 1) := by
    intro n v x h1 h2
    rw [Nat.pow_succ]
    omega
  have gv : ∀ {gs k : Nat}, gg b gs k = true → nv b (k - gs) gs 0 < 256 := by
    intro gs k h
    unfold gg at h
    simp only [Bool.and_eq_true, decide_eq_true_eq] at h
    exact h.2.2
  induction d with
  | zero =>
    intro k gs n v w hv e
    rw [adr] at e
    by_cases c : gs < k ∧ gg b gs k = true ∧ n < 4
    · rw [if_pos c] at e
      by_cases c4 : n + 1 = 4
      · rw [if_pos c4] at e
        have := key hv (gv c.2.1)
        rw [c4] at this
        injection e with e
        rw [← e]
        exact this
      · rw [if_neg c4] at e; exact absurd e (by simp)
    · rw [if_neg c] at e; exact absurd e (by simp)
  | succ d ih =>
    intro k gs n v w hv e
    rw [adr] at e
    by_cases q : b k = 46
    · rw [if_pos q] at e
      by_cases c : gs < k ∧ gg b gs k = true ∧ n < 4
      · rw [if_pos c] at e
        exact ih _ _ _ _ _ (key hv (gv c.2.1)) e
      · rw [if_neg c] at e; exact absurd e (by simp)
    · rw [if_neg q] at e
      exact ih _ _ _ _ _ hv e
/-- what tokens are -/
def TOK (b : Nat → Nat) (m s : Nat) (t : Nat × Nat × Nat) : Prop := (t.1 = 0 ∧ t.2.2 = s) ∨ (s < m ∧ s < t.2.2 ∧ t.2.2 ≤ m ∧ ((t.1 = 1 ∧ t.2.2 = runE b m s) ∨ (t.1 = 2 ∧ t.2.1 < 100000) ∨ (t.1 = 3 ∧ t.2.1 < 4294967296) ∨ (t.1 = 4 ∧ cS4 t.2.1 = true) ∨ t.1 = 5))
theorem tok_ok (b : Nat → Nat) (m s : Nat) : TOK b m s (tok b m s) := by
  unfold tok
  by_cases c0 : m ≤ s
  · rw [if_pos c0]; exact Or.inl ⟨rfl, rfl⟩
  rw [if_neg c0]
  right
  by_cases cA1 : cA (b s) = true
  · rw [if_pos cA1]
    have g := run_le b (by omega : s < m) cA1
    have g2 := adr_le b (by omega : s < m) cA1
    by_cases cd : alD b (runE b m s - s) s = true
    · rw [if_pos cd]
      by_cases c46 : runE b m s < m ∧ b (runE b m s) = 46
      · rw [if_pos c46]
        cases e : adr b (adrE b m s - s) s s 0 0 with
        | none => exact ⟨by omega, g2.1, g2.2, Or.inr (Or.inr (Or.inr (Or.inr rfl)))⟩
        | some v => exact ⟨by omega, g2.1, g2.2, Or.inr (Or.inr (Or.inl ⟨rfl, adr_lt b _ _ _ _ _ _ (by decide) e⟩))⟩
      · rw [if_neg c46]
        by_cases c5 : runE b m s - s ≤ 5
        · rw [if_pos c5]
          refine ⟨by omega, g.1, g.2, Or.inr (Or.inl ⟨rfl, ?_⟩)⟩
          have vb := nv_lt b (runE b m s - s) s 0 0 cd (by decide)
          have p5 : 10 ^ (0 + (runE b m s - s)) ≤ 10 ^ 5 := Nat.pow_le_pow_right (by decide) (by omega)
          exact Nat.lt_of_lt_of_le vb p5
        · rw [if_neg c5]
          exact ⟨by omega, g.1, g.2, Or.inr (Or.inr (Or.inr (Or.inr rfl)))⟩
    · rw [if_neg cd]
      by_cases cl : alL b (runE b m s - s) s = true ∧ runE b m s - s ≤ 11
      · rw [if_pos cl]
        exact ⟨by omega, g.1, g.2, Or.inl ⟨rfl, rfl⟩⟩
      · rw [if_neg cl]
        exact ⟨by omega, g.1, g.2, Or.inr (Or.inr (Or.inr (Or.inr rfl)))⟩
  · rw [if_neg cA1]
    by_cases c4 : cS4 (b s) = true
    · rw [if_pos c4]
      exact ⟨by omega, by show s < s + 1; omega, by show s + 1 ≤ m; omega, Or.inr (Or.inr (Or.inr (Or.inl ⟨rfl, c4⟩)))⟩
    · rw [if_neg c4]
      exact ⟨by omega, by show s < s + 1; omega, by show s + 1 ≤ m; omega, Or.inr (Or.inr (Or.inr (Or.inr rfl)))⟩
/-- kind under 7; p ≤ place ≤ end ≤ m; what is read goes on; bounds -/
theorem tk_ok (b : Nat → Nat) {m p : Nat} (hp : p ≤ m) : (tk b m p).1 < 7 ∧ (tk b m p).2.2.1 ≤ m ∧ ((tk b m p).1 < 5 → p ≤ (tk b m p).2.2.2 ∧ (tk b m p).2.2.2 ≤ m) ∧ (1 ≤ (tk b m p).1 → (tk b m p).1 < 5 → p < (tk b m p).2.2.2 ∧ (tk b m p).2.2.1 < (tk b m p).2.2.2) ∧ ((tk b m p).1 = 2 → (tk b m p).2.1 < 100000) ∧ ((tk b m p).1 = 3 → (tk b m p).2.1 < 4294967296) ∧ ((tk b m p).1 = 4 → cS4 (tk b m p).2.1 = true) := by
  have w := ws_le b hp
  have t := tok_ok b m (wsE b m p)
  unfold tk
  by_cases c : 2000 ≤ wsE b m p ∧ 2000 < m
  · rw [if_pos c]
    refine ⟨by show 6 < 7; omega, by show 2000 ≤ m; omega, fun q => ?_, fun _ q => ?_, fun q => ?_, fun q => ?_, fun q => ?_⟩
    · exact absurd q (show ¬ 6 < 5 by decide)
    · exact absurd q (show ¬ 6 < 5 by decide)
    · exact absurd q (show ¬ 6 = 2 by decide)
    · exact absurd q (show ¬ 6 = 3 by decide)
    · exact absurd q (show ¬ 6 = 4 by decide)
  · rw [if_neg c]
    show (tok b m (wsE b m p)).1 < 7 ∧ wsE b m p ≤ m ∧ ((tok b m (wsE b m p)).1 < 5 → p ≤ (tok b m (wsE b m p)).2.2 ∧ (tok b m (wsE b m p)).2.2 ≤ m) ∧ (1 ≤ (tok b m (wsE b m p)).1 → (tok b m (wsE b m p)).1 < 5 → p < (tok b m (wsE b m p)).2.2 ∧ wsE b m p < (tok b m (wsE b m p)).2.2) ∧ ((tok b m (wsE b m p)).1 = 2 → (tok b m (wsE b m p)).2.1 < 100000) ∧ ((tok b m (wsE b m p)).1 = 3 → (tok b m (wsE b m p)).2.1 < 4294967296) ∧ ((tok b m (wsE b m p)).1 = 4 → cS4 (tok b m (wsE b m p)).2.1 = true)
    generalize tok b m (wsE b m p) = t0 at t
    rcases t with ⟨a, e⟩ | ⟨a1, a2, a3, ⟨a, -⟩ | ⟨a, v⟩ | ⟨a, v⟩ | ⟨a, v⟩ | a⟩
    · exact ⟨by omega, by omega, fun _ => by omega, fun _ _ => by omega, fun _ => by omega, fun _ => by omega, fun _ => by omega⟩
    · exact ⟨by omega, by omega, fun _ => by omega, fun _ _ => by omega, fun _ => by omega, fun _ => by omega, fun _ => by omega⟩
    · exact ⟨by omega, by omega, fun _ => by omega, fun _ _ => by omega, fun _ => v, fun _ => by omega, fun _ => by omega⟩
    · exact ⟨by omega, by omega, fun _ => by omega, fun _ _ => by omega, fun _ => by omega, fun _ => v, fun _ => by omega⟩
    · exact ⟨by omega, by omega, fun _ => by omega, fun _ _ => by omega, fun _ => by omega, fun _ => by omega, fun _ => v⟩
    · exact ⟨by omega, by omega, fun _ => by omega, fun _ _ => by omega, fun _ => by omega, fun _ => by omega, fun _ => by omega⟩
/-- bytes as a list -/
def bl (b : Nat → Nat) : Nat → Nat → List Nat
  | 0, _ => []
  | d + 1, s => b s :: bl b d (s + 1)
theorem bl_len (b : Nat → Nat) : ∀ d s, (bl b d s).length = d := by
  intro d
  induction d with
  | zero => intro s; rfl
  | succ d ih => intro s; rw [bl, List.length_cons, ih]
def wixf : Nat → List Nat → Nat
  | 0, _ => 18
  | n + 1, l => if wrd n = l then n else wixf n l
def wix (l : List Nat) : Nat := wixf 18 l
set_option maxRecDepth 100000 in
theorem wix_w : ∀ w, w < 18 → wix (wrd w) = w := by decide +kernel
theorem wixf_eq : ∀ n l, wixf n l = 18 ∨ (wixf n l < n ∧ wrd (wixf n l) = l) := by
  intro n
  induction n with
  | zero => intro l; exact Or.inl rfl
  | succ n ih =>
    intro l
    rw [wixf]
    by_cases c : wrd n = l
    · rw [if_pos c]; exact Or.inr ⟨by omega, c⟩
    · rw [if_neg c]
      rcases ih l with h | h
      · exact Or.inl h
      · exact Or.inr ⟨by omega, h.2⟩
theorem wix_iff {w : Nat} (hw : w < 18) (l : List Nat) : wix l = w ↔ wrd w = l := by
  constructor
  · intro e
    rcases wixf_eq 18 l with h | h
    · exact absurd (show wixf 18 l = w from e) (by omega)
    · have : wixf 18 l = w := e
      rw [this] at h
      exact h.2
  · intro e; rw [← e]; exact wix_w w hw
theorem wix_le (l : List Nat) : wix l ≤ 18 := by
  rcases wixf_eq 18 l with h | h
  · exact Nat.le_of_eq h
  · exact Nat.le_of_lt h.1
/-- which word a token is -/
def wk (b : Nat → Nat) (t : Nat × Nat × Nat × Nat) : Nat := if t.1 = 1 then wix (bl b (t.2.2.2 - t.2.2.1) t.2.2.1) else 18
def kn (k v : Nat) : Nat := if k = 4 then v else if k < 4 then 256 + k else 255 + k
theorem kk_kn (k v : Nat) : kk k v = nI (kn k v) := by unfold kk kn; split; rfl; split <;> rfl
theorem cS4_r {c : Nat} (h : cS4 c = true) : c = 59 ∨ c = 44 ∨ c = 45 ∨ c = 47 := of_decide_eq_true h
set_option maxRecDepth 100000 in
theorem twrd : txt 1 = wrd 3 ∧ txt 5 = wrd 11 ∧ txt 6 = wrd 12 ∧ txt 7 = wrd 13 ∧ (∀ a, a < 3 → txt (2 + a) = wrd a) ∧ (∀ a, a < 7 → txt (8 + a) = wrd (4 + a)) ∧ (∀ a, a < 4 → txt (15 + a) = wrd (14 + a)) := by decide +kernel
section STP
variable {S T : gk_S} {F m : Nat} {b : Nat → Nat}
theorem k_tstep (hF : 16400 ≤ F) {p : Nat} (h : RD S b m) (e5 : gI S 705 256 = nI p) (hp : p ≤ m) : ∃ T, f_X9_step F S 256 = some ((), T) ∧ Frm [703, 704, 705] [706] [] [] [] [] S T ∧ CTk T (tk b m p) := by
  have m2 := h.2.2.1
  have h0 := RD_sI h (f := 704) (by decide) 256 (nI p)
  have k := k_ws (F := F) (m - p) p F (sI S 704 256 (nI p)) h0 (rd_eq _ _ _ _) (by omega) (by omega)
  rw [sI_sI, show scn (fun i => sp (b i)) (m - p) p = wsE b m p from rfl] at k
  have wl := ws_le b hp
  unfold tk
  generalize wsE b m p = s at k wl
  have h1 := RD_sI h (f := 704) (by decide) 256 (nI s)
  have h2 := RD_sI h1 (f := 705) (by decide) 256 (nI s)
  have h3 := RD_sJ h2 706 256 0
  have f3 : Frm [703, 704, 705] [706] [] [] [] [] S (sJ (sI (sI S 704 256 (nI s)) 705 256 (nI s)) 706 256 0) := Fr_sJ (Fr_sI (Fr_sI Fr_refl (by decide) _ _) (by decide) _ _) (by decide) _ _
  have q4 : gI (sJ (sI (sI S 704 256 (nI s)) 705 256 (nI s)) 706 256 0) 704 256 = nI s := by rw [rd_J, rd_ne _ _ (Or.inl (by decide))]; exact rd_eq _ _ _ _
  have q5 : gI (sJ (sI (sI S 704 256 (nI s)) 705 256 (nI s)) 706 256 0) 705 256 = nI s := by rw [rd_J]; exact rd_eq _ _ _ _
  have q6 : gJ (sJ (sI (sI S 704 256 (nI s)) 705 256 (nI s)) 706 256 0) 706 256 = lN 0 := rj_eq _ _ _ _
  have z2 : nI s < 2000 ↔ s < 2000 := nI_ltI (b := 2000) (by omega) (by omega)
  have z3 : nI m ≤ 2000 ↔ m ≤ 2000 := nI_leI (b := 2000) (by omega) (by omega)
  unfold f_X9_step
  rw [z_i256 h.1, qk_true, qv_eq, e5, qv_eq, k]
  unfold f_X9_step_67
  rw [z_i256 h1.1, qk_true, qv_eq, rd_eq, qv_eq, qv_eq]
  generalize sJ (sI (sI S 704 256 (nI s)) 705 256 (nI s)) 706 256 0 = T1 at h3 f3 q4 q5 q6
  rw [qv_eq, q4]
  have go : ∃ T, f_X9_step_120 F 256 T1 = some ((), T) ∧ Frm [703, 704, 705] [706] [] [] [] [] S T ∧ CTk T ((tok b m s).1, (tok b m s).2.1, s, (tok b m s).2.2) := by
    unfold f_X9_step_120
    rw [z_i256 h3.1, qk_true, qv_eq, q4, z_p700_256 h3.1, qP_some', z_i1 h3.1, qk_true, qv_eq, h3.2.1]
    by_cases c : s < m
    · have bl := RD_b h s
      have a := k_rat (F := F) h3 (show s < 2 ^ 31 by omega)
      unfold cb at a
      rw [if_pos c] at a
      rw [if_pos (nI_lt c (by omega)), qP_some', qv_eq, z_i1 h3.1, qk_true, a, qc_some', k_lod (by omega), qc_some']
      cases cA1 : cA (b s)
      · rw [if_pos (show bI false = 0 from rfl), z_i256 h3.1, qk_true, z_p700_256 h3.1, qP_some', qv_eq, q4, z_i1 h3.1, qk_true, a, qc_some', k_sgn (by omega), qc_some']
        have tq : tok b m s = if cS4 (b s) = true then (4, b s, s + 1) else (5, 0, s + 1) := by
          unfold tok
          rw [if_neg (show ¬ m ≤ s by omega), if_neg (show ¬ cA (b s) = true by rw [cA1]; decide)]
        rw [tq]
        unfold f_X9_step_203
        cases c4 : cS4 (b s)
        · rw [if_pos (show bI false = 0 from rfl), z_i256 h3.1, qk_true, qv_eq, z_i256 (Sh_sI h3.1 _ _ _), qk_true, qv_eq, rd_ne _ _ (Or.inl (by decide)), q4, qv_eq, if_neg (show ¬ false = true by decide), nI_1]
          refine ⟨_, rfl, Fr_sI (Fr_sI f3 (by decide) _ _) (by decide) _ _, ?_, ?_, fun _ => rd_eq _ _ _ _, fun q => absurd q (show ¬ ((5 : Nat) = 2 ∨ (5 : Nat) = 3) by decide)⟩
          · rw [rd_ne _ _ (Or.inl (by decide))]; exact rd_eq _ _ _ _
          · rw [rd_ne _ _ (Or.inl (by decide)), rd_ne _ _ (Or.inl (by decide))]; exact q4
        · rw [if_neg (show ¬ bI true = 0 by decide), z_i256 h3.1, qk_true, z_p700_256 h3.1, qP_some', qv_eq, q4, z_i1 h3.1, qk_true, a, qc_some', z_i256 h3.1, qk_true, qv_eq, z_i256 (Sh_sI h3.1 _ _ _), qk_true, qv_eq, rd_ne _ _ (Or.inl (by decide)), q4, qv_eq, if_pos rfl, nI_1]
          refine ⟨_, rfl, Fr_sI (Fr_sI f3 (by decide) _ _) (by decide) _ _, ?_, ?_, fun _ => rd_eq _ _ _ _, fun q => absurd q (show ¬ ((4 : Nat) = 2 ∨ (4 : Nat) = 3) by decide)⟩
          · rw [rd_ne _ _ (Or.inl (by decide))]; exact rd_eq _ _ _ _
          · rw [rd_ne _ _ (Or.inl (by decide)), rd_ne _ _ (Or.inl (by decide))]; exact q4
      · obtain ⟨T', r, fr, t1, t2, t3⟩ := k_readRun (F := F) hF h3 q4 q5 q6 c cA1
        rw [if_neg (show ¬ bI true = 0 by decide), z_i256 h3.1, qk_true, r, qc_some']
        exact ⟨_, rfl, Fr_trans f3 (Fr_mono fr (by decide) (by decide) (by decide) (by decide) (by decide) (by decide)), t1, (fr.2.2.2.1 704 256 (by decide)).trans q4, fun q => t2 (Nat.ne_of_lt q), t3⟩
    · rw [if_neg (nI_nlt (by omega) (by omega)), qv_eq]
      have tq : tok b m s = (0, 0, s) := by
        unfold tok
        rw [if_pos (show m ≤ s by omega)]
      rw [tq]
      refine ⟨_, rfl, Fr_sI f3 (by decide) _ _, rd_eq _ _ _ _, ?_, fun _ => ?_, fun q => absurd q (show ¬ ((0 : Nat) = 2 ∨ (0 : Nat) = 3) by decide)⟩
      · rw [rd_ne _ _ (Or.inl (by decide))]; exact q4
      · rw [rd_ne _ _ (Or.inl (by decide))]; exact q5
  by_cases c1 : s < 2000
  · rw [if_pos (z2.mpr c1), if_neg (by omega)]
    exact go
  · rw [if_neg (fun e => c1 (z2.mp e)), z_p700_256 h3.1, qP_some', z_i1 h3.1, qk_true, qv_eq, h3.2.1]
    by_cases c2 : m ≤ 2000
    · rw [if_pos (z3.mpr c2), if_neg (by omega)]
      exact go
    · rw [if_neg (fun e => c2 (z3.mp e)), qv_eq, qv_eq, if_pos (by omega)]
      refine ⟨_, rfl, Fr_sI (Fr_sI f3 (by decide) _ _) (by decide) _ _, ?_, rd_eq _ _ _ _, fun q => absurd q (show ¬ (6 : Nat) < 5 by decide), fun q => absurd q (show ¬ ((6 : Nat) = 2 ∨ (6 : Nat) = 3) by decide)⟩
      rw [rd_ne _ _ (Or.inl (by decide))]; exact rd_eq _ _ _ _
theorem k_isw30 (h : RD T b m) {s i : Nat} (e4 : gI T 704 256 = nI s) (hi : i < 34) (hm : s + tlen i ≤ m) : ∀ d k fu, k + d = tlen i → d < fu → f_X9_isWord_30 F fu 256 i (nI k) T = some (bI (decide (bl b d (s + k) = (txt i).drop k)), T) := by
  have hl := (tx_ok i hi).1
  have m2 := h.2.2.1
  intro d
  induction d with
  | zero =>
    intro k fu h1 h2
    obtain ⟨fu, rfl⟩ : ∃ q, fu = q + 1 := ⟨fu - 1, by omega⟩
    rw [f_X9_isWord_30, ltb_of hi, qk_true, j_len hi, qc_some', if_pos (nI_le (by omega) (by omega)), List.drop_of_length_le (by rw [txt_len]; omega)]
    rfl
  | succ d ih =>
    intro k fu h1 h2
    obtain ⟨fu, rfl⟩ : ∃ q, fu = q + 1 := ⟨fu - 1, by omega⟩
    have a := k_rat (F := F) h (show s + k < 2 ^ 31 by omega)
    unfold cb at a
    rw [if_pos (by omega)] at a
    have tc := (tch_ok hi (show k < tlen i by omega)).2.2
    have bl' := RD_b h (s + k)
    have zz : nI (b (s + k)) = tch i k ↔ b (s + k) = un (tch i k) % 256 := by
      rw [← nI_un (tch i k), nI_eq (by omega) (by omega), un_nI (by omega)]
      omega
    rw [f_X9_isWord_30, ltb_of hi, qk_true, j_len hi, qc_some', if_neg (nI_ge (by omega) (by omega)), z_i256 h.1, qk_true, z_p700_256 h.1, qP_some', qv_eq, e4, z_i1 h.1, qk_true, nI_add, a, qc_some', j_char hi (by omega), qc_some', nI_1, ih (k + 1) fu (by omega) (by omega), txt_drop (i := i) (k := k) (by omega), bl]
    by_cases c : b (s + k) = un (tch i k) % 256
    · rw [if_pos (zz.mpr c)]
      congr 3
      rw [c]
      have : (bl b d (s + (k + 1)) = (txt i).drop (k + 1)) ↔ (un (tch i k) % 256 :: bl b d (s + k + 1) = un (tch i k) % 256 :: (txt i).drop (k + 1)) := by
        rw [show s + (k + 1) = s + k + 1 by omega]
        constructor
        · intro e; rw [e]
        · intro e; injection e
      exact decide_eq_decide.mpr this
    · rw [if_neg (fun e => c (zz.mp e)), decide_eq_false]
      · rfl
      · intro e
        injection e with e1 e2
        exact c e1
end STP
