/-! a rule as a text -/
def pt (f lo hi : Nat) : List Nat := if lo = 0 ∧ hi = tp f then [] else [32] ++ (txt (8 + f) ++ ([32] ++ (vl f lo ++ (if hi = lo then [] else [45] ++ vl f hi))))
def stx (s : Nat) : Nat → List Nat → List Nat
  | 0, _ => []
  | d + 1, c => if Nat.testBit s (3 - d) = true then c ++ (txt (15 + (3 - d)) ++ stx s d [44]) else stx s d c
def stt (s : Nat) : List Nat := if s = 15 then [] else [32] ++ (txt 14 ++ ([32] ++ stx s 4 []))
def pts (ρ : AR) : Nat → List Nat
  | 0 => []
  | d + 1 => pt (5 - d) (ρ.lo (5 - d)) (ρ.hi (5 - d)) ++ pts ρ d
def rt (ρ : AR) : List Nat := txt (2 + ρ.a) ++ (pts ρ 6 ++ (stt ρ.s ++ [59, 10]))
set_option maxRecDepth 100000 in
theorem stx_ok : ∀ s, s < 16 → (1 ≤ s → stx s 4 [32] = [32] ++ stx s 4 []) ∧ (stx s 4 []).length ≤ 31 ∧ (stx s 4 [32]).length ≤ 32 ∧ (stt s).length ≤ 38 := by decide +kernel
set_option maxRecDepth 100000 in
theorem wt_ok : (∀ f, f < 6 → wrd (4 + f) = txt (8 + f) ∧ tlen (8 + f) ≤ 5 ∧ wsz (4 + f) ≤ 5) ∧ wrd 10 = txt 14 ∧ wsz 10 ≤ 5 ∧ tlen 14 ≤ 5 ∧ (∀ j, j < 4 → wrd (14 + j) = txt (15 + j) ∧ tlen (15 + j) ≤ 11 ∧ wsz (14 + j) ≤ 11) ∧ (∀ a, a < 3 → wrd a = txt (2 + a) ∧ tlen (2 + a) ≤ 6 ∧ wsz a ≤ 6) ∧ wrd 3 ++ [32] = txt 22 ∧ wsz 3 = 6 ∧ tlen 22 = 7 := by decide +kernel
theorem pt_len {f lo hi : Nat} (hf : f < 6) (h1 : lo ≤ tp f) (h2 : hi ≤ tp f) : (pt f lo hi).length ≤ 40 := by
  have a1 := vl_len hf h1
  have a2 := vl_len hf h2
  have a3 := (wt_ok.1 f hf).2.1
  have a4 : vmx f ≤ 15 := by
    have : ∀ f, f < 6 → vmx f ≤ 15 := by decide
    exact this f hf
  unfold pt
  split
  · simp
  · split <;> simp only [List.length_append, txt_len, List.length_singleton, List.length_nil] <;> omega
theorem tops_eq : ∀ f, f < 6 → gk_tops (nI f).toNatClampNeg = lN (tp f) := by decide +kernel
theorem u32 : un (32 : Int32) % 256 = 32 := by decide
theorem u45 : un (45 : Int32) % 256 = 45 := by decide
theorem u44 : un (44 : Int32) % 256 = 44 := by decide
theorem u59 : un (59 : Int32) % 256 = 59 := by decide
theorem u10 : un (10 : Int32) % 256 = 10 := by decide
section RTX
variable {S T : gk_S} {F : Nat} {g : Nat → Int32} {l : List Nat}
theorem CR_CW {u : Nat} {ρ : AR} (c : CR S u ρ) (g : Nat → Int32) (l : List Nat) : CR (CW S g l) u ρ := by
  refine CR_c c ⟨?_, ?_, rfl, rfl⟩
  · unfold CW oc; rw [rd_ne _ _ (Or.inl (by decide))]; rfl
  · unfold CW oc; rw [rd_ne _ _ (Or.inl (by decide))]; rfl
theorem k_isWh (h : Sh T) {r i : Nat} (hr : Ba r) (hi : i < 16) {ρ : AR} (c : CR T (ru r i) ρ) (w : WR ρ) {f : Nat} (hf : f < 6) : f_X5_isWhole F T (ru r i) (nI f) = some (bI (decide (ρ.lo f = 0 ∧ ρ.hi f = tp f)), T) := by
  have wf := w.2.2 f hf
  have t := tp_lt f
  have ul := z_ul h hr hi
  have e1 : aJ T (ru r i + 1) (nI f) = lN (ρ.lo f) := by unfold aJ; rw [nI_clamp (by omega)]; exact (c.2.2 f hf).1
  have e2 : aJ T (ru r i + 2) (nI f) = lN (ρ.hi f) := by unfold aJ; rw [nI_clamp (by omega)]; exact (c.2.2 f hf).2
  have z0 : lN (ρ.lo f) = 0 ↔ ρ.lo f = 0 := l_eq (b := 0) (by omega) (by omega)
  have z1 : lN (ρ.hi f) = lN (tp f) ↔ ρ.hi f = tp f := l_eq (by omega) (by omega)
  unfold f_X5_isWhole
  rw [if_neg (nI_pos (by omega)), if_pos (show nI f < 6 from nI_lt (b := 6) hf (by omega)), z_u h hr hi, qk_true, z_up h hr hi, qP_some', ul.1, qk_true, ul.2.1, inb_n hf (by omega), qk_true, qv_eq, e1]
  by_cases c0 : ρ.lo f = 0
  · rw [if_pos (z0.mpr c0), z_uq h hr hi, qP_some', ul.2.2.1, qk_true, ul.2.2.2, inb_n hf (by omega), qk_true, qv_eq, e2, inb_n (show f < 7 by omega) (by omega), qk_true, tops_eq f hf]
    by_cases c1 : ρ.hi f = tp f
    · rw [if_pos (z1.mpr c1), decide_eq_true ⟨c0, c1⟩]; rfl
    · rw [if_neg (fun e => c1 (z1.mp e)), decide_eq_false (fun e => c1 e.2)]; rfl
  · rw [if_neg (fun e => c0 (z0.mp e)), decide_eq_false (fun e => c0 e.1)]; rfl
theorem k_putPart (h : Sh S) (hF : 16400 ≤ F) {r i : Nat} (hr : Ba r) (hi : i < 16) {ρ : AR} (c : CR S (ru r i) ρ) (w : WR ρ) {f : Nat} (hf : f < 6) (hl : l.length + 60 ≤ 3000) : f_X1_putPart F (CW S g l) (ru r i) (nI f) 3 = some ((), CW S g (l ++ (vl f (ρ.lo f) ++ (if ρ.hi f = ρ.lo f then [] else [45] ++ vl f (ρ.hi f))))) := by
  have wf := w.2.2 f hf
  have t := tp_lt f
  have Z := fun l => Sh_CW h g l
  have a1 := vl_len hf (show ρ.lo f ≤ tp f by omega)
  have a4 : vmx f ≤ 15 := by
    have : ∀ f, f < 6 → vmx f ≤ 15 := by decide
    exact this f hf
  have e1 : ∀ l, aJ (CW S g l) (ru r i + 1) (nI f) = lN (ρ.lo f) := fun l => by unfold aJ; rw [nI_clamp (by omega)]; exact ((CR_CW c g l).2.2 f hf).1
  have e2 : ∀ l, aJ (CW S g l) (ru r i + 2) (nI f) = lN (ρ.hi f) := fun l => by unfold aJ; rw [nI_clamp (by omega)]; exact ((CR_CW c g l).2.2 f hf).2
  have z1 : lN (ρ.hi f) = lN (ρ.lo f) ↔ ρ.hi f = ρ.lo f := l_eq (by omega) (by omega)
  have ul := fun l => z_ul (Z l) hr hi
  unfold f_X1_putPart
  rw [if_neg (nI_pos (by omega)), if_pos (show nI f < 6 from nI_lt (b := 6) hf (by omega)), z_u (Z _) hr hi, qk_true, z_up (Z _) hr hi, qP_some', (ul _).1, qk_true, (ul _).2.1, inb_n hf (by omega), qk_true, qv_eq, e1, w_value h hF hf (by omega) (by omega), qc_some']
  rw [z_u (Z _) hr hi, qk_true, z_uq (Z _) hr hi, qP_some', (ul _).2.2.1, qk_true, (ul _).2.2.2, inb_n hf (by omega), qk_true, qv_eq, e2, z_up (Z _) hr hi, qP_some', (ul _).1, qk_true, (ul _).2.1, inb_n hf (by omega), qk_true, qv_eq, e1]
  by_cases c1 : ρ.hi f = ρ.lo f
  · rw [if_pos (z1.mpr c1), if_pos c1, List.append_nil]
  · rw [if_neg (fun e => c1 (z1.mp e)), if_neg c1, z_i3 (Z _), qk_true, w_add h (by rw [List.length_append]; omega), qc_some', u45, z_u (Z _) hr hi, qk_true, z_uq (Z _) hr hi, qP_some', (ul _).2.2.1, qk_true, (ul _).2.2.2, inb_n hf (by omega), qk_true, qv_eq, e2, w_value h hF hf (by omega) (by simp only [List.length_append, List.length_singleton]; omega), qc_some']
    simp only [List.append_assoc]
theorem k_pword {f : Nat} (hf : f < 6) : f_X11_partWord F T (nI f) = some (8 + f, T) := by
  have : f = 0 ∨ f = 1 ∨ f = 2 ∨ f = 3 ∨ f = 4 ∨ f = 5 := by omega
  rcases this with rfl | rfl | rfl | rfl | rfl | rfl <;> rfl
theorem k_aword {a : Nat} (ha : a < 3) : f_X11_actionWord F T (nI a) = some (2 + a, T) := by
  have : a = 0 ∨ a = 1 ∨ a = 2 := by omega
  rcases this with rfl | rfl | rfl <;> rfl
theorem k_sword {j : Nat} (hj : j < 4) : f_X11_stateWord F T (nI j) = some (15 + j, T) := by
  have : j = 0 ∨ j = 1 ∨ j = 2 ∨ j = 3 := by omega
  rcases this with rfl | rfl | rfl | rfl <;> rfl
theorem k_hasSt (h : Sh T) {r i : Nat} (hr : Ba r) (hi : i < 16) {ρ : AR} (c : CR T (ru r i) ρ) (w : WR ρ) {j : Nat} (hj : j < 4) : f_X5_hasState F T (ru r i) (nI j) = some (bI (Nat.testBit ρ.s j), T) := by
  have b := bit_eq w.2.1 hj
  unfold f_X5_hasState
  rw [z_u h hr hi, qk_true, qv_eq, c.2.1]
  cases e : Nat.testBit ρ.s j
  · rw [if_pos (b.1.mpr e)]; rfl
  · rw [if_neg (fun q => by rw [b.1.mp q] at e; exact absurd e (by decide))]; rfl
theorem k_states (h : Sh S) (hF : 16400 ≤ F) {r i : Nat} (hr : Ba r) (hi : i < 16) {ρ : AR} (c : CR S (ru r i) ρ) (w : WR ρ) : ∀ d fu (l : List Nat) (x : Int32) (q : List Nat), d ≤ 4 → d < fu → l.length + 13 * d ≤ 3000 → (x = 1 ∧ q = []) ∨ (x = 0 ∧ q = [44]) → f_X1_putStates_4 F fu (ru r i) 3 x (nI (4 - d)) (CW S g l) = some ((), CW S g (l ++ stx ρ.s d q)) := by
  intro d
  have Z := fun l => Sh_CW h g l
  induction d with
  | zero =>
    intro fu l x q h1 h2 h3 h4
    obtain ⟨fu, rfl⟩ : ∃ q, fu = q + 1 := ⟨fu - 1, by omega⟩
    rw [f_X1_putStates_4, if_pos (by decide), stx, List.append_nil]
  | succ d ih =>
    intro fu l x q h1 h2 h3 h4
    obtain ⟨fu, rfl⟩ : ∃ q, fu = q + 1 := ⟨fu - 1, by omega⟩
    have ej : 4 - (d + 1) = 3 - d := by omega
    have ej2 : 3 - d + 1 = 4 - d := by omega
    have hj : 3 - d < 4 := by omega
    have tw := (wt_ok.2.2.2.2.1 (3 - d) hj).2.1
    rw [f_X1_putStates_4, ej, if_neg (show ¬ (4 : Int32) ≤ nI (3 - d) from nI_ge (b := 4) hj (by omega)), z_u (Z _) hr hi, qk_true, k_hasSt (Z _) hr hi (CR_CW c g l) w hj, qc_some', stx]
    cases eb : Nat.testBit ρ.s (3 - d)
    · rw [if_pos (show bI false = 0 from rfl), if_neg (by decide), nI_1, ej2]
      exact ih fu l x q (by omega) (by omega) (by omega) h4
    · rw [if_neg (show ¬ bI true = 0 by decide), if_pos rfl]
      rcases h4 with ⟨rfl, rfl⟩ | ⟨rfl, rfl⟩
      · rw [if_neg (by decide)]
        unfold f_X1_putStates_27
        rw [k_sword hj, qc_some', z_i3 (Z _), qk_true, w_text h hF (by omega) (by omega), qc_some', nI_1, ej2, ih fu _ 0 [44] (by omega) (by omega) (by rw [List.length_append, txt_len]; omega) (Or.inr ⟨rfl, rfl⟩), List.append_assoc]
        rfl
      · rw [if_pos rfl, z_i3 (Z _), qk_true, w_add h (by omega), qc_some', u44]
        unfold f_X1_putStates_27
        rw [k_sword hj, qc_some', z_i3 (Z _), qk_true, w_text h hF (by omega) (by rw [List.length_append, List.length_singleton]; omega), qc_some', nI_1, ej2, ih fu _ 0 [44] (by omega) (by omega) (by simp only [List.length_append, txt_len, List.length_singleton]; omega) (Or.inr ⟨rfl, rfl⟩)]
        simp only [List.append_assoc]
theorem k_end (h : Sh S) (hl : l.length + 2 ≤ 3000) : f_X1_putEnd F (CW S g l) 3 = some ((), CW S g (l ++ [59, 10])) := by
  unfold f_X1_putEnd
  rw [z_i3 (Sh_CW h _ _), qk_true, w_add h (by omega), qc_some', z_i3 (Sh_CW h _ _), qk_true, w_add h (by rw [List.length_append, List.length_singleton]; omega), qc_some', u59, u10, List.append_assoc]
  rfl
theorem k_rule13 (h : Sh S) (hF : 16400 ≤ F) {r i : Nat} (hr : Ba r) (hi : i < 16) {ρ : AR} (c : CR S (ru r i) ρ) (w : WR ρ) : ∀ d fu (l : List Nat), d ≤ 6 → l.length + 40 * d + 60 ≤ 3000 → f_X1_putRule_13 F (fu + d) (ru r i) 3 (nI (6 - d)) (CW S g l) = f_X1_putRule_13 F fu (ru r i) 3 (nI 6) (CW S g (l ++ pts ρ d)) := by
  intro d
  have Z := fun l => Sh_CW h g l
  induction d with
  | zero =>
    intro fu l h1 h2
    rw [pts, List.append_nil]
    rfl
  | succ d ih =>
    intro fu l h1 h2
    have hf : 5 - d < 6 := by omega
    have ef : 6 - (d + 1) = 5 - d := by omega
    have ef2 : 5 - d + 1 = 6 - d := by omega
    have wf := w.2.2 (5 - d) hf
    have pl := pt_len hf (show ρ.lo (5 - d) ≤ tp (5 - d) by omega) wf.2.1
    have tw := (wt_ok.1 (5 - d) hf).2.1
    rw [show fu + (d + 1) = fu + d + 1 from rfl, f_X1_putRule_13, ef, if_neg (show ¬ (7 : Int32) ≤ nI (5 - d) from nI_ge (b := 7) (by omega) (by omega)), z_u (Z _) hr hi, qk_true, k_isWh (Z _) hr hi (CR_CW c g l) w hf, qc_some', pts]
    unfold pt at pl ⊢
    by_cases c0 : ρ.lo (5 - d) = 0 ∧ ρ.hi (5 - d) = tp (5 - d)
    · rw [decide_eq_true c0, if_neg (show ¬ bI true = 0 by decide), if_pos c0, nI_1, ef2, ih fu l (by omega) (by omega)]
      rfl
    · rw [if_neg c0] at pl
      rw [decide_eq_false c0, if_pos (show bI false = 0 from rfl), if_neg c0, z_i3 (Z _), qk_true, w_add h (by omega), qc_some', u32, k_pword hf, qc_some', z_i3 (Z _), qk_true, w_text h hF (by omega) (by rw [List.length_append, List.length_singleton]; omega), qc_some', z_i3 (Z _), qk_true, w_add h (by simp only [List.length_append, List.length_singleton, txt_len]; omega), qc_some', u32, k_putPart h hF hr hi c w hf (by simp only [List.length_append, List.length_singleton, txt_len]; omega), qc_some', nI_1, ef2]
      simp only [List.append_assoc] at pl ⊢
      rw [ih fu _ (by omega) (by rw [List.length_append]; omega)]
      simp only [List.append_assoc]
theorem k_isWh6 (h : Sh T) {r i : Nat} (hr : Ba r) (hi : i < 16) {ρ : AR} (c : CR T (ru r i) ρ) (w : WR ρ) : f_X5_isWhole F T (ru r i) (nI 6) = some (bI (decide (ρ.s = 15)), T) := by
  have z : nI ρ.s = 15 ↔ ρ.s = 15 := nI_eq (b := 15) (by have := w.2.1; omega) (by omega)
  unfold f_X5_isWhole f_X5_isWhole_10
  rw [if_neg (by decide), if_neg (by decide), z_u h hr hi, qk_true, qv_eq, c.2.1]
  by_cases q : ρ.s = 15
  · rw [if_pos (z.mpr q), decide_eq_true q]; rfl
  · rw [if_neg (fun e => q (z.mp e)), decide_eq_false q]; rfl
theorem k_putRule (h : Sh S) (hF : 16400 ≤ F) {r i : Nat} (hr : Ba r) (hi : i < 16) {ρ : AR} (c : CR S (ru r i) ρ) (w : WR ρ) (hl : l.length + 360 ≤ 3000) : f_X1_putRule F (CW S g l) (ru r i) 3 = some ((), CW S g (l ++ rt ρ)) ∧ (rt ρ).length ≤ 300 := by
  have Z := fun l => Sh_CW h g l
  have aw := (wt_ok.2.2.2.2.2.1 ρ.a w.1).2.1
  have pl : ∀ d, d ≤ 6 → (pts ρ d).length ≤ 40 * d := by
    intro d
    induction d with
    | zero => intro _; exact Nat.le_refl _
    | succ d ih =>
      intro hd
      have wf := w.2.2 (5 - d) (by omega)
      have p := pt_len (show 5 - d < 6 by omega) (show ρ.lo (5 - d) ≤ tp (5 - d) by omega) wf.2.1
      have := ih (by omega)
      rw [pts, List.length_append]
      omega
  have pl6 := pl 6 (by omega)
  have so := stx_ok ρ.s w.2.1
  have tw := wt_ok.2.2.2.1
  obtain ⟨fu, e⟩ : ∃ fu, F = fu + 1 + 1 + 6 := ⟨F - 8, by omega⟩
  have a3 : gI (CW S g l) 303 (ru r i) = nI ρ.a := (CR_CW c g l).1
  have k := k_rule13 (F := F) (g := g) h hF hr hi c w 6 (fu + 1 + 1) (l ++ txt (2 + ρ.a)) (by omega) (by rw [List.length_append, txt_len]; omega)
  rw [← e] at k
  have e7 : nI 6 + 1 = nI 7 := rfl
  constructor
  · unfold f_X1_putRule
    rw [z_u (Z _) hr hi, qk_true, qv_eq, a3, k_aword w.1, qc_some', z_i3 (Z _), qk_true, w_text h hF (by have := w.1; omega) (by omega), qc_some', show (0 : Int32) = nI (6 - 6) from rfl, k, f_X1_putRule_13, if_neg (by decide), z_u (Z _) hr hi, qk_true, k_isWh6 (Z _) hr hi (CR_CW c g _) w, qc_some']
    unfold rt
    generalize pts ρ 6 = P at pl6
    have ends : ∀ l, l.length + 2 ≤ 3000 → f_X1_putRule_13 F (fu + 1) (ru r i) 3 (nI 7) (CW S g l) = some ((), CW S g (l ++ [59, 10])) := fun l hl => by
      rw [f_X1_putRule_13, if_pos (by decide), k_end h hl, qc_some']
    unfold stt at so ⊢
    by_cases q : ρ.s = 15
    · rw [decide_eq_true q, if_neg (show ¬ bI true = 0 by decide), if_pos q, e7, ends _ (by simp only [List.length_append, txt_len]; omega)]
      simp only [List.append_assoc, List.nil_append]
    · rw [if_neg q] at so
      have ks := fun l hl => k_states (F := F) (g := g) h hF hr hi c w 4 F l 1 [] (by omega) (by omega) hl (Or.inl ⟨rfl, rfl⟩)
      rw [decide_eq_false q, if_pos (show bI false = 0 from rfl), if_neg q, z_i3 (Z _), qk_true, w_add h (by simp only [List.length_append, txt_len]; omega), qc_some', u32, show f_X11_partWord F (CW S g (l ++ txt (2 + ρ.a) ++ P ++ [32])) (nI 6) = some (14, CW S g (l ++ txt (2 + ρ.a) ++ P ++ [32])) from rfl, qc_some', z_i3 (Z _), qk_true, w_text h hF (by omega) (by simp only [List.length_append, List.length_singleton, txt_len]; omega), qc_some', z_i3 (Z _), qk_true, w_add h (by simp only [List.length_append, List.length_singleton, txt_len]; omega), qc_some', u32]
      unfold f_X1_putPart f_X1_putPart_10 f_X1_putStates
      rw [if_neg (by decide), if_neg (by decide), show (0 : Int32) = nI (4 - 4) from rfl, ks _ (by simp only [List.length_append, List.length_singleton, txt_len]; omega), qc_some', qc_some', e7, ends _ (by simp only [List.length_append, List.length_singleton, txt_len]; omega)]
      simp only [List.append_assoc]
  · unfold rt
    simp only [List.length_append, txt_len, List.length_cons, List.length_nil]
    omega
end RTX
