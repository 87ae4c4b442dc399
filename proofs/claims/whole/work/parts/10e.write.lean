/-! write -/
set_option maxRecDepth 100000 in
theorem pmx_ok : ∀ f, f < 6 → 3 + tlen (8 + f) + 2 * vmx f ≤ [7, 14, 37, 35, 18, 18].getD f 0 := by decide +kernel
theorem pt_len2 {f lo hi : Nat} (hf : f < 6) (h1 : lo ≤ tp f) (h2 : hi ≤ tp f) : (pt f lo hi).length ≤ [7, 14, 37, 35, 18, 18].getD f 0 := by
  have a1 := vl_len hf h1
  have a2 := vl_len hf h2
  have a3 := pmx_ok f hf
  unfold pt
  split
  · exact Nat.zero_le _
  · split <;> simp only [List.length_append, txt_len, List.length_singleton, List.length_nil] <;> omega
theorem rt_len {ρ : AR} (w : WR ρ) : (rt ρ).length ≤ 175 := by
  have aw := (wt_ok.2.2.2.2.2.1 ρ.a w.1).2.1
  have so := stx_ok ρ.s w.2.1
  have p : ∀ f, f < 6 → (pt f (ρ.lo f) (ρ.hi f)).length ≤ [7, 14, 37, 35, 18, 18].getD f 0 := fun f hf => pt_len2 hf (by have := w.2.2 f hf; omega) (w.2.2 f hf).2.1
  have p0 : _ ≤ 7 := p 0 (by omega)
  have p1 : _ ≤ 14 := p 1 (by omega)
  have p2 : _ ≤ 37 := p 2 (by omega)
  have p3 : _ ≤ 35 := p 3 (by omega)
  have p4 : _ ≤ 18 := p 4 (by omega)
  have p5 : _ ≤ 18 := p 5 (by omega)
  have e : (pts ρ 6).length = (pt 0 (ρ.lo 0) (ρ.hi 0)).length + ((pt 1 (ρ.lo 1) (ρ.hi 1)).length + ((pt 2 (ρ.lo 2) (ρ.hi 2)).length + ((pt 3 (ρ.lo 3) (ρ.hi 3)).length + ((pt 4 (ρ.lo 4) (ρ.hi 4)).length + ((pt 5 (ρ.lo 5) (ρ.hi 5)).length + 0))))) := by
    simp only [pts, List.length_append, List.length_nil]
  unfold rt
  simp only [List.length_append, txt_len, List.length_cons, List.length_nil]
  omega
def rts (L : AL) : Nat → List Nat
  | 0 => []
  | d + 1 => rt (L.r (L.n - 1 - d)) ++ rts L d
theorem rts_len {L : AL} (w : WL L) : ∀ d, d ≤ L.n → (rts L d).length ≤ 175 * d := by
  intro d
  induction d with
  | zero => intro _; exact Nat.zero_le _
  | succ d ih =>
    intro hd
    have a := rt_len (w.2.2 (L.n - 1 - d) (by omega))
    have b := ih (by omega)
    rw [rts, List.length_append]
    omega
def lt (L : AL) : List Nat := txt 22 ++ (txt (2 + L.p) ++ ([59, 10] ++ rts L L.n))
section WRT
variable {S T : gk_S} {F : Nat} {g : Nat → Int32} {l : List Nat}
theorem k_put23 (h : Sh S) (hF : 16400 ≤ F) {r : Nat} (hr : Ba r) {L : AL} (c : CL S r L) (w : WL L) : ∀ d fu (l : List Nat), d ≤ L.n → d < fu → l.length + 175 * d + 185 ≤ 3000 → f_X1_put_23 F fu r 3 (nI (L.n - d)) (CW S g l) = some ((), CW S g (l ++ rts L d)) := by
  intro d
  have w1 := w.1
  have Z := fun l => Sh_CW h g l
  have e1 : ∀ l, gI (CW S g l) 401 r = nI L.n := fun l => by
    rw [← c.1]
    unfold CW oc
    rw [rd_ne _ _ (Or.inl (by decide))]
    rfl
  induction d with
  | zero =>
    intro fu l h1 h2 h3
    obtain ⟨fu, rfl⟩ : ∃ q, fu = q + 1 := ⟨fu - 1, by omega⟩
    rw [f_X1_put_23, z_r (Z _) hr, qk_true, qv_eq, e1, if_pos (nI_le (by omega) (by omega)), rts, List.append_nil]
  | succ d ih =>
    intro fu l h1 h2 h3
    obtain ⟨fu, rfl⟩ : ∃ q, fu = q + 1 := ⟨fu - 1, by omega⟩
    have ei : L.n - (d + 1) = L.n - 1 - d := by omega
    have ei2 : L.n - 1 - d + 1 = L.n - d := by omega
    have wr := w.2.2 (L.n - 1 - d) (by omega)
    have a := rt_len wr
    rw [f_X1_put_23, ei, z_r (Z _) hr, qk_true, qv_eq, e1, if_neg (nI_ge (by omega) (by omega)), if_neg (show ¬ (16 : Int32) ≤ nI (L.n - 1 - d) from nI_ge (b := 16) (by omega) (by omega)), k_at (Z _) hr (by omega), qc_some', (k_putRule h hF hr (by omega) (c.2.2 _ (by omega)) wr (by omega)).1, qc_some', nI_1, ei2, ih fu _ (by omega) (by omega) (by rw [List.length_append]; omega), rts, List.append_assoc]
theorem k_put (h : Sh S) (hF : 16400 ≤ F) {r : Nat} (hr : Ba r) {L : AL} (c : CL S r L) (w : WL L) : f_X1_put F (CW S g []) r 3 = some ((), CW S g (lt L)) ∧ (lt L).length ≤ 2815 := by
  have w1 := w.1
  have Z := fun l => Sh_CW h g l
  have aw := (wt_ok.2.2.2.2.2.1 L.p w.2.1).2.1
  have t22 := wt_ok.2.2.2.2.2.2.2.2
  have rl := rts_len w L.n (Nat.le_refl _)
  have e2 : ∀ l, gI (CW S g l) 402 r = nI L.p := fun l => by
    rw [← c.2.1]
    unfold CW oc
    rw [rd_ne _ _ (Or.inl (by decide))]
    rfl
  have k := k_put23 (F := F) (g := g) h hF hr c w L.n F ([] ++ txt 22 ++ txt (2 + L.p) ++ [59, 10]) (Nat.le_refl _) (by omega) (by simp only [List.length_append, txt_len, List.length_cons, List.length_nil]; omega)
  rw [Nat.sub_self] at k
  constructor
  · unfold f_X1_put
    rw [z_i3 (Z _), qk_true, w_text h hF (by omega) (by simp only [List.length_nil]; omega), qc_some', z_r (Z _) hr, qk_true, qv_eq, e2, k_aword w.2.1, qc_some', z_i3 (Z _), qk_true, w_text h hF (by have := w.2.1; omega) (by simp only [List.length_append, txt_len, List.length_nil]; omega), qc_some', k_end h (by simp only [List.length_append, txt_len, List.length_nil]; omega), qc_some', show (0 : Int32) = nI 0 from rfl, k]
    unfold lt
    simp only [List.append_assoc, List.nil_append]
  · unfold lt
    simp only [List.length_append, txt_len, List.length_cons, List.length_nil]
    omega
theorem ML_MW {k : Nat} {L : AL} (m : ML S k L) (g : Nat → Int32) (l : List Nat) : ML (MW S g l) k L := ML_c m ⟨rfl, rfl, rfl, rfl, rfl, rfl⟩
theorem m_most {f : Nat} (hf : f < 6) : f_X12_most F T (nI f) = some (lN (tp f), T) := by
  have : f = 0 ∨ f = 1 ∨ f = 2 ∨ f = 3 ∨ f = 4 ∨ f = 5 := by omega
  rcases this with rfl | rfl | rfl | rfl | rfl | rfl <;> rfl
theorem v_part (h : Sh S) (hF : 16400 ≤ F) (wd9 : Wd S) {k i : Nat} (hk : k < 6) (hi : i < 16) {ρ : AR} (m : MR S (16 * k + i) ρ) (w : WR ρ) {f : Nat} (hf : f < 6) (hl : l.length + 70 ≤ 3000) : f_X12_writePart F (MW S g l) 352 (nI (6 * (16 * k + i) + f)) (nI f) = some ((), MW S g (l ++ pt f (ρ.lo f) (ρ.hi f))) := by
  have wf := w.2.2 f hf
  have t := tp_lt f
  have Z := fun l => Sh_MW h g l
  have hx : 6 * (16 * k + i) + f < 576 := by omega
  have a1 := vl_len hf (show ρ.lo f ≤ tp f by omega)
  have tw := wt_ok.1 f hf
  have a4 : vmx f ≤ 15 := by
    have : ∀ f, f < 6 → vmx f ≤ 15 := by decide
    exact this f hf
  have e1 : ∀ l, aJ (MW S g l) 358 (nI (6 * (16 * k + i) + f)) = lN (ρ.lo f) := fun l => by unfold aJ; rw [nI_clamp (by omega)]; exact (m.2.2 f hf).1
  have e2 : ∀ l, aJ (MW S g l) 359 (nI (6 * (16 * k + i) + f)) = lN (ρ.hi f) := fun l => by unfold aJ; rw [nI_clamp (by omega)]; exact (m.2.2 f hf).2
  generalize 6 * (16 * k + i) + f = x at hx e1 e2
  have z0 : lN (ρ.lo f) = 0 ↔ ρ.lo f = 0 := l_eq (b := 0) (by omega) (by omega)
  have z1 : lN (ρ.hi f) = lN (tp f) ↔ ρ.hi f = tp f := l_eq (by omega) (by omega)
  have z2 : lN (ρ.hi f) = lN (ρ.lo f) ↔ ρ.hi f = ρ.lo f := l_eq (by omega) (by omega)
  have body : ¬ (ρ.lo f = 0 ∧ ρ.hi f = tp f) → f_X12_writePart_26 F 352 (nI x) (nI f) (MW S g l) = some ((), MW S g (l ++ pt f (ρ.lo f) (ρ.hi f))) := by
    intro nw
    unfold f_X12_writePart_26 pt
    rw [if_neg nw, z_i352 (Z _), qk_true, v_put h (by omega), qc_some', u32, z_i352 (Z _), qk_true, show (4 : Int32) + nI f = nI (4 + f) from nI_add 4 f, v_word h hF wd9 (by omega) (by rw [List.length_append, List.length_singleton]; omega), qc_some', tw.1, z_i352 (Z _), qk_true, v_put h (by simp only [List.length_append, List.length_singleton, txt_len]; omega), qc_some', u32, z_i352 (Z _), qk_true, z_p909_352 (Z _), qP_some', z_i358 (Z _), qk_true, z_l358 (Z _), inb_n hx (by omega), qk_true, qv_eq, e1, v_value h hF hf (by omega) (by simp only [List.length_append, List.length_singleton, txt_len]; omega), qc_some']
    rw [z_i352 (Z _), qk_true, z_p910_352 (Z _), qP_some', z_i359 (Z _), qk_true, z_l359 (Z _), inb_n hx (by omega), qk_true, qv_eq, e2, z_p909_352 (Z _), qP_some', z_i358 (Z _), qk_true, z_l358 (Z _), inb_n hx (by omega), qk_true, qv_eq, e1]
    by_cases c1 : ρ.hi f = ρ.lo f
    · rw [if_pos (z2.mpr c1), if_pos c1]
      simp only [List.append_assoc, List.append_nil]
    · rw [if_neg (fun e => c1 (z2.mp e)), if_neg c1, v_put h (by simp only [List.length_append, List.length_singleton, txt_len]; omega), qc_some', u45, z_i352 (Z _), qk_true, z_p910_352 (Z _), qP_some', z_i359 (Z _), qk_true, z_l359 (Z _), inb_n hx (by omega), qk_true, qv_eq, e2, v_value h hF hf (by omega) (by simp only [List.length_append, List.length_singleton, txt_len]; omega), qc_some']
      simp only [List.append_assoc]
  unfold f_X12_writePart
  rw [z_i352 (Z _), qk_true, z_p909_352 (Z _), qP_some', z_i358 (Z _), qk_true, z_l358 (Z _), inb_n hx (by omega), qk_true, qv_eq, e1]
  by_cases c0 : ρ.lo f = 0
  · rw [if_pos (z0.mpr c0), z_p910_352 (Z _), qP_some', z_i359 (Z _), qk_true, z_l359 (Z _), inb_n hx (by omega), qk_true, qv_eq, e2, m_most hf, qc_some']
    by_cases c1 : ρ.hi f = tp f
    · rw [if_pos (z1.mpr c1)]
      unfold pt
      rw [if_pos ⟨c0, c1⟩, List.append_nil]
    · rw [if_neg (fun e => c1 (z1.mp e))]
      exact body (fun e => c1 e.2)
  · rw [if_neg (fun e => c0 (z0.mp e))]
    exact body (fun e => c0 e.1)
theorem v_states (h : Sh S) (hF : 16400 ≤ F) (wd9 : Wd S) {s : Nat} (hs : s < 16) : ∀ d fu (l : List Nat) (x : Int32) (q : List Nat), d ≤ 4 → d < fu → l.length + 13 * d ≤ 3000 → (x = 32 ∧ q = [32]) ∨ (x = 44 ∧ q = [44]) → f_X12_writeStates_17 F fu 352 (nI s) x (nI (4 - d)) (MW S g l) = some ((), MW S g (l ++ stx s d q)) := by
  intro d
  have Z := fun l => Sh_MW h g l
  induction d with
  | zero =>
    intro fu l x q h1 h2 h3 h4
    obtain ⟨fu, rfl⟩ : ∃ q, fu = q + 1 := ⟨fu - 1, by omega⟩
    rw [f_X12_writeStates_17, if_pos (by decide), stx, List.append_nil]
  | succ d ih =>
    intro fu l x q h1 h2 h3 h4
    obtain ⟨fu, rfl⟩ : ∃ q, fu = q + 1 := ⟨fu - 1, by omega⟩
    have ej : 4 - (d + 1) = 3 - d := by omega
    have ej2 : 3 - d + 1 = 4 - d := by omega
    have hj : 3 - d < 4 := by omega
    have tw := wt_ok.2.2.2.2.1 (3 - d) hj
    have b := bit_eq hs hj
    have ux : [un x % 256] = q := by rcases h4 with ⟨rfl, rfl⟩ | ⟨rfl, rfl⟩ <;> rfl
    have ql : q.length = 1 := by rw [← ux]; rfl
    rw [f_X12_writeStates_17, ej, if_neg (show ¬ (4 : Int32) ≤ nI (3 - d) from nI_ge (b := 4) hj (by omega)), stx]
    cases eb : Nat.testBit s (3 - d)
    · rw [if_pos (b.1.mpr eb), if_neg (by decide), nI_1, ej2]
      exact ih fu l x q (by omega) (by omega) (by omega) h4
    · rw [if_neg (fun q => by rw [b.1.mp q] at eb; exact absurd eb (by decide)), if_pos rfl, z_i352 (Z _), qk_true, v_put h (by omega), qc_some', ux, z_i352 (Z _), qk_true, show (14 : Int32) + nI (3 - d) = nI (14 + (3 - d)) from nI_add 14 _, v_word h hF wd9 (by omega) (by rw [List.length_append]; omega), qc_some', tw.1, nI_1, ej2, ih fu _ 44 [44] (by omega) (by omega) (by simp only [List.length_append, txt_len]; omega) (Or.inr ⟨rfl, rfl⟩)]
      simp only [List.append_assoc]
theorem v_w80 (h : Sh S) (hF : 16400 ≤ F) (wd9 : Wd S) {k i : Nat} (hk : k < 6) (hi : i < 16) {ρ : AR} (m : MR S (16 * k + i) ρ) (w : WR ρ) (K : Nat → Int32 → Int32 → gk_S → Option (Int32 × gk_S)) (p q : Int32) : ∀ d fu (l : List Nat), d ≤ 6 → l.length + 40 * d + 60 ≤ 3000 → f_X12_write_80 F K (fu + d) 352 p q (nI (16 * k + i)) (nI (6 - d)) (MW S g l) = f_X12_write_80 F K fu 352 p q (nI (16 * k + i)) (nI 6) (MW S g (l ++ pts ρ d)) := by
  intro d
  have Z := fun l => Sh_MW h g l
  induction d with
  | zero =>
    intro fu l h1 h2
    rw [pts, List.append_nil]
    rfl
  | succ d ih =>
    intro fu l h1 h2
    have hf : 5 - d < 6 := by omega
    have ef : 6 - (d + 1) = 5 - d := by omega
    have ef2 : 5 - d + 1 = 6 - d := by omega
    have wf := w.2.2 (5 - d) hf
    have pl := pt_len hf (show ρ.lo (5 - d) ≤ tp (5 - d) by omega) wf.2.1
    have ex : (6 : Int32) * nI (16 * k + i) + nI (5 - d) = nI (6 * (16 * k + i) + (5 - d)) := by
      rw [show (6 : Int32) = nI 6 from rfl, pk_mul, nI_add]
    rw [show fu + (d + 1) = fu + d + 1 from rfl, f_X12_write_80, ef, if_neg (show ¬ (6 : Int32) ≤ nI (5 - d) from nI_ge (b := 6) (by omega) (by omega)), z_i352 (Z _), qk_true, ex, v_part h hF wd9 hk hi m w hf (by omega), qc_some', nI_1, ef2, ih fu _ (by omega) (by rw [List.length_append]; omega), pts, List.append_assoc]
theorem v_rule (h : Sh S) (hF : 16400 ≤ F) (wd9 : Wd S) {k i : Nat} (hk : k < 6) (hi : i < 16) {ρ : AR} (m : MR S (16 * k + i) ρ) (w : WR ρ) (K : Nat → Int32 → Int32 → gk_S → Option (Int32 × gk_S)) (p q : Int32) (hl : l.length + 360 ≤ 3000) : f_X12_write_80 F K F 352 p q (nI (16 * k + i)) (nI 0) (MW S g (l ++ txt (2 + ρ.a))) = K 352 p (q + 1) (MW S g (l ++ rt ρ)) := by
  have Z := fun l => Sh_MW h g l
  have aw := wt_ok.2.2.2.2.2.1 ρ.a w.1
  have pl6 : (pts ρ 6).length ≤ 175 := by
    have := rt_len w
    unfold rt at this
    simp only [List.length_append] at this
    omega
  have so := stx_ok ρ.s w.2.1
  have s1 : 1 ≤ ρ.s := (w.2.2 0 (by omega)).2.2
  have s16 := w.2.1
  have tw := wt_ok.2.2.2.1
  have tw2 := wt_ok.2.2.1
  obtain ⟨fu, e⟩ : ∃ fu, F = fu + 1 + 6 := ⟨F - 7, by omega⟩
  have v := v_w80 (F := F) (g := g) h hF wd9 hk hi m w K p q 6 (fu + 1) (l ++ txt (2 + ρ.a)) (by omega) (by rw [List.length_append, txt_len]; omega)
  rw [← e, Nat.sub_self] at v
  have z : nI ρ.s = 15 ↔ ρ.s = 15 := nI_eq (b := 15) (by omega) (by omega)
  have a8 : ∀ l, aI (MW S g l) 357 (nI (16 * k + i)) = nI ρ.s := fun l => by unfold aI; rw [nI_clamp (by omega)]; exact m.2.1
  have w127 : ∀ l, l.length + 2 ≤ 3000 → f_X12_write_127 F K 352 p q (MW S g l) = K 352 p (q + 1) (MW S g (l ++ [59, 10])) := by
    intro l hl
    unfold f_X12_write_127
    rw [z_i352 (Z _), qk_true, v_put h (by omega), qc_some', z_i352 (Z _), qk_true, v_put h (by rw [List.length_append, List.length_singleton]; omega), qc_some', u59, u10, List.append_assoc]
    rfl
  rw [v, f_X12_write_80, if_pos (by decide), z_i352 (Z _), qk_true, z_p908_352 (Z _), qP_some', z_i357 (Z _), qk_true, z_l357 (Z _), inb_n (show 16 * k + i < 96 by omega) (by omega), qk_true, qv_eq, a8]
  unfold rt
  generalize pts ρ 6 = P at pl6
  unfold stt at so ⊢
  by_cases c : ρ.s = 15
  · rw [if_pos (z.mpr c), if_pos c, w127 _ (by simp only [List.length_append, txt_len]; omega)]
    simp only [List.append_assoc, List.nil_append]
  · have vs := fun l hl => v_states (F := F) (g := g) h hF wd9 s16 4 F l 32 [32] (by omega) (by omega) hl (Or.inl ⟨rfl, rfl⟩)
    rw [if_neg (fun e => c (z.mp e)), if_neg c, qP_some', z_i357 (Z _), qk_true, z_l357 (Z _), inb_n (show 16 * k + i < 96 by omega) (by omega), qk_true, qv_eq, a8]
    unfold f_X12_writeStates
    rw [z_i352 (Z _), qk_true, v_put h (by simp only [List.length_append, txt_len]; omega), qc_some', u32, z_i352 (Z _), qk_true, show (10 : Int32) = nI 10 from rfl, v_word h hF wd9 (by omega) (by simp only [List.length_append, List.length_singleton, txt_len]; omega), qc_some', wt_ok.2.1, show (0 : Int32) = nI (4 - 4) from rfl, vs _ (by simp only [List.length_append, List.length_singleton, txt_len]; omega), qc_some', so.1 s1, w127 _ (by simp only [List.length_append, List.length_singleton, txt_len]; omega)]
    simp only [List.append_assoc]
theorem v_w50 (h : Sh S) (hF : 16400 ≤ F) (wd9 : Wd S) {k : Nat} (hk : k < 6) {L : AL} (m : ML S k L) (w : WL L) : ∀ d fu (l : List Nat), d ≤ L.n → d < fu → l.length + 175 * d + 185 ≤ 3000 → f_X12_write_50 F fu 352 (nI k) (nI (L.n - d)) (MW S g l) = some (nI (l ++ rts L d).length, MW S g (l ++ rts L d)) := by
  intro d
  have w1 := w.1
  have Z := fun l => Sh_MW h g l
  have e1 : ∀ l, aI (MW S g l) 355 (nI k) = nI L.n := fun l => by unfold aI; rw [nI_clamp (by omega)]; exact m.1
  have g921 : ∀ l, gI (MW S g l) 921 352 = nI l.length := fun l => rd_eq _ _ _ _
  induction d with
  | zero =>
    intro fu l h1 h2 h3
    obtain ⟨fu, rfl⟩ : ∃ q, fu = q + 1 := ⟨fu - 1, by omega⟩
    rw [f_X12_write_50, z_i352 (Z _), qk_true, z_p906_352 (Z _), qP_some', z_i355 (Z _), qk_true, z_l355 (Z _), inb_n hk (by omega), qk_true, qv_eq, e1, if_pos (nI_le (by omega) (by omega)), qv_eq, g921, rts, List.append_nil]
  | succ d ih =>
    intro fu l h1 h2 h3
    obtain ⟨fu, rfl⟩ : ∃ q, fu = q + 1 := ⟨fu - 1, by omega⟩
    have ei : L.n - (d + 1) = L.n - 1 - d := by omega
    have ei2 : L.n - 1 - d + 1 = L.n - d := by omega
    have wr := w.2.2 (L.n - 1 - d) (by omega)
    have mr := m.2.2 (L.n - 1 - d) (by omega)
    have a := rt_len wr
    have aw := wt_ok.2.2.2.2.2.1 _ wr.1
    have ex : (16 : Int32) * nI k + nI (L.n - 1 - d) = nI (16 * k + (L.n - 1 - d)) := by
      rw [show (16 : Int32) = nI 16 from rfl, pk_mul, nI_add]
    have e6 : aI (MW S g l) 356 (nI (16 * k + (L.n - 1 - d))) = nI (L.r (L.n - 1 - d)).a := by unfold aI; rw [nI_clamp (by omega)]; exact mr.1
    rw [f_X12_write_50, ei, z_i352 (Z _), qk_true, z_p906_352 (Z _), qP_some', z_i355 (Z _), qk_true, z_l355 (Z _), inb_n hk (by omega), qk_true, qv_eq, e1, if_neg (nI_ge (by omega) (by omega)), z_p907_352 (Z _), qP_some', z_i356 (Z _), qk_true, z_l356 (Z _), ex, inb_n (show 16 * k + (L.n - 1 - d) < 96 by omega) (by omega), qk_true, qv_eq, e6, v_word h hF wd9 (by have := wr.1; omega) (by omega), qc_some', aw.1, show (0 : Int32) = nI 0 from rfl, v_rule h hF wd9 hk (by omega) mr wr _ _ _ (by omega), nI_1, ei2, ih fu _ (by omega) (by omega) (by rw [List.length_append]; omega), rts, List.append_assoc]
theorem k_write (h0 : Sh S) (hF : 16400 ≤ F) {k r : Nat} (hk : k < 4) (hr : Ba r) {L : AL} (cl : CL S r L) (wl : WL L) (l3 : xP S 5 k = some r) : f_X11_write F S 0 (nI k) = some (.inl (nI (lt L).length), CW S (xI S 4) (lt L)) := by
  have d1 := inb_n hk (by omega : 4 < 2 ^ 31)
  have eC : sI S 101 3 0 = CW S (xI S 4) [] := by
    unfold CW oc
    rw [wr_nil, rI_id S 4 rfl]
    rfl
  have cn : ∀ l, gI (CW S (xI S 4) l) 101 3 = nI l.length := fun l => rd_eq _ _ _ _
  have ZC := fun l => Sh_CW h0 (xI S 4) l
  have kp := k_put (F := F) (g := xI S 4) h0 hF hr cl wl
  have aP5 : aP (CW S (xI S 4) []) 5 (nI k) = some r := by
    unfold aP CW oc
    rw [nI_clamp (by omega), xP_sI, xP_rI]
    exact l3
  generalize lt L = X at kp
  unfold f_X11_write
  rw [k_ckl hk, qx_inl', z_i0 h0, qk_true, z_p801_0 h0, qP_some', z_i3 h0, qk_true, qv_eq, eC, z_p802_0 (ZC _), qP_some', z_i5 (ZC _), qk_true, z_l5 (ZC _), d1, qk_true, aP5, qP_some', z_p801_0 (ZC _), qP_some', kp.1, qc_some', z_i0 (ZC _), qk_true, z_p801_0 (ZC _), qP_some', z_i3 (ZC _), qk_true, qv_eq, cn]
theorem v_write {T0 : gk_S} (Hc : Sh T0) (hF : 16400 ≤ F) {k : Nat} (hk : k < 4) {L : AL} (hT : sI T0 900 352 0 = T) (HX : Sh T) (w4 : Wd T) (m4 : ML T k L) (wl : WL L) (eM : sI T 921 352 0 = MW T g []) : f_X12_write F T0 352 (nI k) = some (nI (lt L).length, MW T g (lt L)) := by
  have ZM := fun l => Sh_MW HX g l
  have aw := wt_ok.2.2.2.2.2.1 _ wl.2.1
  have w1 := wl.1
  have p3 := wl.2.1
  have wq := wt_ok.2.2.2.2.2.2
  have a5 : ∀ l, aI (MW T g l) 354 (nI k) = nI L.p := fun l => by unfold aI; rw [nI_clamp (by omega)]; exact m4.2.1
  have vw := v_w50 (F := F) (g := g) HX hF w4 (by omega : k < 6) m4 wl L.n F ([] ++ txt 22 ++ txt (2 + L.p) ++ [59] ++ [10]) (Nat.le_refl _) (by omega) (by simp only [List.length_append, txt_len, List.length_cons, List.length_nil]; omega)
  have ee : [] ++ txt 22 ++ txt (2 + L.p) ++ [59] ++ [10] ++ rts L L.n = lt L := by
    unfold lt
    simp only [List.append_assoc, List.nil_append, List.cons_append]
  rw [ee, Nat.sub_self] at vw
  have wv : f_X12_putWord F (MW T g []) 352 3 = some ((), MW T g ([] ++ wrd 3)) := v_word (w := 3) HX hF w4 (by omega) (by simp only [List.length_nil]; omega)
  have wv2 : f_X12_put F (MW T g ([] ++ wrd 3)) 352 32 = some ((), MW T g ([] ++ txt 22)) := by
    rw [v_put HX (by simp only [List.length_append, List.length_nil, (wrd_ok 3 (by omega)).2.2]; omega), u32, List.append_assoc, wq.1]
  clear ee
  unfold f_X12_write
  rw [z_i352 Hc, qk_true, m_nl Hc hk, qc_some', if_pos rfl, hT, z_i352 HX, qk_true, qv_eq, eM, wv, qc_some', z_i352 (ZM _), qk_true, wv2, qc_some']
  rw [z_i352 (ZM _), qk_true, z_p905_352 (ZM _), qP_some', z_i354 (ZM _), qk_true, z_l354 (ZM _), inb_n (by omega : k < 6) (by omega), qk_true, qv_eq, a5, v_word HX hF w4 (by omega) (by simp only [List.length_append, txt_len, List.length_nil]; omega), qc_some', aw.1]
  rw [z_i352 (ZM _), qk_true, v_put HX (by simp only [List.length_append, txt_len, List.length_nil]; omega), qc_some', u59, z_i352 (ZM _), qk_true, v_put HX (by simp only [List.length_append, txt_len, List.length_nil, List.length_singleton]; omega), qc_some', u10]
  exact vw
end WRT
