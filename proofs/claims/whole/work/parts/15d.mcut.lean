/-! the model's search: what it leaves out -/
def αr (L : AL) (i : Nat) : Nat := (L.r i).a
def Dm (mu : Option Nat) (L1 L2 : AL) (f a b : Nat) (x : Nat → Nat) : Prop := match mu with | none => acf L1.r (αr L1) a L1.p f x ≠ acf L2.r (αr L2) b L2.p f x | some i => mt7 (L1.r i) f x = true ∧ ∀ j, j < 16 → Nat.testBit a j = true → mt7 (L1.r j) f x = false
theorem mt_iff (ρ : AR) (x : Nat → Nat) : ∀ d c, c + d = 7 → (mt7 ρ c x = true ↔ ∀ k, c ≤ k → k < 7 → hd ρ k (x k) = true) := by
  intro d
  induction d with
  | zero => intro c h; rw [show c = 7 by omega, mt_7]; exact ⟨fun _ k k1 k2 => by omega, fun _ => rfl⟩
  | succ d ih =>
    intro c h
    rw [mt_s (by omega), Bool.and_eq_true, ih (c + 1) (by omega)]
    constructor
    · intro q k k1 k2
      by_cases e : k = c
      · rw [e]; exact q.1
      · exact q.2 k (by omega) k2
    · intro q
      exact ⟨q c (Nat.le_refl _) (by omega), fun k k1 k2 => q k (by omega) k2⟩
theorem mt_i (ρ : AR) (x : Nat → Nat) {c : Nat} (h : c ≤ 7) : mt7 ρ c x = true ↔ ∀ k, c ≤ k → k < 7 → hd ρ k (x k) = true := mt_iff ρ x (7 - c) c (by omega)
theorem tb15 : ∀ v, v < 4 → Nat.testBit 15 v = true := by decide
theorem V_wR {f : Nat} {x : Nat → Nat} (hf : f ≤ 7) (v : V7 f x) : mt7 (wR 0) f x = true := by
  rw [mt_i _ _ hf]
  intro k k1 k2
  have := v k k1 k2
  unfold hd
  by_cases c : k < 6
  · rw [if_pos c]
    exact decide_eq_true ⟨Nat.zero_le _, this⟩
  · rw [if_neg c]
    have e : k = 6 := by omega
    rw [e] at this ⊢
    have h3 : x 6 ≤ 3 := this
    exact tb15 _ (by omega)
def AllQ (ρ q : AR) (f : Nat) : Prop := (∀ j, f ≤ j → j < 6 → ρ.lo j ≤ q.lo j ∧ q.hi j ≤ ρ.hi j) ∧ (ρ.s &&& q.s) = q.s
theorem all_mt {ρ q : AR} {f : Nat} (hf : f ≤ 7) (h : AllQ ρ q f) {x : Nat → Nat} (m : mt7 q f x = true) : mt7 ρ f x = true := by
  rw [mt_i _ _ hf] at m ⊢
  intro k k1 k2
  have mk := m k k1 k2
  unfold hd at mk ⊢
  by_cases c : k < 6
  · rw [if_pos c] at mk ⊢
    have := of_decide_eq_true mk
    have := h.1 k k1 c
    exact decide_eq_true (by omega)
  · rw [if_neg c] at mk ⊢
    rw [← h.2, Nat.testBit_and, Bool.and_eq_true] at mk
    exact mk.1
section MCU
variable {T : gk_S} {F l l1 l2 : Nat} {L L1 L2 : AL} {mu : Option Nat}
theorem qr_b (s : SM T l1 l2 L1 L2 mu) {f : Nat} (hf : f < 6) : (qr L1 mu).lo f ≤ (qr L1 mu).hi f ∧ (qr L1 mu).hi f ≤ tp f ∧ (qr L1 mu).hi f < 4294967296 := by
  have := tp_lt f
  cases mu with
  | none => exact ⟨Nat.zero_le _, Nat.le_refl _, by show tp f < 4294967296; omega⟩
  | some i => exact WR_lt (s.2.2.2.2.2.2.2.2.2.1.2.2 i (s.2.2.2.2.2.2.1 i rfl).2) hf
theorem qr_s (s : SM T l1 l2 L1 L2 mu) : (qr L1 mu).s < 16 := by
  cases mu with
  | none => show 15 < 16; omega
  | some i => exact (s.2.2.2.2.2.2.2.2.2.1.2.2 i (s.2.2.2.2.2.2.1 i rfl).2).2.1
theorem v_low (s : SM T l1 l2 L1 L2 mu) {f : Nat} (hf : f < 6) : f_X12_lowest F T 352 (nI f) = some (lN ((qr L1 mu).lo f), T) := by
  obtain ⟨hs, s1, s2, s3, s4, s5, s6, s7, s8, s9, s10⟩ := s
  have := s9.1
  unfold f_X12_lowest
  rw [z_i352 hs, qk_true, qv_eq]
  cases mu with
  | none => rw [s5 rfl, if_neg (by decide)]; rfl
  | some i =>
    obtain ⟨e, hi⟩ := s6 i rfl
    have ex : (6 : Int32) * nI (16 * l1 + i) + nI f = nI (6 * (16 * l1 + i) + f) := by rw [show (6 : Int32) = nI 6 from rfl, pk_mul, nI_add]
    rw [e, if_pos (show (0 : Int32) ≤ nI (16 * l1 + i) from nI_le (a := 0) (by omega) (by omega)), z_p909_352 hs, qP_some', qv_eq, z_i358 hs, qk_true, ex, z_l358 hs, inb_n (show 6 * (16 * l1 + i) + f < 576 by omega) (by omega), qk_true, qv_eq, (MR_lo s7 s1 s9 hi hf).1]
    rfl
theorem v_high (s : SM T l1 l2 L1 L2 mu) {f : Nat} (hf : f < 6) : f_X12_highest F T 352 (nI f) = some (lN ((qr L1 mu).hi f), T) := by
  obtain ⟨hs, s1, s2, s3, s4, s5, s6, s7, s8, s9, s10⟩ := s
  have := s9.1
  unfold f_X12_highest
  rw [z_i352 hs, qk_true, qv_eq]
  cases mu with
  | none => rw [s5 rfl, if_neg (by decide), m_most hf, qc_some']; rfl
  | some i =>
    obtain ⟨e, hi⟩ := s6 i rfl
    have ex : (6 : Int32) * nI (16 * l1 + i) + nI f = nI (6 * (16 * l1 + i) + f) := by rw [show (6 : Int32) = nI 6 from rfl, pk_mul, nI_add]
    rw [e, if_pos (show (0 : Int32) ≤ nI (16 * l1 + i) from nI_le (a := 0) (by omega) (by omega)), z_p910_352 hs, qP_some', qv_eq, z_i359 hs, qk_true, ex, z_l359 hs, inb_n (show 6 * (16 * l1 + i) + f < 576 by omega) (by omega), qk_true, qv_eq, (MR_lo s7 s1 s9 hi hf).2]
    rfl
theorem v_sa (s : SM T l1 l2 L1 L2 mu) : f_X12_statesAsked F T 352 = some (nI (qr L1 mu).s, T) := by
  obtain ⟨hs, s1, s2, s3, s4, s5, s6, s7, s8, s9, s10⟩ := s
  have := s9.1
  unfold f_X12_statesAsked
  rw [z_i352 hs, qk_true, qv_eq]
  cases mu with
  | none => rw [s5 rfl, if_neg (by decide)]; rfl
  | some i =>
    obtain ⟨e, hi⟩ := s6 i rfl
    have a7 : aI T 357 (nI (16 * l1 + i)) = nI (L1.r i).s := by unfold aI; rw [nI_clamp (by omega)]; exact (s7.2.2 i hi).2.1
    rw [e, if_pos (show (0 : Int32) ≤ nI (16 * l1 + i) from nI_le (a := 0) (by omega) (by omega)), z_p908_352 hs, qP_some', qv_eq, z_i357 hs, qk_true, z_l357 hs, inb_n (show 16 * l1 + i < 96 by omega) (by omega), qk_true, qv_eq, a7]
    rfl
theorem v_isAll2 (s : SM T l1 l2 L1 L2 mu) (h : ML T l L) (hl : l < 6) (w : WL L) {i : Nat} (hi : i < L.n) : ∀ d k fu, k + d = 6 → d < fu → ∃ q, f_X12_isAll_2 F fu 352 (nI (16 * l + i)) (nI k) T = some (bI q, T) ∧ (q = true → AllQ (L.r i) (qr L1 mu) k) := by
  have hs := s.1
  have n16 := w.1
  intro d
  induction d with
  | zero =>
    intro k fu h1 h2
    obtain ⟨fu, rfl⟩ : ∃ q, fu = q + 1 := ⟨fu - 1, by omega⟩
    have a7 : aI T 357 (nI (16 * l + i)) = nI (L.r i).s := by unfold aI; rw [nI_clamp (by omega)]; exact (h.2.2 i hi).2.1
    have q1 := (w.2.2 i hi).2.1
    have q2 := qr_s s
    have q3 : ((L.r i).s &&& (qr L1 mu).s) ≤ (qr L1 mu).s := Nat.and_le_right
    have z : nI ((L.r i).s &&& (qr L1 mu).s) = nI (qr L1 mu).s ↔ ((L.r i).s &&& (qr L1 mu).s) = (qr L1 mu).s := nI_eq (by omega) (by omega)
    rw [f_X12_isAll_2, if_pos (show (6 : Int32) ≤ nI k from nI_le (a := 6) (by omega) (by omega)), z_i352 hs, qk_true, z_p908_352 hs, qP_some', z_i357 hs, qk_true, z_l357 hs, inb_n (show 16 * l + i < 96 by omega) (by omega), qk_true, qv_eq, a7, v_sa s, qc_some', z_i352 hs, qk_true, v_sa s, qc_some', nI_and]
    by_cases c : ((L.r i).s &&& (qr L1 mu).s) = (qr L1 mu).s
    · rw [if_pos (z.mpr c)]
      exact ⟨true, rfl, fun _ => ⟨fun j j1 j2 => by omega, c⟩⟩
    · rw [if_neg (fun q => c (z.mp q))]
      exact ⟨false, rfl, fun q => absurd q (by decide)⟩
  | succ d ih =>
    intro k fu h1 h2
    obtain ⟨fu, rfl⟩ : ∃ q, fu = q + 1 := ⟨fu - 1, by omega⟩
    have hk : k < 6 := by omega
    obtain ⟨a1, a2⟩ := MR_lo h hl w hi hk
    have wr := WR_lt (w.2.2 i hi) hk
    have qb := qr_b s hk
    have ex : (6 : Int32) * nI (16 * l + i) + nI k = nI (6 * (16 * l + i) + k) := by rw [show (6 : Int32) = nI 6 from rfl, pk_mul, nI_add]
    have z1 : lN ((qr L1 mu).lo k) < lN ((L.r i).lo k) ↔ (qr L1 mu).lo k < (L.r i).lo k := l_lt (by omega) (by omega)
    have z2 : lN ((qr L1 mu).hi k) ≤ lN ((L.r i).hi k) ↔ (qr L1 mu).hi k ≤ (L.r i).hi k := l_le (by omega) (by omega)
    rw [f_X12_isAll_2, if_neg (show ¬ (6 : Int32) ≤ nI k from nI_ge (b := 6) hk (by omega)), z_i352 hs, qk_true, z_p909_352 hs, qP_some', z_i358 hs, qk_true, ex, z_l358 hs, inb_n (show 6 * (16 * l + i) + k < 576 by omega) (by omega), qk_true, qv_eq, a1, v_low s hk, qc_some']
    by_cases c1 : (qr L1 mu).lo k < (L.r i).lo k
    · rw [if_pos (z1.mpr c1)]
      exact ⟨false, rfl, fun q => absurd q (by decide)⟩
    · rw [if_neg (fun q => c1 (z1.mp q)), z_i352 hs, qk_true, z_p910_352 hs, qP_some', z_i359 hs, qk_true, z_l359 hs, inb_n (show 6 * (16 * l + i) + k < 576 by omega) (by omega), qk_true, qv_eq, a2, v_high s hk, qc_some']
      by_cases c2 : (qr L1 mu).hi k ≤ (L.r i).hi k
      · rw [if_pos (z2.mpr c2), nI_1]
        obtain ⟨q, q1, q2⟩ := ih (k + 1) fu (by omega) (by omega)
        refine ⟨q, q1, fun e => ⟨fun j j1 j2 => ?_, (q2 e).2⟩⟩
        by_cases c : j = k
        · rw [c]; exact ⟨by omega, c2⟩
        · exact (q2 e).1 j (by omega) j2
      · rw [if_neg (fun q => c2 (z2.mp q))]
        exact ⟨false, rfl, fun q => absurd q (by decide)⟩
theorem v_isAll (hF : 16400 ≤ F) (s : SM T l1 l2 L1 L2 mu) (h : ML T l L) (hl : l < 6) (w : WL L) {i f : Nat} (hi : i < L.n) (hf : f ≤ 6) : ∃ q, f_X12_isAll F T 352 (nI (16 * l + i)) (nI f) = some (bI q, T) ∧ (q = true → ∀ x, mt7 (qr L1 mu) f x = true → mt7 (L.r i) f x = true) := by
  obtain ⟨q, q1, q2⟩ := v_isAll2 (F := F) s h hl w hi (6 - f) f F (by omega) (by omega)
  exact ⟨q, q1, fun e x m => all_mt (by omega) (q2 e) m⟩
theorem v_cut3 (hF : 16400 ≤ F) (s : SM T l1 l2 L1 L2 mu) (h : ML T l L) (hl : l < 6) (w : WL L) {a f p : Nat} {α : Nat → Nat} (ha : inM L a) (hf : f ≤ 6) : ∀ d k fu, k + d = 16 → d < fu → ∃ a', f_X12_cut_3 F fu 352 (nI l) (nI a) (nI f) (nI k) T = some (nI a', T) ∧ inM L a' ∧ ∀ x, mt7 (qr L1 mu) f x = true → acf L.r α a p f x = acf L.r α a' p f x := by
  have hs := s.1
  intro d
  induction d with
  | zero =>
    intro k fu h1 h2
    obtain ⟨fu, rfl⟩ : ∃ q, fu = q + 1 := ⟨fu - 1, by omega⟩
    rw [f_X12_cut_3, if_pos (show (16 : Int32) ≤ nI k from nI_le (a := 16) (by omega) (by omega))]
    exact ⟨a, rfl, ha, fun _ _ => rfl⟩
  | succ d ih =>
    intro k fu h1 h2
    obtain ⟨fu, rfl⟩ : ∃ q, fu = q + 1 := ⟨fu - 1, by omega⟩
    have hk : k < 16 := by omega
    have tb := tb_iff (a := a) (i := k) (by have := ha.1; omega) (by omega)
    have ex : (16 : Int32) * nI l + nI k = nI (16 * l + k) := by rw [show (16 : Int32) = nI 16 from rfl, pk_mul, nI_add]
    rw [f_X12_cut_3, if_neg (show ¬ (16 : Int32) ≤ nI k from nI_ge (b := 16) hk (by omega))]
    cases ta : Nat.testBit a k
    · rw [if_neg (fun q => by rw [tb.1.mp q] at ta; exact absurd ta (by decide)), nI_1]
      exact ih (k + 1) fu (by omega) (by omega)
    · obtain ⟨q, q1, q2⟩ := v_isAll (F := F) hF s h hl w (ha.2 k ta) hf
      rw [if_pos (tb.1.mpr ta), z_i352 hs, qk_true, ex, q1, qc_some']
      cases q
      · rw [if_pos (show bI false = 0 from rfl), nI_1]
        exact ih (k + 1) fu (by omega) (by omega)
      · have hp := Nat.two_pow_pos (k + 1)
        have e1 : nI a &&& (((2 : Int32) <<< (nI k &&& 31)) - 1) = nI (a &&& (2 ^ (k + 1) - 1)) := by
          rw [shl_2 k hk, show (1 : Int32) = nI 1 from rfl, pk_sub (by omega), nI_and]
        have tt : ∀ j, Nat.testBit (a &&& (2 ^ (k + 1) - 1)) j = (Nat.testBit a j && decide (j < k + 1)) := fun j => by rw [Nat.testBit_and, Nat.testBit_two_pow_sub_one]
        rw [if_neg (show ¬ bI true = 0 by decide), e1]
        refine ⟨_, rfl, ⟨?_, fun i ti => ?_⟩, fun x m => ?_⟩
        · have : a &&& (2 ^ (k + 1) - 1) ≤ a := Nat.and_le_left
          have := ha.1
          omega
        · rw [tt, Bool.and_eq_true] at ti
          exact ha.2 i ti.1
        · refine act_cut hk (q2 rfl x m) ta (fun j j1 => ?_)
          rw [tt, decide_eq_true (by omega), Bool.and_true]
theorem v_cut (hF : 16400 ≤ F) (s : SM T l1 l2 L1 L2 mu) (h : ML T l L) (hl : l < 6) (w : WL L) {a f : Nat} (p : Nat) (α : Nat → Nat) (ha : inM L a) (hf : f ≤ 6) : ∃ a', f_X12_cut F T 352 (nI l) (nI a) (nI f) = some (nI a', T) ∧ inM L a' ∧ ∀ x, mt7 (qr L1 mu) f x = true → acf L.r α a p f x = acf L.r α a' p f x := v_cut3 hF s h hl w ha hf 16 0 F (by omega) (by omega)
end MCU
