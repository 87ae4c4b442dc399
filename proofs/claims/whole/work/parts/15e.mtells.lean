/-! the model's search: what is hopeless; states -/
theorem bit_or {z i j : Nat} (hi : i < 31) : Nat.testBit (z ||| 2 ^ i) j = (Nat.testBit z j || decide (i = j)) := by rw [Nat.testBit_or, Nat.testBit_two_pow]
theorem or8 : ∀ z, z < 8 → ∀ i, i < 3 → (z ||| 2 ^ i) < 8 := by decide
theorem one8' : ∀ m, m < 72 → nI (m / 9) &&& (nI (m / 9) - 1) = 0 → Nat.testBit (m / 9) (m / 3 % 3) = true → Nat.testBit (m / 9) (m % 3) = true → m / 3 % 3 = m % 3 := by decide +kernel
theorem one8 (z : Nat) (hz : z < 8) (h : nI z &&& (nI z - 1) = 0) (i : Nat) (hi : i < 3) (j : Nat) (hj : j < 3) (h1 : Nat.testBit z i = true) (h2 : Nat.testBit z j = true) : i = j := by
  have k := one8' (9 * z + (3 * i + j)) (by omega)
  rw [show (9 * z + (3 * i + j)) / 9 = z by omega, show (9 * z + (3 * i + j)) / 3 % 3 = i by omega, show (9 * z + (3 * i + j)) % 3 = j by omega] at k
  exact k h h1 h2
section MTE
variable {T : gk_S} {F l l1 l2 : Nat} {L L1 L2 : AL} {mu : Option Nat}
theorem v_tells9 (hF : 16400 ≤ F) (s : SM T l1 l2 L1 L2 mu) (h : ML T l L) (hl : l < 6) (w : WL L) {a f : Nat} (ha : inM L a) (hf : f ≤ 6) : ∀ d k fu z g, k + d = 16 → d < fu → z < 8 → (∀ i, i < k → Nat.testBit a i = true → Nat.testBit z (αr L i) = true) → (g = true → ∃ i, i < 16 ∧ Nat.testBit a i = true ∧ ∀ x, mt7 (qr L1 mu) f x = true → mt7 (L.r i) f x = true) → ∃ z', f_X12_tells_9 F fu 352 (nI l) (nI a) (nI f) (nI z) (bI g) (nI k) T = some (nI z', T) ∧ z' < 8 ∧ ∀ x, mt7 (qr L1 mu) f x = true → Nat.testBit z' (acf L.r (αr L) a L.p f x) = true := by
  have hs := s.1
  have n16 := w.1
  intro d
  induction d with
  | zero =>
    intro k fu z g h1 h2 h3 h4 h5
    obtain ⟨fu, rfl⟩ : ∃ q, fu = q + 1 := ⟨fu - 1, by omega⟩
    have ap : aI T 354 (nI l) = nI L.p := by unfold aI; rw [nI_clamp (by omega)]; exact h.2.1
    have p3 := w.2.1
    rw [f_X12_tells_9, if_pos (show (16 : Int32) ≤ nI k from nI_le (a := 16) (by omega) (by omega))]
    cases g
    · rw [if_pos (show bI false = 0 from rfl), z_i352 hs, qk_true, z_p905_352 hs, qP_some', z_i354 hs, qk_true, z_l354 hs, inb_n hl (by omega), qk_true, qv_eq, ap, shl_1 _ (by omega), nI_or]
      refine ⟨_, rfl, or8 z h3 _ p3, fun x _ => ?_⟩
      refine fa_in (Q := fun y => Nat.testBit (z ||| 2 ^ L.p) y = true) ?_ 16 0 (fun j _ j2 tj => ?_)
      · rw [bit_or (by omega), decide_eq_true rfl, Bool.or_true]
      · rw [bit_or (by omega), h4 j (by omega) tj, Bool.true_or]
    · obtain ⟨i, i1, i2, i3⟩ := h5 rfl
      rw [if_neg (show ¬ bI true = 0 by decide)]
      exact ⟨z, rfl, h3, fun x m => fa_w (Q := fun y => Nat.testBit z y = true) (i3 x m) i2 16 0 (Nat.zero_le _) (by omega) (fun j _ j2 tj => h4 j (by omega) tj)⟩
  | succ d ih =>
    intro k fu z g h1 h2 h3 h4 h5
    obtain ⟨fu, rfl⟩ : ∃ q, fu = q + 1 := ⟨fu - 1, by omega⟩
    have hk : k < 16 := by omega
    have tb := tb_iff (a := a) (i := k) (by have := ha.1; omega) (by omega)
    have ex : (16 : Int32) * nI l + nI k = nI (16 * l + k) := by rw [show (16 : Int32) = nI 16 from rfl, pk_mul, nI_add]
    rw [f_X12_tells_9, if_neg (show ¬ (16 : Int32) ≤ nI k from nI_ge (b := 16) hk (by omega))]
    cases ta : Nat.testBit a k
    · rw [if_pos (tb.2.mpr ta), nI_1]
      exact ih (k + 1) fu z g (by omega) (by omega) h3 (fun i i1 i2 => h4 i (by
        rcases Nat.lt_or_ge i k with q | q
        · exact q
        · have : i = k := by omega
          rw [this, ta] at i2; exact absurd i2 (by decide)) i2) h5
    · have hi := ha.2 k ta
      have aa : aI T 356 (nI (16 * l + k)) = nI (αr L k) := by unfold aI; rw [nI_clamp (by omega)]; exact (h.2.2 k hi).1
      have a3 : αr L k < 3 := (w.2.2 k hi).1
      have h3' := or8 z h3 _ a3
      have h4' : ∀ i, i < k + 1 → Nat.testBit a i = true → Nat.testBit (z ||| 2 ^ αr L k) (αr L i) = true := by
        intro i i1 i2
        by_cases c : i = k
        · rw [c, bit_or (by omega), decide_eq_true rfl, Bool.or_true]
        · rw [bit_or (by omega), h4 i (by omega) i2, Bool.true_or]
      rw [if_neg (fun q => by rw [tb.2.mp q] at ta; exact absurd ta (by decide)), z_i352 hs, qk_true, z_p907_352 hs, qP_some', z_i356 hs, qk_true, ex, z_l356 hs, inb_n (show 16 * l + k < 96 by omega) (by omega), qk_true, qv_eq, aa, shl_1 _ (by omega), nI_or, qv_eq, nI_1]
      cases g
      · obtain ⟨q, q1, q2⟩ := v_isAll (F := F) hF s h hl w hi hf
        rw [if_pos (show bI false = 0 from rfl), q1, qc_some']
        cases q
        · rw [if_pos (show bI false = 0 from rfl)]
          exact ih (k + 1) fu _ false (by omega) (by omega) h3' h4' (fun q => absurd q (by decide))
        · rw [if_neg (show ¬ bI true = 0 by decide)]
          exact ih (k + 1) fu _ true (by omega) (by omega) h3' h4' (fun _ => ⟨k, hk, ta, q2 rfl⟩)
      · rw [if_neg (show ¬ bI true = 0 by decide)]
        exact ih (k + 1) fu _ true (by omega) (by omega) h3' h4' h5
theorem v_tells (hF : 16400 ≤ F) (s : SM T l1 l2 L1 L2 mu) (h : ML T l L) (hl : l < 6) (w : WL L) {a f : Nat} (ha : inM L a) (hf : f ≤ 6) : ∃ z, f_X12_tells F T 352 (nI l) (nI a) (nI f) = some (nI z, T) ∧ z < 8 ∧ ∀ x, mt7 (qr L1 mu) f x = true → Nat.testBit z (acf L.r (αr L) a L.p f x) = true := v_tells9 hF s h hl w ha hf 16 0 F 0 false (by omega) (by omega) (by omega) (fun i hi => by omega) (fun q => absurd q (by decide))
theorem acf_3 (w : WL L) {a c : Nat} (ha : inM L a) (x : Nat → Nat) : acf L.r (αr L) a L.p c x < 3 := fa_in (Q := fun y => y < 3) w.2.1 16 0 (fun j _ _ tj => (w.2.2 j (ha.2 j tj)).1)
theorem v_hope10 (hF : 16400 ≤ F) (s : SM T l1 l2 L1 L2 mu) {a f : Nat} (ha : inM L1 a) (hf : f ≤ 6) : ∀ d k fu, k + d = 16 → d < fu → ∃ q, f_X12_isHopeless_10 F fu 352 (nI a) (nI f) (nI k) T = some (bI q, T) ∧ (q = true → ∃ i, i < 16 ∧ Nat.testBit a i = true ∧ ∀ x, mt7 (qr L1 mu) f x = true → mt7 (L1.r i) f x = true) := by
  have hs := s.1
  have h := s.2.2.2.2.2.2.2.1
  have hl := s.2.1
  have w := s.2.2.2.2.2.2.2.2.2.1
  have n16 := w.1
  intro d
  induction d with
  | zero =>
    intro k fu h1 h2
    obtain ⟨fu, rfl⟩ : ∃ q, fu = q + 1 := ⟨fu - 1, by omega⟩
    rw [f_X12_isHopeless_10, if_pos (show (16 : Int32) ≤ nI k from nI_le (a := 16) (by omega) (by omega))]
    exact ⟨false, rfl, fun q => absurd q (by decide)⟩
  | succ d ih =>
    intro k fu h1 h2
    obtain ⟨fu, rfl⟩ : ∃ q, fu = q + 1 := ⟨fu - 1, by omega⟩
    have hk : k < 16 := by omega
    have tb := tb_iff (a := a) (i := k) (by have := ha.1; omega) (by omega)
    have ex : (16 : Int32) * nI l1 + nI k = nI (16 * l1 + k) := by rw [show (16 : Int32) = nI 16 from rfl, pk_mul, nI_add]
    rw [f_X12_isHopeless_10, if_neg (show ¬ (16 : Int32) ≤ nI k from nI_ge (b := 16) hk (by omega))]
    cases ta : Nat.testBit a k
    · rw [if_neg (fun q => by rw [tb.1.mp q] at ta; exact absurd ta (by decide)), nI_1]
      exact ih (k + 1) fu (by omega) (by omega)
    · obtain ⟨q, q1, q2⟩ := v_isAll (F := F) hF s h hl w (ha.2 k ta) hf
      rw [if_pos (tb.1.mpr ta), z_i352 hs, qk_true, qv_eq, s.2.2.2.1, ex, q1, qc_some']
      cases q
      · rw [if_pos (show bI false = 0 from rfl), nI_1]
        exact ih (k + 1) fu (by omega) (by omega)
      · rw [if_neg (show ¬ bI true = 0 by decide)]
        exact ⟨true, rfl, fun _ => ⟨k, hk, ta, q2 rfl⟩⟩
theorem v_hope (hF : 16400 ≤ F) (s : SM T l1 l2 L1 L2 mu) {a b f : Nat} (ha : inM L1 a) (hb : inM L2 b) (hf : f ≤ 6) : ∃ q, f_X12_isHopeless F T 352 (nI a) (nI b) (nI f) = some (bI q, T) ∧ (q = true → NDf f (Dm mu L1 L2 f a b)) := by
  have s' := s
  obtain ⟨hs, s1, s2, s3, s4, s5, s6, s7, s8, s9, s10⟩ := s'
  have n16 := s9.1
  unfold f_X12_isHopeless
  rw [z_i352 hs, qk_true, qv_eq]
  cases mu with
  | none =>
    rw [s5 rfl, if_pos (by decide), qv_eq, s3]
    obtain ⟨z1, p1, p2, p3⟩ := v_tells (F := F) hF s s7 s1 s9 ha hf
    obtain ⟨z2, q1, q2, q3⟩ := v_tells (F := F) hF s s8 s2 s10 hb hf
    have zz : nI z1 = nI z2 ↔ z1 = z2 := nI_eq (by omega) (by omega)
    rw [p1, qc_some', z_i352 hs, qk_true, qv_eq, s4, q1, qc_some']
    by_cases c : z1 = z2
    · rw [if_pos (zz.mpr c)]
      by_cases c0 : nI z1 &&& (nI z1 - 1) = 0
      · rw [if_pos c0]
        refine ⟨true, rfl, fun _ x v d => ?_⟩
        have m := V_wR (show f ≤ 7 by omega) v
        have d' : acf L1.r (αr L1) a L1.p f x ≠ acf L2.r (αr L2) b L2.p f x := d
        apply d'
        exact one8 z1 p2 c0 _ (acf_3 s9 ha x) _ (acf_3 s10 hb x) (p3 x m) (by rw [c]; exact q3 x m)
      · rw [if_neg c0]
        exact ⟨false, rfl, fun q => absurd q (by decide)⟩
    · rw [if_neg (fun q => c (zz.mp q))]
      exact ⟨false, rfl, fun q => absurd q (by decide)⟩
  | some i =>
    obtain ⟨e, hi⟩ := s6 i rfl
    rw [e, if_neg (nI_pos (by omega))]
    obtain ⟨q, q1, q2⟩ := v_hope10 (F := F) hF s ha hf 16 0 F (by omega) (by omega)
    refine ⟨q, q1, fun eq x v d => ?_⟩
    obtain ⟨j, j1, j2, j3⟩ := q2 eq
    have d' : mt7 (L1.r i) f x = true ∧ ∀ j, j < 16 → Nat.testBit a j = true → mt7 (L1.r j) f x = false := d
    have := j3 x d'.1
    rw [d'.2 j j1 j2] at this
    exact absurd this (by decide)
/-! states -/
theorem mt_6 (ρ : AR) (x : Nat → Nat) : mt7 ρ 6 x = Nat.testBit ρ.s (x 6) := by
  rw [mt_s (by omega), mt_7, Bool.and_true]
  unfold hd
  rw [if_neg (by omega)]
theorem acf_6 (L : AL) (a : Nat) {x y : Nat → Nat} (e : x 6 = y 6) : ∀ d i, fa L.r (αr L) a L.p 6 x d i = fa L.r (αr L) a L.p 6 y d i := by
  intro d
  induction d with
  | zero => intro i; rfl
  | succ d ih => intro i; rw [fa, fa, mt_6, mt_6, e, ih]
theorem Dm_6 {a b : Nat} {x y : Nat → Nat} (e : x 6 = y 6) : Dm mu L1 L2 6 a b x ↔ Dm mu L1 L2 6 a b y := by
  cases mu with
  | none =>
    show acf L1.r (αr L1) a L1.p 6 x ≠ acf L2.r (αr L2) b L2.p 6 x ↔ acf L1.r (αr L1) a L1.p 6 y ≠ acf L2.r (αr L2) b L2.p 6 y
    unfold acf
    rw [acf_6 L1 a e, acf_6 L2 b e]
  | some i =>
    show (mt7 (L1.r i) 6 x = true ∧ ∀ j, j < 16 → Nat.testBit a j = true → mt7 (L1.r j) 6 x = false) ↔ (mt7 (L1.r i) 6 y = true ∧ ∀ j, j < 16 → Nat.testBit a j = true → mt7 (L1.r j) 6 y = false)
    simp only [mt_6, e]
theorem v_act3 (hs : Sh T) (h : ML T l L) (hl : l < 6) (w : WL L) {a v : Nat} (ha : inM L a) (hv : v < 4) : ∀ d k fu, k + d = 16 → d < fu → f_X12_actionOf_3 F fu 352 (nI l) (nI a) (nI v) (nI k) T = some (nI (fa L.r (αr L) a L.p 6 (fun _ => v) d k), T) := by
  have n16 := w.1
  intro d
  induction d with
  | zero =>
    intro k fu h1 h2
    obtain ⟨fu, rfl⟩ : ∃ q, fu = q + 1 := ⟨fu - 1, by omega⟩
    have ap : aI T 354 (nI l) = nI L.p := by unfold aI; rw [nI_clamp (by omega)]; exact h.2.1
    rw [f_X12_actionOf_3, if_pos (show (16 : Int32) ≤ nI k from nI_le (a := 16) (by omega) (by omega)), z_i352 hs, qk_true, z_p905_352 hs, qP_some', z_i354 hs, qk_true, z_l354 hs, inb_n hl (by omega), qk_true, qv_eq, ap]
    rfl
  | succ d ih =>
    intro k fu h1 h2
    obtain ⟨fu, rfl⟩ : ∃ q, fu = q + 1 := ⟨fu - 1, by omega⟩
    have hk : k < 16 := by omega
    have tb := tb_iff (a := a) (i := k) (by have := ha.1; omega) (by omega)
    have ex : (16 : Int32) * nI l + nI k = nI (16 * l + k) := by rw [show (16 : Int32) = nI 16 from rfl, pk_mul, nI_add]
    rw [f_X12_actionOf_3, if_neg (show ¬ (16 : Int32) ≤ nI k from nI_ge (b := 16) hk (by omega)), fa, mt_6]
    cases ta : Nat.testBit a k
    · rw [if_neg (fun q => by rw [tb.1.mp q] at ta; exact absurd ta (by decide)), nI_1, Bool.false_and, if_neg (by decide)]
      exact ih (k + 1) fu (by omega) (by omega)
    · have hi := ha.2 k ta
      have a7 : aI T 357 (nI (16 * l + k)) = nI (L.r k).s := by unfold aI; rw [nI_clamp (by omega)]; exact (h.2.2 k hi).2.1
      have a6 : aI T 356 (nI (16 * l + k)) = nI (αr L k) := by unfold aI; rw [nI_clamp (by omega)]; exact (h.2.2 k hi).1
      have sb := bit_eq (w.2.2 k hi).2.1 hv
      rw [if_pos (tb.1.mpr ta), z_i352 hs, qk_true, z_p908_352 hs, qP_some', z_i357 hs, qk_true, ex, z_l357 hs, inb_n (show 16 * l + k < 96 by omega) (by omega), qk_true, qv_eq, a7, Bool.true_and]
      cases ts : Nat.testBit (L.r k).s v
      · rw [if_neg (fun q => by rw [sb.2.mp q] at ts; exact absurd ts (by decide)), nI_1, if_neg (by decide)]
        exact ih (k + 1) fu (by omega) (by omega)
      · rw [if_pos (sb.2.mpr ts), z_p907_352 hs, qP_some', z_i356 hs, qk_true, z_l356 hs, inb_n (show 16 * l + k < 96 by omega) (by omega), qk_true, qv_eq, a6, if_pos rfl]
theorem v_sto20 (s : SM T l1 l2 L1 L2 mu) {i a v : Nat} (hmu : mu = some i) (ha : inM L1 a) (hv : v < 4) (K : Nat → Int32 → Int32 → Int32 → gk_S → Option (Int32 × gk_S)) (q : Int32) : ∀ d k fu g, k + d = 16 → d < fu → (g = true → ∃ j, j < 16 ∧ Nat.testBit a j = true ∧ Nat.testBit (L1.r j).s v = true) → (g = false → ∀ j, j < k → Nat.testBit a j = true → Nat.testBit (L1.r j).s v = false) → (Dm mu L1 L2 6 a 0 (fun _ => v) ∧ f_X12_stateOf_20 F K fu 352 (nI a) q (nI v) (bI g) (nI k) T = some (nI v, T)) ∨ (¬ Dm mu L1 L2 6 a 0 (fun _ => v) ∧ f_X12_stateOf_20 F K fu 352 (nI a) q (nI v) (bI g) (nI k) T = K 352 (nI a) q (nI (v + 1)) T) := by
  subst hmu
  obtain ⟨hs, s1, s2, s3, s4, s5, s6, s7, s8, s9, s10⟩ := s
  have n16 := s9.1
  obtain ⟨e, hi⟩ := s6 i rfl
  have Dd : Dm (some i) L1 L2 6 a 0 (fun _ => v) ↔ (Nat.testBit (L1.r i).s v = true ∧ ∀ j, j < 16 → Nat.testBit a j = true → Nat.testBit (L1.r j).s v = false) := by
    show (mt7 (L1.r i) 6 (fun _ => v) = true ∧ ∀ j, j < 16 → Nat.testBit a j = true → mt7 (L1.r j) 6 (fun _ => v) = false) ↔ _
    simp only [mt_6]
  rw [Dd]
  intro d
  induction d with
  | zero =>
    intro k fu g h1 h2 h3 h4
    obtain ⟨fu, rfl⟩ : ∃ q, fu = q + 1 := ⟨fu - 1, by omega⟩
    rw [f_X12_stateOf_20, if_pos (show (16 : Int32) ≤ nI k from nI_le (a := 16) (by omega) (by omega))]
    cases g
    · have a7 : aI T 357 (nI (16 * l1 + i)) = nI (L1.r i).s := by unfold aI; rw [nI_clamp (by omega)]; exact (s7.2.2 i hi).2.1
      have sb := bit_eq (s9.2.2 i hi).2.1 hv
      rw [if_pos (show bI false = 0 from rfl), z_i352 hs, qk_true, z_p908_352 hs, qP_some', qv_eq, e, z_i357 hs, qk_true, z_l357 hs, inb_n (show 16 * l1 + i < 96 by omega) (by omega), qk_true, qv_eq, a7, nI_1]
      cases ts : Nat.testBit (L1.r i).s v
      · right
        rw [if_neg (fun q => by rw [sb.2.mp q] at ts; exact absurd ts (by decide))]
        exact ⟨fun q => absurd q.1 (by decide), rfl⟩
      · left
        rw [if_pos (sb.2.mpr ts)]
        exact ⟨⟨rfl, fun j j1 j2 => h4 rfl j (by omega) j2⟩, rfl⟩
    · right
      obtain ⟨j, j1, j2, j3⟩ := h3 rfl
      rw [if_neg (show ¬ bI true = 0 by decide), nI_1]
      exact ⟨fun q => by have := q.2 j j1 j2; rw [j3] at this; exact absurd this (by decide), rfl⟩
  | succ d ih =>
    intro k fu g h1 h2 h3 h4
    obtain ⟨fu, rfl⟩ : ∃ q, fu = q + 1 := ⟨fu - 1, by omega⟩
    have hk : k < 16 := by omega
    have tb := tb_iff (a := a) (i := k) (by have := ha.1; omega) (by omega)
    have ex : (16 : Int32) * nI l1 + nI k = nI (16 * l1 + k) := by rw [show (16 : Int32) = nI 16 from rfl, pk_mul, nI_add]
    rw [f_X12_stateOf_20, if_neg (show ¬ (16 : Int32) ≤ nI k from nI_ge (b := 16) hk (by omega))]
    cases g
    · rw [if_pos (show bI false = 0 from rfl)]
      have nxt : (Nat.testBit a k = true → Nat.testBit (L1.r k).s v = false) → ∀ j, j < k + 1 → Nat.testBit a j = true → Nat.testBit (L1.r j).s v = false := by
        intro q j j1 j2
        by_cases c : j = k
        · rw [c] at j2 ⊢; exact q j2
        · exact h4 rfl j (by omega) j2
      cases ta : Nat.testBit a k
      · rw [if_neg (fun q => by rw [tb.1.mp q] at ta; exact absurd ta (by decide)), nI_1]
        exact ih (k + 1) fu false (by omega) (by omega) (fun q => absurd q (by decide)) (fun _ => nxt (fun q => by rw [ta] at q; exact absurd q (by decide)))
      · have hi' := ha.2 k ta
        have a7 : aI T 357 (nI (16 * l1 + k)) = nI (L1.r k).s := by unfold aI; rw [nI_clamp (by omega)]; exact (s7.2.2 k hi').2.1
        have sb := bit_eq (s9.2.2 k hi').2.1 hv
        rw [if_pos (tb.1.mpr ta), z_i352 hs, qk_true, z_p908_352 hs, qP_some', qv_eq, s3, z_i357 hs, qk_true, ex, z_l357 hs, inb_n (show 16 * l1 + k < 96 by omega) (by omega), qk_true, qv_eq, a7, nI_1]
        cases ts : Nat.testBit (L1.r k).s v
        · rw [if_neg (fun q => by rw [sb.2.mp q] at ts; exact absurd ts (by decide))]
          exact ih (k + 1) fu false (by omega) (by omega) (fun q => absurd q (by decide)) (fun _ => nxt (fun _ => ts))
        · rw [if_pos (sb.2.mpr ts)]
          exact ih (k + 1) fu true (by omega) (by omega) (fun _ => ⟨k, hk, ta, ts⟩) (fun q => absurd q (by decide))
    · rw [if_neg (show ¬ bI true = 0 by decide), nI_1]
      exact ih (k + 1) fu true (by omega) (by omega) h3 (fun q => absurd q (by decide))
theorem v_sto2 (hF : 16400 ≤ F) (s : SM T l1 l2 L1 L2 mu) {a b : Nat} (ha : inM L1 a) (hb : inM L2 b) (hb0 : mu ≠ none → b = 0) : ∀ d v fu, v + d = 4 → d < fu → (∀ u, u < v → ¬ Dm mu L1 L2 6 a b (fun _ => u)) → (∃ u, u < 4 ∧ f_X12_stateOf_2 F fu 352 (nI a) (nI b) (nI v) T = some (nI u, T) ∧ Dm mu L1 L2 6 a b (fun _ => u) ∧ ∀ u', u' < u → ¬ Dm mu L1 L2 6 a b (fun _ => u')) ∨ (f_X12_stateOf_2 F fu 352 (nI a) (nI b) (nI v) T = some (-1, T) ∧ ∀ u, u < 4 → ¬ Dm mu L1 L2 6 a b (fun _ => u)) := by
  have s' := s
  obtain ⟨hs, s1, s2, s3, s4, s5, s6, s7, s8, s9, s10⟩ := s'
  have n16 := s9.1
  intro d
  induction d with
  | zero =>
    intro v fu h1 h2 h3
    obtain ⟨fu, rfl⟩ : ∃ q, fu = q + 1 := ⟨fu - 1, by omega⟩
    rw [f_X12_stateOf_2, if_pos (show (4 : Int32) ≤ nI v from nI_le (a := 4) (by omega) (by omega))]
    exact Or.inr ⟨rfl, fun u hu => h3 u (by omega)⟩
  | succ d ih =>
    intro v fu h1 h2 h3
    obtain ⟨fu, rfl⟩ : ∃ q, fu = q + 1 := ⟨fu - 1, by omega⟩
    have hv : v < 4 := by omega
    rw [f_X12_stateOf_2, if_neg (show ¬ (4 : Int32) ≤ nI v from nI_ge (b := 4) hv (by omega)), z_i352 hs, qk_true, qv_eq]
    have go : ¬ Dm mu L1 L2 6 a b (fun _ => v) → ∀ u, u < v + 1 → ¬ Dm mu L1 L2 6 a b (fun _ => u) := by
      intro q u hu
      by_cases c : u = v
      · rw [c]; exact q
      · exact h3 u (by omega)
    cases mu with
    | none =>
      have A1 : f_X12_actionOf F T 352 (nI l1) (nI a) (nI v) = some (nI (acf L1.r (αr L1) a L1.p 6 (fun _ => v)), T) := v_act3 hs s7 s1 s9 ha hv 16 0 F (by omega) (by omega)
      have A2 : f_X12_actionOf F T 352 (nI l2) (nI b) (nI v) = some (nI (acf L2.r (αr L2) b L2.p 6 (fun _ => v)), T) := v_act3 hs s8 s2 s10 hb hv 16 0 F (by omega) (by omega)
      have b1 := acf_3 (c := 6) s9 ha (fun _ => v)
      have b2 := acf_3 (c := 6) s10 hb (fun _ => v)
      have z : nI (acf L1.r (αr L1) a L1.p 6 (fun _ => v)) = nI (acf L2.r (αr L2) b L2.p 6 (fun _ => v)) ↔ acf L1.r (αr L1) a L1.p 6 (fun _ => v) = acf L2.r (αr L2) b L2.p 6 (fun _ => v) := nI_eq (by omega) (by omega)
      rw [s5 rfl, if_pos (by decide), qv_eq, s3, A1, qc_some', z_i352 hs, qk_true, qv_eq, s4, A2, qc_some']
      by_cases c : acf L1.r (αr L1) a L1.p 6 (fun _ => v) = acf L2.r (αr L2) b L2.p 6 (fun _ => v)
      · rw [if_pos (z.mpr c), nI_1]
        exact ih (v + 1) fu (by omega) (by omega) (go (fun q => q c))
      · rw [if_neg (fun q => c (z.mp q))]
        exact Or.inl ⟨v, hv, rfl, c, h3⟩
    | some i =>
      obtain ⟨e, hi⟩ := s6 i rfl
      have b0 := hb0 (by simp)
      subst b0
      rw [e, if_neg (nI_pos (by omega))]
      rcases v_sto20 (F := F) s rfl ha hv (f_X12_stateOf_2 F fu) (nI 0) 16 0 F false (by omega) (by omega) (fun q => absurd q (by decide)) (fun _ j j1 => by omega) with ⟨q1, q2⟩ | ⟨q1, q2⟩
      · have q2' : f_X12_stateOf_20 F (f_X12_stateOf_2 F fu) F 352 (nI a) (nI 0) (nI v) 0 0 T = some (nI v, T) := q2
        rw [q2']
        exact Or.inl ⟨v, hv, rfl, q1, h3⟩
      · have q2' : f_X12_stateOf_20 F (f_X12_stateOf_2 F fu) F 352 (nI a) (nI 0) (nI v) 0 0 T = f_X12_stateOf_2 F fu 352 (nI a) (nI 0) (nI (v + 1)) T := q2
        rw [q2']
        exact ih (v + 1) fu (by omega) (by omega) (go q1)
end MTE
