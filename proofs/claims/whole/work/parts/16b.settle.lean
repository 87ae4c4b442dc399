/-! the class's search: what is prepared; sides are settled -/
/-- what is prepared: cuts of each coordinate, what they meet, whole rules, actions, twins -/
def PR (T : gk_S) (ρ1 ρ2 : Nat → AR) (α1 α2 : Nat → Nat) (n1 n2 : Nat) (mc : Nat → Nat) (cv : Nat → Nat → Nat) (tw : Nat) : Prop :=
  (∀ c, c < 7 → 1 ≤ mc c ∧ mc c ≤ 65 ∧ xI T 275 c = nI (mc c) ∧ cv c 0 = 0 ∧ (∀ k, k < mc c → xJ T (260 + c) k = lN (cv c k) ∧ cv c k ≤ tp c ∧ (∀ j, j < k → cv c j < cv c k) ∧ (∃ M, M < 4294967296 ∧ xI T (268 + c) k = nI M ∧ (∀ i, i < 16 → Nat.testBit M i = (decide (i < n1) && hd (ρ1 i) c (cv c k)) ∧ Nat.testBit M (16 + i) = (decide (i < n2) && hd (ρ2 i) c (cv c k)))) ∧ ∀ u, cv c k ≤ u → u ≤ tp c → (∀ j, j < mc c → k < j → u < cv c j) → (∀ i, i < n1 → hd (ρ1 i) c u = hd (ρ1 i) c (cv c k)) ∧ (∀ i, i < n2 → hd (ρ2 i) c u = hd (ρ2 i) c (cv c k)))) ∧
  (∀ c, c < 7 → ∃ W, W < 4294967296 ∧ xI T 276 c = nI W ∧ (∀ i, i < 16 → (Nat.testBit W i = true → i < n1 ∧ ∀ x, V7 c x → mt7 (ρ1 i) c x = true) ∧ (Nat.testBit W (16 + i) = true → i < n2 ∧ ∀ x, V7 c x → mt7 (ρ2 i) c x = true))) ∧ xI T 276 7 = nI 4294967295 ∧
  (∀ a, a < 3 → ∃ O, O < 4294967296 ∧ xI T 277 a = nI O ∧ ∀ i, i < 16 → (i < n1 → Nat.testBit O i = decide (α1 i = a)) ∧ (i < n2 → Nat.testBit O (16 + i) = decide (α2 i = a))) ∧
  (tw < 65536 ∧ gI T 506 257 = nI tw ∧ ∀ i, Nat.testBit tw i = true → i < n1 ∧ i < n2 ∧ (∀ k v, hd (ρ1 i) k v = hd (ρ2 i) k v) ∧ α1 i = α2 i) ∧ n1 ≤ 16 ∧ n2 ≤ 16 ∧ (∀ i, i < n1 → α1 i < 3) ∧ ∀ i, i < n2 → α2 i < 3
theorem side_eq : ∀ p, p < 4 → nI p <<< ((16 : Int32) &&& 31) = nI (65536 * p) := by decide +kernel
theorem sd_or {a p : Nat} (ha : a < 65536) : a ||| 65536 * p = a + 65536 * p := by
  rw [Nat.or_comm, show 65536 = 2 ^ 16 from rfl, ← Nat.two_pow_add_eq_or_of_lt (by omega), Nat.add_comm]
theorem sd_and {a p : Nat} (ha : a < 65536) : nI (a + 65536 * p) &&& 65535 = nI a := by
  rw [show (65535 : Int32) = nI 65535 from rfl, nI_and]
  congr 1
  have := Nat.and_two_pow_sub_one_eq_mod (a + 65536 * p) 16
  rw [show 2 ^ 16 - 1 = 65535 from rfl] at this
  rw [this]
  omega
theorem shl16w : ∀ w, w < 16 → nI (2 ^ w) <<< ((16 : Int32) &&& 31) = nI (2 ^ (16 + w)) := by decide +kernel
theorem shl0w : ∀ w, w < 16 → nI (2 ^ w) <<< ((0 : Int32) &&& 31) = nI (2 ^ w) := by decide +kernel
/-- one side's rules -/
def sR (sh : Nat) (ρ1 ρ2 : Nat → AR) : Nat → AR := if sh = 0 then ρ1 else ρ2
def sA (sh : Nat) (α1 α2 : Nat → Nat) : Nat → Nat := if sh = 0 then α1 else α2
def sN (sh n1 n2 : Nat) : Nat := if sh = 0 then n1 else n2
section SET
variable {T : gk_S} {F n1 n2 tw : Nat} {ρ1 ρ2 : Nat → AR} {α1 α2 : Nat → Nat} {mc : Nat → Nat} {cv : Nat → Nat → Nat}
theorem PR_O (h : PR T ρ1 ρ2 α1 α2 n1 n2 mc cv tw) {sh : Nat} (hsh : sh = 0 ∨ sh = 16) {a : Nat} (ha : a < 3) : ∃ O, O < 4294967296 ∧ xI T 277 a = nI O ∧ ∀ i, i < sN sh n1 n2 → Nat.testBit O (sh + i) = decide (sA sh α1 α2 i = a) := by
  obtain ⟨O, o1, o2, o3⟩ := h.2.2.2.1 a ha
  have b1 := h.2.2.2.2.2.1
  have b2 := h.2.2.2.2.2.2.1
  refine ⟨O, o1, o2, fun i hi => ?_⟩
  rcases hsh with rfl | rfl
  · have hi' : i < n1 := hi
    rw [Nat.zero_add]; exact (o3 i (by omega)).1 hi'
  · have hi' : i < n2 := hi
    exact (o3 i (by omega)).2 hi'
theorem k_actO (hs : Sh T) (h : PR T ρ1 ρ2 α1 α2 n1 n2 mc cv tw) {sh : Nat} (hsh : sh = 0 ∨ sh = 16) {w : Nat} (hw : w < sN sh n1 n2) (hF : 16400 ≤ F) : f_X7_actionOf F T 257 (nI (2 ^ (sh + w))) = some (nI (sA sh α1 α2 w), T) := by
  have b1 := h.2.2.2.2.2.1
  have b2 := h.2.2.2.2.2.2.1
  have a3 : sA sh α1 α2 w < 3 := by
    rcases hsh with rfl | rfl
    · exact h.2.2.2.2.2.2.2.1 w hw
    · exact h.2.2.2.2.2.2.2.2 w hw
  have w16 : sh + w < 32 := by
    rcases hsh with rfl | rfl
    · have hw' : w < n1 := hw
      omega
    · have hw' : w < n2 := hw
      omega
  have step : ∀ a fu, a < 2 → f_X7_actionOf_2 F (fu + 1) 257 (nI (2 ^ (sh + w))) (nI a) T = if sA sh α1 α2 w = a then some (nI a, T) else f_X7_actionOf_2 F fu 257 (nI (2 ^ (sh + w))) (nI (a + 1)) T := by
    intro a fu ha
    obtain ⟨O, o1, o2, o3⟩ := PR_O h hsh (a := a) (by omega)
    have aa : aI T 277 (nI a) = nI O := by unfold aI; rw [nI_clamp (by omega)]; exact o2
    have o4 := o3 w hw
    have le : O &&& 2 ^ (sh + w) ≤ O := Nat.and_le_left
    have z : nI (O &&& 2 ^ (sh + w)) = 0 ↔ O &&& 2 ^ (sh + w) = 0 := n32_eq (b := 0) (by omega) (by omega)
    have zt : O &&& 2 ^ (sh + w) = 0 ↔ Nat.testBit O (sh + w) = false := by
      constructor
      · intro e
        have : Nat.testBit (O &&& 2 ^ (sh + w)) (sh + w) = false := by rw [e, Nat.zero_testBit]
        rw [Nat.testBit_and, Nat.testBit_two_pow, decide_eq_true rfl, Bool.and_true] at this
        exact this
      · intro e
        apply Nat.eq_of_testBit_eq
        intro i
        rw [Nat.testBit_and, Nat.testBit_two_pow, Nat.zero_testBit]
        by_cases c : sh + w = i
        · rw [← c, e]; rfl
        · rw [decide_eq_false c, Bool.and_false]
    rw [f_X7_actionOf_2, if_neg (show ¬ (2 : Int32) ≤ nI a from nI_ge (b := 2) ha (by omega)), z_i257 hs, qk_true, z_p505_257 hs, qP_some', z_i277 hs, qk_true, z_l277 hs, inb_n (show a < 3 by omega) (by omega), qk_true, qv_eq, aa, nI_and, nI_1]
    by_cases c : sA sh α1 α2 w = a
    · rw [if_pos c, if_neg (fun q => by
        have := zt.mp (z.mp q)
        rw [o4, decide_eq_true c] at this
        exact absurd this (by decide))]
    · rw [if_neg c, if_pos (z.mpr (zt.mpr (by rw [o4, decide_eq_false c])))]
  obtain ⟨fu, e⟩ : ∃ fu, F = fu + 1 + 1 + 1 := ⟨F - 3, by omega⟩
  have k : f_X7_actionOf_2 F (fu + 1 + 1 + 1) 257 (nI (2 ^ (sh + w))) (nI 0) T = some (nI (sA sh α1 α2 w), T) := by
    rw [step 0 _ (by omega)]
    by_cases c0 : sA sh α1 α2 w = 0
    · rw [if_pos c0, c0]
    rw [if_neg c0, step 1 _ (by omega)]
    by_cases c1 : sA sh α1 α2 w = 1
    · rw [if_pos c1, c1]
    rw [if_neg c1, f_X7_actionOf_2, if_pos (by decide), show sA sh α1 α2 w = 2 by omega]
    rfl
  rw [← e] at k
  exact k
theorem k_set57 (hs : Sh T) (h : PR T ρ1 ρ2 α1 α2 n1 n2 mc cv tw) {sh : Nat} (hsh : sh = 0 ∨ sh = 16) {a p : Nat} (ha : a < 65536) (hin : ∀ i, Nat.testBit a i = true → i < sN sh n1 n2) (hp : p < 3) : ∃ a', f_X7_settle_57 F 257 (nI sh) (nI a) (nI p) T = some (nI (a' + 65536 * p), T) ∧ a' < 65536 ∧ (∀ i, Nat.testBit a' i = true → Nat.testBit a i = true) ∧ ∀ r c x, acf r (sA sh α1 α2) a p c x = acf r (sA sh α1 α2) a' p c x := by
  have b1 := h.2.2.2.2.2.1
  have b2 := h.2.2.2.2.2.2.1
  obtain ⟨O, o1, o2, o3⟩ := PR_O h hsh hp
  have aa : aI T 277 (nI p) = nI O := by unfold aI; rw [nI_clamp (by omega)]; exact o2
  have us : ((nI O).toUInt32 >>> ((nI sh).toUInt32 &&& Int32.toUInt32 31)).toInt32 = nI (O / 2 ^ sh) := ushr_n o1 (by omega)
  obtain ⟨o, ho⟩ : ∃ o, o = bm (fun i => Nat.testBit a i && !(Nat.testBit (O / 2 ^ sh) i)) 16 := ⟨_, rfl⟩
  have ob : o < 65536 := by rw [ho]; exact bm_lt _ 16
  have ot : ∀ i, i < 16 → Nat.testBit o i = (Nat.testBit a i && !(Nat.testBit O (sh + i))) := fun i hi => by
    rw [ho, bm_t, decide_eq_true hi, Bool.true_and, Nat.testBit_div_two_pow, Nat.add_comm]
  obtain ⟨u, u1, u2, u3⟩ := up_hi (T := T) (F := F) ob
  have le : a &&& u ≤ a := Nat.and_le_left
  have i16 : ∀ {i}, Nat.testBit a i = true → i < 16 := fun {i} q => by
    rcases Nat.lt_or_ge i 16 with c | c
    · exact c
    · rw [tb_hi16 ha c] at q; exact absurd q (by decide)
  refine ⟨a &&& u, ?_, by omega, fun i q => by rw [Nat.testBit_and, Bool.and_eq_true] at q; exact q.1, fun r c x => act_tail (fun j _ q => by rw [Nat.testBit_and, Bool.and_eq_true] at q; exact q.1) (fun j hj q1 q2 => ?_) (fun j k jk hk q1 q2 => ?_)⟩
  · unfold f_X7_settle_57 f_X7_settle_87 f_X7_side
    rw [if_neg (nI_pos (by omega)), if_neg (show ¬ (3 : Int32) ≤ nI p from nI_ge (b := 3) hp (by omega)), z_i257 hs, qk_true, z_p505_257 hs, qP_some', z_i277 hs, qk_true, z_l277 hs, inb_n hp (by omega), qk_true, qv_eq, aa, qv_eq, us, and_not a _ ha, ← ho, u1, qc_some', qc_some', nI_and, side_eq p (by omega), nI_or, sd_or (by omega)]
  · rw [Nat.testBit_and, q1, Bool.true_and] at q2
    have no : ¬ ∃ k, j ≤ k ∧ k < 16 ∧ Nat.testBit o k = true := fun e => by rw [(u3 j hj).mpr e] at q2; exact absurd q2 (by decide)
    have oj : ¬ Nat.testBit o j = true := fun e => no ⟨j, Nat.le_refl _, hj, e⟩
    rw [ot j hj, q1, Bool.true_and, o3 j (hin j q1)] at oj
    by_cases c : sA sh α1 α2 j = p
    · exact c
    · rw [decide_eq_false c] at oj; exact absurd rfl oj
  · rw [Nat.testBit_and, q1, Bool.true_and] at q2
    have no : ¬ ∃ k, j ≤ k ∧ k < 16 ∧ Nat.testBit o k = true := fun e => by rw [(u3 j (i16 q1)).mpr e] at q2; exact absurd q2 (by decide)
    rw [Nat.testBit_and]
    cases e : Nat.testBit u k
    · rw [Bool.and_false]
    · obtain ⟨m, m1, m2, m3⟩ := (u3 k hk).mp e
      exact absurd ⟨m, by omega, m2, m3⟩ no
theorem k_settle (hF : 16400 ≤ F) (hs : Sh T) (h : PR T ρ1 ρ2 α1 α2 n1 n2 mc cv tw) {sh : Nat} (hsh : sh = 0 ∨ sh = 16) {a p c : Nat} (hc : c ≤ 7) (ha : a < 65536) (hin : ∀ i, Nat.testBit a i = true → i < sN sh n1 n2) (hp : p < 3) : ∃ a' p', f_X7_settle F T 257 (nI c) (nI (a + 65536 * p)) (nI sh) = some (nI (a' + 65536 * p'), T) ∧ a' < 65536 ∧ p' < 3 ∧ (∀ i, Nat.testBit a' i = true → Nat.testBit a i = true) ∧ (∀ x, V7 c x → acf (sR sh ρ1 ρ2) (sA sh α1 α2) a p c x = acf (sR sh ρ1 ρ2) (sA sh α1 α2) a' p' c x) ∧ (c = 7 → a' = 0) := by
  have b1 := h.2.2.2.2.2.1
  have b2 := h.2.2.2.2.2.2.1
  have n16 : sN sh n1 n2 ≤ 16 := by
    unfold sN
    split <;> omega
  obtain ⟨W, w1, w2, w3⟩ : ∃ W, W < 4294967296 ∧ xI T 276 c = nI W ∧ (∀ i, i < 16 → Nat.testBit W (sh + i) = true → ∀ x, V7 c x → mt7 (sR sh ρ1 ρ2 i) c x = true) ∧ (c = 7 → W = 4294967295) := by
    by_cases c7 : c = 7
    · subst c7
      exact ⟨4294967295, by omega, h.2.2.1, fun i _ _ x _ => mt_7 _ _, fun _ => rfl⟩
    · obtain ⟨W, w1, w2, w3⟩ := h.2.1 c (by omega)
      refine ⟨W, w1, w2, fun i hi q => ?_, fun e => absurd e c7⟩
      rcases hsh with rfl | rfl
      · rw [Nat.zero_add] at q; exact ((w3 i hi).1 q).2
      · exact ((w3 i hi).2 q).2
  have aw : aI T 276 (nI c) = nI W := by unfold aI; rw [nI_clamp (by omega)]; exact w2
  have us : ((nI W).toUInt32 >>> ((nI sh).toUInt32 &&& Int32.toUInt32 31)).toInt32 = nI (W / 2 ^ sh) := ushr_n w1 (by omega)
  have up : ((nI (a + 65536 * p)).toUInt32 >>> ((16 : Int32).toUInt32 &&& Int32.toUInt32 31)).toInt32 = nI p := by
    have := ushr_n (n := a + 65536 * p) (k := 16) (by omega) (by omega)
    have e : (a + 65536 * p) / 2 ^ 16 = p := by omega
    rw [e] at this
    exact this
  have le : a &&& W / 2 ^ sh ≤ a := Nat.and_le_left
  have z : nI (a &&& W / 2 ^ sh) = 0 ↔ (a &&& W / 2 ^ sh) = 0 := nI_eq (b := 0) (by omega) (by omega)
  have tW : ∀ i, Nat.testBit (a &&& W / 2 ^ sh) i = (Nat.testBit a i && Nat.testBit W (sh + i)) := fun i => by rw [Nat.testBit_and, Nat.testBit_div_two_pow, Nat.add_comm]
  unfold f_X7_settle
  rw [qv_eq, up, z_i257 hs, qk_true, z_p504_257 hs, qP_some', z_i276 hs, qk_true, z_l276 hs, inb_n (show c < 8 by omega) (by omega), qk_true, qv_eq, aw, qv_eq, us, sd_and ha, nI_and]
  by_cases c0 : (a &&& W / 2 ^ sh) = 0
  · obtain ⟨a', k1, k2, k3, k4⟩ := k_set57 (F := F) hs h hsh ha hin hp
    rw [if_pos (z.mpr c0)]
    refine ⟨a', p, k1, k2, hp, k3, fun x _ => k4 _ _ _, fun c7 => ?_⟩
    apply mask_eq k2 (by omega)
    intro i hi
    rw [Nat.zero_testBit]
    cases e : Nat.testBit a' i
    · rfl
    · have t := tW i
      rw [c0, Nat.zero_testBit, k3 i e, w3.2 c7, Bool.true_and] at t
      have : ∀ j, j < 32 → Nat.testBit 4294967295 j = true := by decide
      rw [this _ (by omega)] at t
      exact absurd t (by decide)
  · obtain ⟨w, m, ew⟩ := low_ex (a &&& W / 2 ^ sh) (by omega)
    obtain ⟨l1, l2, l3⟩ := low_bits ew
    have nl := neg_low (show (a &&& W / 2 ^ sh) < 65536 by omega) ew
    have l1' := l1
    rw [tW, Bool.and_eq_true] at l1'
    have wn := hin w l1'.1
    have w16 : w < 16 := by omega
    have hp2 := Nat.two_pow_pos w
    have e1 : nI (2 ^ w) - 1 = nI (2 ^ w - 1) := by rw [show (1 : Int32) = nI 1 from rfl, pk_sub (by omega)]
    have tl : ∀ j, Nat.testBit (a &&& (2 ^ w - 1)) j = (Nat.testBit a j && decide (j < w)) := fun j => by rw [Nat.testBit_and, Nat.testBit_two_pow_sub_one]
    have shw : nI (2 ^ w) <<< (nI sh &&& 31) = nI (2 ^ (sh + w)) := by
      rcases hsh with rfl | rfl
      · rw [Nat.zero_add]; exact shl0w w w16
      · exact shl16w w w16
    have al : a &&& (2 ^ w - 1) ≤ a := Nat.and_le_left
    obtain ⟨a', k1, k2, k3, k4⟩ := k_set57 (F := F) (a := a &&& (2 ^ w - 1)) (p := sA sh α1 α2 w) hs h hsh (by omega) (fun i q => by rw [tl, Bool.and_eq_true] at q; exact hin i q.1) (by
      rcases hsh with rfl | rfl
      · exact h.2.2.2.2.2.2.2.1 w wn
      · exact h.2.2.2.2.2.2.2.2 w wn)
    rw [if_neg (fun q => c0 (z.mp q)), qv_eq, nl, e1, nI_and, qv_eq, shw, k_actO hs h hsh wn hF, qc_some']
    refine ⟨a', _, k1, k2, ?_, fun i q => ?_, fun x vx => ?_, fun c7 => ?_⟩
    · rcases hsh with rfl | rfl
      · exact h.2.2.2.2.2.2.2.1 w wn
      · exact h.2.2.2.2.2.2.2.2 w wn
    · have := k3 i q
      rw [tl, Bool.and_eq_true] at this
      exact this.1
    · rw [← k4]
      exact act_whole w16 (w3.1 w w16 l1'.2 x vx) l1'.1 (fun j hj => by rw [tl, decide_eq_true hj, Bool.and_true]) (fun j hj => by rw [tl, decide_eq_false (by omega), Bool.and_false])
    · apply mask_eq k2 (by omega)
      intro i hi
      rw [Nat.zero_testBit]
      cases e : Nat.testBit a' i
      · rfl
      · have q := k3 i e
        rw [tl, Bool.and_eq_true] at q
        have lt := of_decide_eq_true q.2
        have t := l2 i lt
        rw [tW, q.1, w3.2 c7, Bool.true_and] at t
        have : ∀ j, j < 32 → Nat.testBit 4294967295 j = true := by decide
        rw [this _ (by omega)] at t
        exact absurd t (by decide)
end SET
