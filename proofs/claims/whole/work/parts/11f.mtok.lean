/-! the model reads tokens -/
def MD (T : gk_S) (b : Nat → Nat) (m : Nat) : Prop := Sh T ∧ gI T 903 352 = nI m ∧ m ≤ 2100 ∧ bt (xI T 353) = b ∧ (∀ i, b8 (xI T 353 i) = xI T 353 i) ∧ Wd T
def mb (b : Nat → Nat) (m i : Nat) : Int32 := if i < m then nI (b i) else -1
theorem l_or8 {x y : Nat} (hx : x < 2 ^ 50) (hy : y < 256) : (lN x <<< ((8 : Int32).toInt64 &&& 63)) ||| lN y = lN (x * 256 + y) := by
  apply Int64.toBitVec_inj.mp
  apply BitVec.eq_of_toNat_eq
  have e1 : ((lN x <<< ((8 : Int32).toInt64 &&& 63)) ||| lN y).toBitVec = (BitVec.ofNat 64 x <<< 8) ||| BitVec.ofNat 64 y := rfl
  have e2 : (lN (x * 256 + y)).toBitVec = BitVec.ofNat 64 (x * 256 + y) := rfl
  rw [e1, e2, BitVec.toNat_or, BitVec.toNat_shiftLeft, BitVec.toNat_ofNat, BitVec.toNat_ofNat, BitVec.toNat_ofNat, Nat.mod_eq_of_lt (by omega : x < 2 ^ 64), Nat.mod_eq_of_lt (by omega : y < 2 ^ 64), Nat.mod_eq_of_lt (by omega : x * 256 + y < 2 ^ 64), Nat.shiftLeft_eq, Nat.mod_eq_of_lt (by omega : x * 2 ^ 8 < 2 ^ 64), Nat.mul_comm x, ← Nat.two_pow_add_eq_or_of_lt (by omega : y < 2 ^ 8)]
theorem b8_small : ∀ v, v < 128 → b8 (nI v) = nI v := by decide +kernel
theorem adr_bad (b : Nat → Nat) : ∀ d k gs n v, gs ≤ k → gg b gs k = false → adr b d k gs n v = none := by
  intro d
  induction d with
  | zero => intro k gs n v _ h; rw [adr, if_neg (fun e => by rw [h] at e; exact absurd e.2.1 (by decide))]
  | succ d ih =>
    intro k gs n v h1 h
    rw [adr]
    by_cases c : b k = 46
    · rw [if_pos c, if_neg (fun e => by rw [h] at e; exact absurd e.2.1 (by decide))]
    · rw [if_neg c]
      refine ih (k + 1) gs n v (by omega) ?_
      cases e : gg b gs (k + 1)
      · rfl
      · rw [gg_mono b h1 e] at h; exact absurd h (by decide)
theorem adr_4 (b : Nat → Nat) : ∀ d k gs v, adr b d k gs 4 v = none := by
  intro d
  induction d with
  | zero => intro k gs v; rw [adr, if_neg (fun e => by omega)]
  | succ d ih =>
    intro k gs v
    rw [adr]
    by_cases c : b k = 46
    · rw [if_pos c, if_neg (fun e => by omega)]
    · rw [if_neg c]; exact ih _ _ _
section MTK
variable {S T : gk_S} {F m : Nat} {b : Nat → Nat}
theorem MD_b (h : MD T b m) (i : Nat) : b i < 256 := by rw [← h.2.2.2.1]; exact bt_lt _ _
theorem MD_sI (h : MD T b m) {f : Nat} (hf : 903 ≠ f) (a : Nat) (v : Int32) : MD (sI T f a v) b m := ⟨Sh_sI h.1 _ _ _, by rw [rd_ne _ _ (Or.inl hf)]; exact h.2.1, h.2.2.1, h.2.2.2.1, h.2.2.2.2.1, h.2.2.2.2.2⟩
theorem MD_sJ (h : MD T b m) (f a : Nat) (v : Int64) : MD (sJ T f a v) b m := ⟨Sh_sJ h.1 _ _ _, by rw [rd_J]; exact h.2.1, h.2.2.1, h.2.2.2.1, h.2.2.2.2.1, h.2.2.2.2.2⟩
theorem MD_F {lI lJ lP rI' rJ' rP' : List Nat} (h : MD S b m) (f : Frm lI lJ lP rI' rJ' rP' S T) (hs : Sh T) (e1 : 903 ∉ lI) (e2 : 353 ∉ rI') (e3 : 361 ∉ rI' ∧ 362 ∉ rI') : MD T b m := ⟨hs, (f.2.2.2.1 _ _ e1).trans h.2.1, h.2.2.1, by rw [f.2.2.2.2.2.2.1 _ e2]; exact h.2.2.2.1, by rw [f.2.2.2.2.2.2.1 _ e2]; exact h.2.2.2.2.1, Fr_Wd f h.2.2.2.2.2 e3⟩
theorem v_bat (h : MD T b m) {j : Nat} (hj : j < 2 ^ 31) : f_X12_byteAt F T 352 (nI j) = some (mb b m j, T) := by
  have m2 := h.2.2.1
  unfold f_X12_byteAt mb
  rw [z_i352 h.1, qk_true, qv_eq, h.2.1]
  by_cases c : j < m
  · have e : aI T 353 (nI j) &&& 255 = nI (b j) := by
      unfold aI
      rw [nI_clamp (by omega), bt_eq, h.2.2.2.1]
    rw [if_neg (nI_ge c (by omega)), if_pos c, z_p901_352 h.1, qP_some', z_i353 h.1, qk_true, z_l353 h.1, inb_n (show j < 2100 by omega) (by omega), qk_true, qv_eq, e]
  · rw [if_pos (nI_le (by omega) hj), if_neg c]
theorem v_sml (h : MD T b m) (j : Nat) : f_X12_isSmall F T (mb b m j) = some (bI (decide (j < m) && cL (b j)), T) := by
  unfold mb
  by_cases c : j < m
  · have hc := MD_b h j
    have z1 : nI (b j) < 97 ↔ b j < 97 := nI_ltI (b := 97) (by omega) (by omega)
    have z2 : 122 < nI (b j) ↔ 122 < b j := nI_ltI (a := 122) (by omega) (by omega)
    rw [if_pos c, decide_eq_true c, Bool.true_and]
    unfold f_X12_isSmall cL
    by_cases q1 : b j < 97
    · rw [if_pos (z1.mpr q1), decide_eq_false (by omega)]; rfl
    · by_cases q2 : 122 < b j
      · rw [if_neg (fun e => q1 (z1.mp e)), if_pos (z2.mpr q2), decide_eq_false (by omega)]; rfl
      · rw [if_neg (fun e => q1 (z1.mp e)), if_neg (fun e => q2 (z2.mp e)), decide_eq_true (by omega)]; rfl
  · rw [if_neg c, decide_eq_false c, Bool.false_and]; rfl
theorem v_dig (h : MD T b m) (j : Nat) : f_X12_isDigit F T (mb b m j) = some (bI (decide (j < m) && cD (b j)), T) := by
  unfold mb
  by_cases c : j < m
  · have hc := MD_b h j
    have z1 : nI (b j) < 48 ↔ b j < 48 := nI_ltI (b := 48) (by omega) (by omega)
    have z2 : 57 < nI (b j) ↔ 57 < b j := nI_ltI (a := 57) (by omega) (by omega)
    rw [if_pos c, decide_eq_true c, Bool.true_and]
    unfold f_X12_isDigit cD
    by_cases q1 : b j < 48
    · rw [if_pos (z1.mpr q1), decide_eq_false (by omega)]; rfl
    · by_cases q2 : 57 < b j
      · rw [if_neg (fun e => q1 (z1.mp e)), if_pos (z2.mpr q2), decide_eq_false (by omega)]; rfl
      · rw [if_neg (fun e => q1 (z1.mp e)), if_neg (fun e => q2 (z2.mp e)), decide_eq_true (by omega)]; rfl
  · rw [if_neg c, decide_eq_false c, Bool.false_and]; rfl
theorem mb_eq (h : MD T b m) (j : Nat) {c : Nat} (hc : c < 256) : mb b m j = nI c ↔ j < m ∧ b j = c := by
  have hb := MD_b h j
  unfold mb
  by_cases q : j < m
  · rw [if_pos q, nI_eq (by omega) (by omega)]; exact ⟨fun e => ⟨q, e⟩, fun e => e.2⟩
  · rw [if_neg q]; exact ⟨fun e => absurd e.symm (nI_m1 c hc), fun e => absurd e.1 q⟩
theorem v_isAt2 (h : MD T b m) {s w : Nat} (hw : w < 18) (hm : s + wsz w ≤ m) : ∀ d k fu, k + d = wsz w → d < fu → f_X12_isAt_2 F fu 352 (nI w) (nI s) (nI k) T = some (bI (decide (bl b d (s + k) = (wrd w).drop k)), T) := by
  have o := wrd_ok w hw
  have m2 := h.2.2.1
  have a1 : aI T 361 (nI w) = nI (wat w) := by unfold aI; rw [nI_clamp (by omega), (h.2.2.2.2.2 w hw).1]
  have a2 : aI T 362 (nI w) = nI (wsz w) := by unfold aI; rw [nI_clamp (by omega), (h.2.2.2.2.2 w hw).2]
  intro d
  induction d with
  | zero =>
    intro k fu h1 h2
    obtain ⟨fu, rfl⟩ : ∃ q, fu = q + 1 := ⟨fu - 1, by omega⟩
    rw [f_X12_isAt_2, z_i352 h.1, qk_true, z_p913_352 h.1, qP_some', z_i362 h.1, qk_true, z_l362 h.1, inb_n hw (by omega), qk_true, qv_eq, a2, if_pos (nI_le (by omega) (by omega)), List.drop_of_length_le (by omega)]
    rfl
  | succ d ih =>
    intro k fu h1 h2
    obtain ⟨fu, rfl⟩ : ∃ q, fu = q + 1 := ⟨fu - 1, by omega⟩
    have t33 := (tx_ok 33 (by omega)).1
    have tc := (tch_ok (i := 33) (by omega) (show wat w + k < tlen 33 by omega)).2.2
    have x3 : aI T 353 (nI (s + k)) = xI T 353 (s + k) := by unfold aI; rw [nI_clamp (by omega)]
    have b8x := h.2.2.2.2.1 (s + k)
    have bx : nI (b (s + k)) = xI T 353 (s + k) &&& 255 := by rw [← h.2.2.2.1]; exact (bt_eq _ _).symm
    have bb := MD_b h (s + k)
    have zz : tch 33 (wat w + k) = xI T 353 (s + k) ↔ b (s + k) = un (tch 33 (wat w + k)) % 256 := by
      generalize tch 33 (wat w + k) = c at tc
      generalize xI T 353 (s + k) = x at b8x bx
      constructor
      · intro e
        subst e
        have e2 : c &&& 255 = nI (un c % 256) := by
          have := pk_and c (m := 255) 8 (by decide)
          rw [this]
          rfl
        rw [e2] at bx
        exact (nI_eq (by omega) (by omega)).mp bx
      · intro e
        have e2 : x &&& 255 = nI (un x % 256) := by
          have := pk_and x (m := 255) 8 (by decide)
          rw [this]
          rfl
        rw [e2] at bx
        have e3 := (nI_eq (by omega) (by omega)).mp bx
        rw [← b8x, b8_un, ← e3, e, b8_small _ (by omega), Nat.mod_eq_of_lt (by omega), nI_un]
    rw [f_X12_isAt_2, z_i352 h.1, qk_true, z_p913_352 h.1, qP_some', z_i362 h.1, qk_true, z_l362 h.1, inb_n hw (by omega), qk_true, qv_eq, a2, if_neg (nI_ge (by omega) (by omega)), z_p912_352 h.1, qP_some', z_i361 h.1, qk_true, z_l361 h.1, inb_n hw (by omega), qk_true, qv_eq, a1, nI_add, j_char (by omega) (by omega), qc_some', z_i352 h.1, qk_true, z_p901_352 h.1, qP_some', z_i353 h.1, qk_true, z_l353 h.1, nI_add, inb_n (show s + k < 2100 by omega) (by omega), qk_true, qv_eq, x3, nI_1, ih (k + 1) fu (by omega) (by omega), wrd_drop (k := k) hw (by omega), bl]
    by_cases c : b (s + k) = un (tch 33 (wat w + k)) % 256
    · rw [if_pos (zz.mpr c)]
      congr 3
      rw [c]
      have : (bl b d (s + (k + 1)) = (wrd w).drop (k + 1)) ↔ (un (tch 33 (wat w + k)) % 256 :: bl b d (s + k + 1) = un (tch 33 (wat w + k)) % 256 :: (wrd w).drop (k + 1)) := by
        rw [show s + (k + 1) = s + k + 1 by omega]
        constructor
        · intro e; rw [e]
        · intro e; injection e
      exact decide_eq_decide.mpr this
    · rw [if_neg (fun e => c (zz.mp e)), decide_eq_false]
      · rfl
      · intro e
        injection e with e1 e2
        exact c e1
def wval (w k : Nat) : Int32 := if w < k then nI w else -1
theorem v_rw103 (hF : 16400 ≤ F) {s e : Nat} (hs : s ≤ e) (he : e ≤ m) : ∀ d k fu (T : gk_S), MD T b m → gI T 904 352 = nI e → k + d = 18 → d < fu → gI T 916 352 = wval (wix (bl b (e - s) s)) k → f_X12_readWord_103 F fu 352 (nI s) (nI k) T = some ((), sI T 916 352 (wval (wix (bl b (e - s) s)) 18)) := by
  intro d
  induction d with
  | zero =>
    intro k fu T h e4 h1 h2 e6
    obtain ⟨fu, rfl⟩ : ∃ q, fu = q + 1 := ⟨fu - 1, by omega⟩
    have ek : k = 18 := by omega
    subst ek
    rw [f_X12_readWord_103, if_pos (by decide), sI_id T 916 352 e6]
  | succ d ih =>
    intro k fu T h e4 h1 h2 e6
    obtain ⟨fu, rfl⟩ : ∃ q, fu = q + 1 := ⟨fu - 1, by omega⟩
    have m2 := h.2.2.1
    have hk : k < 18 := by omega
    have o := wrd_ok k hk
    have a2 : aI T 362 (nI k) = nI (wsz k) := by unfold aI; rw [nI_clamp (by omega), (h.2.2.2.2.2 k hk).2]
    have wi := wix_iff hk (bl b (e - s) s)
    generalize hW : wix (bl b (e - s) s) = W at e6 wi ih
    have z : nI (wsz k) = nI (e - s) ↔ wsz k = e - s := nI_eq (by omega) (by omega)
    rw [f_X12_readWord_103, if_neg (show ¬ (18 : Int32) ≤ nI k from nI_ge (b := 18) hk (by omega)), z_i352 h.1, qk_true, z_p913_352 h.1, qP_some', z_i362 h.1, qk_true, z_l362 h.1, inb_n hk (by omega), qk_true, qv_eq, a2, qv_eq, e4, pk_sub hs]
    have nx : W ≠ k → wval W (k + 1) = wval W k := by
      intro q
      unfold wval
      by_cases c : W < k
      · rw [if_pos c, if_pos (by omega)]
      · rw [if_neg c, if_neg (by omega)]
    have skip : W ≠ k → f_X12_readWord_103 F fu 352 (nI s) (nI (k + 1)) T = some ((), sI T 916 352 (wval W 18)) := fun q => ih (k + 1) fu T h e4 (by omega) (by omega) (by rw [nx q]; exact e6)
    by_cases c1 : wsz k = e - s
    · have ia := v_isAt2 (F := F) h (s := s) hk (by omega) (wsz k) 0 F (by omega) (by omega)
      rw [List.drop_zero, Nat.add_zero, c1] at ia
      have ia' : f_X12_isAt F T 352 (nI k) (nI s) = some (bI (decide (bl b (e - s) s = wrd k)), T) := ia
      rw [if_pos (z.mpr c1), ia', qc_some']
      by_cases c2 : W = k
      · rw [decide_eq_true (wi.mp c2).symm, if_neg (show ¬ bI true = 0 by decide), z_i352 h.1, qk_true, qv_eq, nI_1]
        have v1 : wval W (k + 1) = nI k := by unfold wval; rw [if_pos (by omega), c2]
        have r := ih (k + 1) fu (sI T 916 352 (nI k)) (MD_sI h (by decide) _ _) (by rw [rd_ne _ _ (Or.inl (by decide))]; exact e4) (by omega) (by omega) (by rw [v1]; exact rd_eq _ _ _ _)
        rw [r, sI_sI]
      · rw [decide_eq_false (fun q => c2 (wi.mpr q.symm)), if_pos (show bI false = 0 from rfl), nI_1, skip c2]
    · rw [if_neg (fun q => c1 (z.mp q)), nI_1, skip]
      intro q
      have := wi.mp q
      apply c1
      rw [← o.2.2, this, bl_len]
end MTK
