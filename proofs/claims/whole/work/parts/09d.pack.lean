section PACK3
variable {S : gk_S} {F : Nat} {g : Nat → Int32} {l : List Nat}
theorem rs_ext (g : Nat → Int32) (to : Nat) : ∀ d d' k, to ≤ k + 2 * d → to ≤ k + 2 * d' → rs g to d k = rs g to d' k := by
  intro d
  induction d with
  | zero =>
    intro d' k h1 h2
    cases d' with
    | zero => rfl
    | succ d' => unfold rs; rw [if_pos (by omega)]
  | succ d ih =>
    intro d' k h1 h2
    cases d' with
    | zero => unfold rs; rw [if_pos (by omega)]
    | succ d' =>
      unfold rs
      by_cases q : to ≤ k
      · rw [if_pos q, if_pos q]
      · rw [if_neg q, if_neg q, ih d' (k + 2) (by omega) (by omega)]
theorem rs_succ (g : Nat → Int32) (to d k : Nat) : rs g to (d + 1) k = if to ≤ k then 0 else (256 * bt g k + (if k + 1 < to then bt g (k + 1) else 0)) + rs g to d (k + 2) := rfl
theorem v_out (h : Sh S) {k : Nat} (hk : k + 1 < 3000) : f_X12_outTwo F (MW S g l) 352 (nI k) = some (nI (wd (wr g l) k), MW S g l) := by
  have H := Sh_MW h g l
  have e : ∀ j, j < 3000 → aI (MW S g l) 363 (nI j) &&& 255 = nI (bt (wr g l) j) := by
    intro j hj
    have : aI (MW S g l) 363 (nI j) = wr g l j := by
      unfold aI
      rw [nI_clamp (by omega)]
      rfl
    rw [this, bt_eq]
  unfold f_X12_outTwo
  rw [z_i352 H, qk_true, z_p920_352 H, qP_some', z_i363 H, qk_true, z_l363 H, inb_n (by omega) (by omega), qk_true, qv_eq, qP_some', z_i363 H, qk_true, z_l363 H, nI_1, inb_n hk (by omega), qk_true, qv_eq, e k (by omega), e (k + 1) hk, or_lo8 (bt_lt _ _) (bt_lt _ _)]
  rfl
theorem v_92 (h : Sh S) {wh v : Nat} (hw : wh + 1 < l.length) (hl : l.length ≤ 3000) (hv : v < 65536) : f_X12_sumAt_92 F 352 (nI wh) (nI v) (MW S g l) = some ((), MW S g (st2 l wh v)) := by
  have H := Sh_MW h g l
  have e4 : ∀ y : Int32, y.toInt8.toInt32.toInt8.toInt32 = b8 y := b8_b8
  have es : un (nI v >>> ((8 : Int32) &&& 31)) % 256 = v / 256 % 256 := by
    have := un_sshr (nI v) (k := 8) (by omega)
    rw [un_nI (by omega)] at this
    exact this
  have w1 : wB (MW S g l) 363 (nI wh) ((nI v >>> ((8 : Int32) &&& 31)) : Int32).toInt8.toInt32 = MW S g (l.set wh (v / 256 % 256)) := by
    unfold wB MW
    have e3 : xI (sI (rI S 363 (wr g l)) 921 352 (nI l.length)) 363 = wr g l := rfl
    rw [e3, nI_clamp (by omega), rI_sI, rI_rI, e4, wr_set g l (by omega), es, List.length_set]
  have w2 : wB (MW S g (l.set wh (v / 256 % 256))) 363 (nI (wh + 1)) (nI v).toInt8.toInt32 = MW S g (st2 l wh v) := by
    unfold wB MW
    have e3 : xI (sI (rI S 363 (wr g (l.set wh (v / 256 % 256)))) 921 352 (nI (l.set wh (v / 256 % 256)).length)) 363 = wr g (l.set wh (v / 256 % 256)) := rfl
    rw [e3, nI_clamp (by omega), rI_sI, rI_rI, e4, wr_set g _ (by rw [List.length_set]; omega), un_nI (by omega)]
    unfold st2
    rw [List.length_set, List.length_set, List.length_set]
  have H2 := Sh_MW h g (l.set wh (v / 256 % 256))
  unfold f_X12_sumAt_92
  rw [z_i352 H, qk_true, z_p920_352 H, qP_some', z_i363 H, qk_true, z_l363 H, inb_n (by omega) (by omega), qk_true, qv_eq, w1, z_p920_352 H2, qP_some', z_i363 H2, qk_true, z_l363 H2, nI_1, inb_n (by omega) (by omega), qk_true, qv_eq, w2]
theorem v_32 (h : Sh S) (hF : 16400 ≤ F) {p1 : Nat} (hp : p1 < 256) (h1 : xI S 370 1 = nI p1) {wh X : Nat} (hw : wh + 1 < l.length) (hl : l.length ≤ 3000) (hX : X < 2 ^ 27) : f_X12_sumAt_32 F F 352 (nI wh) (lN X) (MW S g l) = some ((), MW S g (st2 l wh (if p1 = 17 ∧ 20 < wh ∧ 65535 - fd (fd X) = 0 then 65535 else 65535 - fd (fd X)))) := by
  have H := Sh_MW h g l
  have a1 : aI (MW S g l) 370 1 = nI p1 := h1
  have z17 : nI p1 = 17 ↔ p1 = 17 := nI_eq (b := 17) (by omega) (by omega)
  have z20 : nI wh ≤ 20 ↔ wh ≤ 20 := nI_leI (b := 20) (by omega) (by omega)
  have last : ∀ fu Y, Y ≤ 65535 → f_X12_sumAt_32 F (fu + 1) 352 (nI wh) (lN Y) (MW S g l) = some ((), MW S g (st2 l wh (if p1 = 17 ∧ 20 < wh ∧ 65535 - Y = 0 then 65535 else 65535 - Y))) := by
    intro fu Y hY
    have es : (65535 : Int32) - nI Y = nI (65535 - Y) := pk_sub (a := 65535) hY
    have zv : nI (65535 - Y) = 0 ↔ 65535 - Y = 0 := nI_eq (b := 0) (by omega) (by omega)
    rw [f_X12_sumAt_32, if_pos (show lN Y ≤ 65535 from (l_le (b := 65535) (by omega) (by omega)).mpr hY), qv_eq, lN_i, es, z_i352 H, qk_true, z_p939_352 H, qP_some', z_i370 H, qk_true, z_l370 H, show inb 1 7 = true from rfl, qk_true, qv_eq, a1]
    by_cases c17 : p1 = 17
    · rw [if_pos (z17.mpr c17)]
      by_cases c20 : wh ≤ 20
      · rw [if_pos (z20.mpr c20), if_neg (show ¬ (p1 = 17 ∧ 20 < wh ∧ 65535 - Y = 0) by omega), v_92 h hw hl (by omega)]
      · rw [if_neg (fun e => c20 (z20.mp e))]
        by_cases v0 : 65535 - Y = 0
        · rw [if_pos (zv.mpr v0), if_pos (show p1 = 17 ∧ 20 < wh ∧ 65535 - Y = 0 by omega)]
          exact v_92 h hw hl (v := 65535) (by omega)
        · rw [if_neg (fun e => v0 (zv.mp e)), if_neg (show ¬ (p1 = 17 ∧ 20 < wh ∧ 65535 - Y = 0) by omega), v_92 h hw hl (by omega)]
    · rw [if_neg (fun e => c17 (z17.mp e)), if_neg (show ¬ (p1 = 17 ∧ 20 < wh ∧ 65535 - Y = 0) by omega), v_92 h hw hl (by omega)]
  have step : ∀ fu Y, 65535 < Y → Y < 2 ^ 27 → f_X12_sumAt_32 F (fu + 1) 352 (nI wh) (lN Y) (MW S g l) = f_X12_sumAt_32 F fu 352 (nI wh) (lN (fd Y)) (MW S g l) := by
    intro fu Y hY hY2
    rw [f_X12_sumAt_32, if_neg (show ¬ lN Y ≤ 65535 from fun e => by have := (l_le (b := 65535) (by omega) (by omega)).mp e; omega), qv_eq, l_and16 (by omega), l_shr16 (by omega), lN_add]
    rfl
  have f1 : fd X < 2 ^ 27 := by unfold fd; omega
  have f2 : fd (fd X) ≤ 65535 := fd2_le hX
  have key : ∀ fu, f_X12_sumAt_32 F (fu + 2 + 1) 352 (nI wh) (lN X) (MW S g l) = some ((), MW S g (st2 l wh (if p1 = 17 ∧ 20 < wh ∧ 65535 - fd (fd X) = 0 then 65535 else 65535 - fd (fd X)))) := by
    intro fu
    by_cases q : X ≤ 65535
    · have e : fd (fd X) = X := by rw [fd_id (x := X) (by omega), fd_id (by omega)]
      rw [last _ _ q, e]
    · rw [step _ _ (by omega) hX]
      by_cases q2 : fd X ≤ 65535
      · have e : fd (fd X) = fd X := fd_id (by omega)
        rw [last _ _ q2, e]
      · rw [step _ _ (by omega) f1, last _ _ f2]
  have e := key (F - 3)
  rw [show F - 3 + 2 + 1 = F by omega] at e
  exact e
theorem v_8 (h : Sh S) {wh to : Nat} (ht : to ≤ 2000) : ∀ d k fu A, k + 2 * d = to → d < fu → A + 65536 * d < 2 ^ 27 → f_X12_sumAt_8 F fu 352 (nI wh) (nI to) (lN A) (nI k) (MW S g l) = f_X12_sumAt_32 F F 352 (nI wh) (lN (A + rs (wr g l) to d k)) (MW S g l) := by
  intro d
  induction d with
  | zero =>
    intro k fu A h1 h3 h4
    obtain ⟨fu, rfl⟩ : ∃ q, fu = q + 1 := ⟨fu - 1, by omega⟩
    rw [f_X12_sumAt_8, if_pos (nI_le (by omega) (by omega))]
    rfl
  | succ d ih =>
    intro k fu A h1 h3 h4
    obtain ⟨fu, rfl⟩ : ∃ q, fu = q + 1 := ⟨fu - 1, by omega⟩
    have w := wd_lt (wr g l) k
    rw [f_X12_sumAt_8, if_neg (nI_ge (by omega) (by omega)), z_i352 (Sh_MW h g l), qk_true, v_out h (by omega), qc_some', qv_eq, nI_l (by omega), lN_add, show nI k + 2 = nI (k + 2) from nI_add k 2, ih (k + 2) fu _ (by omega) (by omega) (by omega)]
    rw [rs_succ (wr g l) to d k, if_neg (by omega), if_pos (by omega), ← Nat.add_assoc]
    rfl
theorem v_sum (h : Sh S) (hF : 16400 ≤ F) {p1 : Nat} (hp : p1 < 256) (h1 : xI S 370 1 = nI p1) {wh k to A : Nat} (hw : wh + 1 < l.length) (hl : l.length ≤ 3000) (ht : to ≤ 200) (hk : k ≤ to) (he : (to - k) % 2 = 0) (hA : A < 1000000) : f_X12_sumAt F (MW S g l) 352 (nI wh) (nI k) (nI to) (nI A) = some ((), MW S g (st2 l wh (if p1 = 17 ∧ 20 < wh ∧ 65535 - fd (fd (A + rsm (wr g l) to k)) = 0 then 65535 else 65535 - fd (fd (A + rsm (wr g l) to k))))) := by
  have er : rs (wr g l) to ((to - k) / 2) k = rsm (wr g l) to k := rs_ext _ _ _ _ _ (by omega) (by omega)
  have rl := rsm_le (wr g l) to k
  unfold f_X12_sumAt
  rw [nI_l (by omega), v_8 h (by omega) ((to - k) / 2) k F A (by omega) (by omega) (by omega), er, v_32 h hF hp h1 hw hl (by omega)]
end PACK3
