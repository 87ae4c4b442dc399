/-! longs -/
theorem l_toInt {n : Nat} (h : n < 2 ^ 63) : (lN n).toInt = (n : Int) := Int64.toInt_ofNat_of_lt h
theorem l_le {a b : Nat} (ha : a < 2 ^ 63) (hb : b < 2 ^ 63) : lN a ≤ lN b ↔ a ≤ b := by
  rw [Int64.le_iff_toInt_le, l_toInt ha, l_toInt hb]; omega
theorem l_lt {a b : Nat} (ha : a < 2 ^ 63) (hb : b < 2 ^ 63) : lN a < lN b ↔ a < b := by
  rw [Int64.lt_iff_toInt_lt, l_toInt ha, l_toInt hb]; omega
theorem l_eq {a b : Nat} (ha : a < 2 ^ 63) (hb : b < 2 ^ 63) : lN a = lN b ↔ a = b := by
  rw [← Int64.toInt_inj, l_toInt ha, l_toInt hb]; omega
/-- a number without its sign -/
def un (x : Int32) : Nat := x.toBitVec.toNat
theorem un_lt (x : Int32) : un x < 4294967296 := x.toBitVec.isLt
theorem nI_un (x : Int32) : nI (un x) = x := by
  apply Int32.toBitVec_inj.mp
  show BitVec.ofNat 32 x.toBitVec.toNat = x.toBitVec
  rw [BitVec.ofNat_toNat, BitVec.setWidth_eq]
theorem un_nI {n : Nat} (h : n < 4294967296) : un (nI n) = n := pk_tn h
theorem l_un (x : Int32) : x.toInt64 &&& 4294967295 = lN (un x) := by
  apply Int64.toBitVec_inj.mp
  apply BitVec.eq_of_getLsbD_eq
  intro i hi
  have e1 : (x.toInt64 &&& 4294967295).toBitVec = x.toBitVec.signExtend 64 &&& 4294967295#64 := rfl
  have e2 : (lN (un x)).toBitVec = BitVec.ofNat 64 x.toBitVec.toNat := rfl
  have e3 : (4294967295#64).getLsbD i = decide (i < 32) := by
    have : ∀ i, i < 64 → (4294967295#64).getLsbD i = decide (i < 32) := by decide
    exact this i hi
  rw [e1, e2, BitVec.getLsbD_and, e3, BitVec.getLsbD_signExtend, BitVec.getLsbD_ofNat]
  by_cases q : i < 32
  · simp only [hi, q, decide_true, Bool.and_true, Bool.true_and, if_true]
    rfl
  · simp only [hi, q, decide_true, decide_false, Bool.and_false, Bool.true_and]
    rw [Nat.testBit_lt_two_pow]
    exact Nat.lt_of_lt_of_le x.toBitVec.isLt (Nat.pow_le_pow_right (by omega) (by omega))
theorem ext_i (v : Int64) (n : Nat) (h : v = lN n) : v.toInt32 = nI n := by rw [h, lN_i]
/-! a packet's row -/
theorem wJ_rJ (S : gk_S) (b : Nat) (g : Nat → Int64) (i : Int32) (v : Int64) : wJ (rJ S b g) b i v = rJ S b (vp_updL g i.toNatClampNeg v) := by
  unfold wJ
  rw [rJ_rJ, xJ_rJ, if_pos rfl]
def fl6 (g : Nat → Int64) (p : Nat → Nat) : Nat → Int64 := vp_updL (vp_updL (vp_updL (vp_updL (vp_updL (vp_updL g 0 (lN (p 0))) 1 (lN (p 1))) 2 (lN (p 2))) 3 (lN (p 3))) 4 (lN (p 4))) 5 (lN (p 5))
theorem fl6_at (g : Nat → Int64) (p : Nat → Nat) : ∀ f, f < 6 → fl6 g p f = lN (p f) := by
  intro f hf
  have : f = 0 ∨ f = 1 ∨ f = 2 ∨ f = 3 ∨ f = 4 ∨ f = 5 := by omega
  rcases this with rfl | rfl | rfl | rfl | rfl | rfl <;> rfl
def pkt (a b c d e f g : Nat) : Nat → Nat := fun i => [a, b, c, d, e, f, g].getD i 0
theorem k_fill {S : gk_S} {F a : Nat} (h1 : isb S a 2 = true) (h2 : gP S 200 a = some (a + 1)) (h3 : isb S (a + 1) 12 = true) (h4 : gL S (a + 1) = 6) {w0 w1 w4 w5 : Nat} (c0 : w0 < 2 ^ 31) (c1 : w1 < 2 ^ 31) (c4 : w4 < 2 ^ 31) (c5 : w5 < 2 ^ 31) (x2 x3 : Int32) (g : Nat) : f_X3_fill F S a (nI w0) (nI w1) x2 x3 (nI w4) (nI w5) = some ((), rJ S (a + 1) (fl6 (xJ S (a + 1)) (pkt w0 w1 (un x2) (un x3) w4 w5 g))) := by
  have e0 : wJ S (a + 1) 0 (lN w0) = rJ S (a + 1) (vp_updL (xJ S (a + 1)) 0 (lN w0)) := rfl
  have t2 : gk_tops (2 : Int32).toNatClampNeg = 4294967295 := rfl
  have t3 : gk_tops (3 : Int32).toNatClampNeg = 4294967295 := rfl
  have i0 : inb 0 6 = true := rfl
  have i1 : inb 1 6 = true := rfl
  have i2 : inb 2 6 = true := rfl
  have i3 : inb 3 6 = true := rfl
  have i4 : inb 4 6 = true := rfl
  have i5 : inb 5 6 = true := rfl
  simp only [f_X3_fill, qk_true, qk_false, qv_eq, qP_some', qP_none, qc_some', qc_none, qx_inl', qx_inr', qh_inl', qh_inr', h1, h2, h3, h4, i0, i1, i2, i3, i4, i5, nI_l c0, nI_l c1, nI_l c4, nI_l c5, e0, isb_rJ, gP_rJ, gL_rJ, wJ_rJ, t2, t3, l_un]
  rfl
/-! what a rule matches -/
def mfr (ρ : AR) (p : Nat → Nat) : Nat → Nat → Bool
  | 0, _ => true
  | d + 1, f => decide (ρ.lo f ≤ p f) && decide (p f ≤ ρ.hi f) && mfr ρ p d (f + 1)
def mtb (ρ : AR) (p : Nat → Nat) (s : Nat) : Bool := mfr ρ p 6 0 && Nat.testBit ρ.s s
/-- the first of d from k on -/
def fi (P : Nat → Bool) : Nat → Nat → Nat
  | 0, k => k
  | d + 1, k => if P k = true then k else fi P d (k + 1)
def ix (r n : Nat) : Int32 := if r < n then nI r else -1
def fst (L : AL) (p : Nat → Nat) (s : Nat) : Nat := fi (fun i => mtb (L.r i) p s) L.n 0
theorem fi_le (P : Nat → Bool) : ∀ d k, k ≤ fi P d k ∧ fi P d k ≤ k + d := by
  intro d
  induction d with
  | zero => intro k; exact ⟨Nat.le_refl _, Nat.le_refl _⟩
  | succ d ih =>
    intro k
    unfold fi
    by_cases q : P k = true
    · rw [if_pos q]; omega
    · rw [if_neg q]; have := ih (k + 1); omega
theorem st_bit : ∀ st, st < 16 → ∀ s, s < 4 → (nI st >>> (nI s &&& 31)) &&& 1 = if Nat.testBit st s = true then 1 else 0 := by decide +kernel
theorem bit_eq {st s : Nat} (h1 : st < 16) (h2 : s < 4) : ((nI st >>> (nI s &&& 31)) &&& 1 = 0 ↔ Nat.testBit st s = false) ∧ ((nI st >>> (nI s &&& 31)) &&& 1 = 1 ↔ Nat.testBit st s = true) := by
  rw [st_bit st h1 s h2]
  cases Nat.testBit st s <;> exact ⟨by decide, by decide⟩
def bI (b : Bool) : Int32 := if b = true then 1 else 0
theorem tp_lt (f : Nat) : tp f < 2 ^ 32 := by
  unfold tp
  match f with
  | 0 => decide
  | 1 => decide
  | 2 => decide
  | 3 => decide
  | 4 => decide
  | 5 => decide
  | 6 => decide
  | n + 7 => exact Nat.lt_of_le_of_lt (Nat.le_refl 0) (by decide)
section TAKES
variable {S : gk_S} {F : Nat} (h : Sh S) {r i : Nat} (hr : Ba r) (hi : i < 16) {ρ : AR} (c : CR S (ru r i) ρ) (w : WR ρ) {a : Nat} (h1 : isb S a 2 = true) (h2 : gP S 200 a = some (a + 1)) (h3 : isb S (a + 1) 12 = true) (h4 : gL S (a + 1) = 6) {p : Nat → Nat} (hp : ∀ f, f < 6 → xJ S (a + 1) f = lN (p f) ∧ p f < 2 ^ 62) {s : Nat} (hs : s < 4)
theorem k_has (h : Sh S) (hr : Ba r) (hi : i < 16) (c : CR S (ru r i) ρ) (w : WR ρ) (hs : s < 4) : f_X5_hasState F S (ru r i) (nI s) = some (bI (Nat.testBit ρ.s s), S) := by
  have e := bit_eq w.2.1 hs
  simp only [f_X5_hasState, qk_true, qk_false, qv_eq, qP_some', qP_none, qc_some', qc_none, qx_inl', qx_inr', qh_inl', qh_inr', z_u h hr hi, c.2.1]
  unfold bI
  cases q : Nat.testBit ρ.s s
  · rw [if_pos (e.1.mpr q), if_neg (by decide)]
  · rw [if_neg (fun e9 => by have := e.1.mp e9; rw [q] at this; cases this), if_pos rfl]
theorem zb_bI (b : Bool) : zb (bI b) = true := by cases b <;> rfl
theorem k_takes2 (h : Sh S) (hr : Ba r) (hi : i < 16) (c : CR S (ru r i) ρ) (w : WR ρ) (h1 : isb S a 2 = true) (h2 : gP S 200 a = some (a + 1)) (h3 : isb S (a + 1) 12 = true) (h4 : gL S (a + 1) = 6) (hp : ∀ f, f < 6 → xJ S (a + 1) f = lN (p f) ∧ p f < 2 ^ 62) (hs : s < 4) : ∀ d f fu, f + d = 6 → d < fu → f_X5_takes_2 F fu (ru r i) a (nI s) (nI f) S = some (bI (mfr ρ p d f && Nat.testBit ρ.s s), S) := by
  intro d
  induction d with
  | zero =>
    intro f fu hf hfu
    obtain ⟨fu, rfl⟩ : ∃ q, fu = q + 1 := ⟨fu - 1, by omega⟩
    rw [f_X5_takes_2, if_pos (show (6 : Int32) ≤ nI f from nI_le (a := 6) (by omega) (by omega))]
    simp only [qk_true, qk_false, qv_eq, qP_some', qP_none, qc_some', qc_none, qx_inl', qx_inr', qh_inl', qh_inr', z_u h hr hi, k_has h hr hi c w hs, zb_bI, mfr, Bool.true_and]
  | succ d ih =>
    intro f fu hf hfu
    obtain ⟨fu, rfl⟩ : ∃ q, fu = q + 1 := ⟨fu - 1, by omega⟩
    have e1 := hp f (by omega)
    have e2 := c.2.2 f (by omega)
    have w2 := w.2.2 f (by omega)
    have t := tp_lt f
    have u3 := z_ul h hr hi
    rw [f_X5_takes_2, if_neg (show ¬ (6 : Int32) ≤ nI f from nI_ge (b := 6) (by omega) (by omega))]
    simp only [qk_true, qk_false, qv_eq, qP_some', qP_none, qc_some', qc_none, qx_inl', qx_inr', qh_inl', qh_inr', h1, h2, h3, h4, inb_n (by omega : f < 6) (by omega : 6 < 2 ^ 31), z_u h hr hi, z_up h hr hi, z_uq h hr hi, u3, aJ, nI_clamp (by omega : f < 2 ^ 31), e1.1, e2.1, e2.2, l_lt (by omega : p f < 2 ^ 63) (by omega : ρ.lo f < 2 ^ 63), l_le (by omega : p f < 2 ^ 63) (by omega : ρ.hi f < 2 ^ 63), nI_1, ih (f + 1) fu (by omega) (by omega), mfr]
    by_cases q1 : p f < ρ.lo f
    · rw [if_pos q1, decide_eq_false (by omega : ¬ ρ.lo f ≤ p f)]
      rfl
    · rw [if_neg q1, decide_eq_true (by omega : ρ.lo f ≤ p f)]
      by_cases q2 : p f ≤ ρ.hi f
      · rw [if_pos q2, decide_eq_true q2]
        rfl
      · rw [if_neg q2, decide_eq_false q2]
        rfl
theorem k_takes (h : Sh S) (hF : 16400 ≤ F) (hr : Ba r) (hi : i < 16) (c : CR S (ru r i) ρ) (w : WR ρ) (h1 : isb S a 2 = true) (h2 : gP S 200 a = some (a + 1)) (h3 : isb S (a + 1) 12 = true) (h4 : gL S (a + 1) = 6) (hp : ∀ f, f < 6 → xJ S (a + 1) f = lN (p f) ∧ p f < 2 ^ 62) (hs : s < 4) : f_X5_takes F S (ru r i) a (nI s) = some (bI (mtb ρ p s), S) := k_takes2 h hr hi c w h1 h2 h3 h4 hp hs 6 0 F rfl (by omega)
theorem k_first2 (h : Sh S) (hF : 16400 ≤ F) (hr : Ba r) {L : AL} (cl : CL S r L) (wl : WL L) (h1 : isb S a 2 = true) (h2 : gP S 200 a = some (a + 1)) (h3 : isb S (a + 1) 12 = true) (h4 : gL S (a + 1) = 6) (hp : ∀ f, f < 6 → xJ S (a + 1) f = lN (p f) ∧ p f < 2 ^ 62) (hs : s < 4) : ∀ d k fu, k + d = L.n → d < fu → f_X6_firstFor_2 F fu r a (nI s) (nI k) S = some (ix (fi (fun i => mtb (L.r i) p s) d k) L.n, S) := by
  have n16 := wl.1
  intro d
  induction d with
  | zero =>
    intro k fu hf hfu
    obtain ⟨fu, rfl⟩ : ∃ q, fu = q + 1 := ⟨fu - 1, by omega⟩
    rw [f_X6_firstFor_2]
    simp only [qk_true, qk_false, qv_eq, qP_some', qP_none, qc_some', qc_none, qx_inl', qx_inr', qh_inl', qh_inr', z_r h hr, cl.1, show nI L.n ≤ nI k from nI_le (by omega) (by omega), if_true, fi, ix, show ¬ k < L.n by omega, if_false]
  | succ d ih =>
    intro k fu hf hfu
    obtain ⟨fu, rfl⟩ : ∃ q, fu = q + 1 := ⟨fu - 1, by omega⟩
    rw [f_X6_firstFor_2]
    simp only [qk_true, qk_false, qv_eq, qP_some', qP_none, qc_some', qc_none, qx_inl', qx_inr', qh_inl', qh_inr', z_r h hr, cl.1, show ¬ nI L.n ≤ nI k from nI_ge (by omega) (by omega), if_false, show ¬ (16 : Int32) ≤ nI k from nI_ge (b := 16) (by omega) (by omega), z_rp h hr, z_rr h hr, z_rl h hr, inb_n (by omega : k < 16) (by omega : 16 < 2 ^ 31), aP, nI_clamp (by omega : k < 2 ^ 31), z_rx h hr (by omega : k < 16), z_u h hr (by omega : k < 16), k_takes h hF hr (by omega : k < 16) (cl.2.2 k (by omega)) (wl.2.2 k (by omega)) h1 h2 h3 h4 hp hs, nI_1, ih (k + 1) fu (by omega) (by omega), fi, bI]
    by_cases q : mtb (L.r k) p s = true
    · simp only [q, if_true, one_ne, if_false, ix, show k < L.n by omega]
    · simp only [q, if_true, if_false]
      rfl
theorem k_first (h : Sh S) (hF : 16400 ≤ F) (hr : Ba r) {L : AL} (cl : CL S r L) (wl : WL L) (h1 : isb S a 2 = true) (h2 : gP S 200 a = some (a + 1)) (h3 : isb S (a + 1) 12 = true) (h4 : gL S (a + 1) = 6) (hp : ∀ f, f < 6 → xJ S (a + 1) f = lN (p f) ∧ p f < 2 ^ 62) (hs : s < 4) : f_X6_firstFor F S r a (nI s) = some (ix (fst L p s) L.n, S) := k_first2 h hF hr cl wl h1 h2 h3 h4 hp hs L.n 0 F (by omega) (by have := wl.1; omega)
/-! the model's -/
theorem m_first45 (h : Sh S) {k2 : Nat → Int32 → Int32 → Int32 → gk_S → Option (Int32 × gk_S)} {k i : Nat} (hk : k < 6) (hi : i < 16) (mr : MR S (16 * k + i) ρ) (w : WR ρ) (hp : ∀ f, f < 6 → xJ S 364 f = lN (p f) ∧ p f < 2 ^ 62) (x y : Int32) : ∀ d f fu, f + d = 6 → d < fu → (f_X12_first_45 F k2 fu 352 x y (nI i) (nI (16 * k + i)) 1 (nI f) S = if mfr ρ p d f = true then some (nI i, S) else k2 352 x y (nI i + 1) S) ∧ f_X12_first_45 F k2 fu 352 x y (nI i) (nI (16 * k + i)) 0 (nI f) S = k2 352 x y (nI i + 1) S := by
  intro d
  induction d with
  | zero =>
    intro f fu hf hfu
    obtain ⟨fu, rfl⟩ : ∃ q, fu = q + 1 := ⟨fu - 1, by omega⟩
    constructor
    · rw [f_X12_first_45, if_pos (show (6 : Int32) ≤ nI f from nI_le (a := 6) (by omega) (by omega)), if_neg one_ne, mfr, if_pos rfl]
    · rw [f_X12_first_45, if_pos (show (6 : Int32) ≤ nI f from nI_le (a := 6) (by omega) (by omega)), if_pos rfl]
  | succ d ih =>
    intro f fu hf hfu
    obtain ⟨fu, rfl⟩ : ∃ q, fu = q + 1 := ⟨fu - 1, by omega⟩
    have e1 := hp f (by omega)
    have e2 := mr.2.2 f (by omega)
    have w2 := w.2.2 f (by omega)
    have t := tp_lt f
    have a2 : 6 * nI (16 * k + i) + nI f = nI (6 * (16 * k + i) + f) := by rw [show (6 : Int32) = nI 6 from rfl, pk_mul, nI_add]
    have ih1 := ih (f + 1) fu (by omega) (by omega)
    constructor
    · rw [f_X12_first_45, if_neg (show ¬ (6 : Int32) ≤ nI f from nI_ge (b := 6) (by omega) (by omega)), if_neg one_ne]
      simp only [qk_true, qk_false, qv_eq, qP_some', qP_none, qc_some', qc_none, qx_inl', qx_inr', qh_inl', qh_inr', z_i352 h, z_p909_352 h, z_p910_352 h, z_p922_352 h, z_i358 h, z_l358 h, z_i359 h, z_l359 h, z_i364 h, z_l364 h, a2, inb_n (by omega : 6 * (16 * k + i) + f < 576) (by omega), inb_n (by omega : f < 7) (by omega : 7 < 2 ^ 31), aJ, nI_clamp (by omega : f < 2 ^ 31), nI_clamp (by omega : 6 * (16 * k + i) + f < 2 ^ 31), e1.1, e2.1, e2.2, l_lt (by omega : p f < 2 ^ 63) (by omega : ρ.lo f < 2 ^ 63), l_lt (by omega : ρ.hi f < 2 ^ 63) (by omega : p f < 2 ^ 63), nI_1, ih1.1, ih1.2, mfr]
      by_cases q1 : p f < ρ.lo f
      · rw [if_pos q1, decide_eq_false (by omega : ¬ ρ.lo f ≤ p f)]
        rfl
      · rw [if_neg q1, decide_eq_true (by omega : ρ.lo f ≤ p f)]
        by_cases q2 : p f ≤ ρ.hi f
        · rw [if_neg (by omega), decide_eq_true q2]
          rfl
        · rw [if_pos (by omega), decide_eq_false q2]
          rfl
    · rw [f_X12_first_45, if_neg (show ¬ (6 : Int32) ≤ nI f from nI_ge (b := 6) (by omega) (by omega)), if_pos rfl, if_pos rfl]
theorem m_first2 (h : Sh S) (hF : 16400 ≤ F) {k : Nat} (hk : k < 6) {L : AL} (ml : ML S k L) (wl : WL L) (hp : ∀ f, f < 6 → xJ S 364 f = lN (p f) ∧ p f < 2 ^ 62) (hs : s < 4) : ∀ d j fu, j + d = L.n → d < fu → f_X12_first_2 F fu 352 (nI k) (nI s) (nI j) S = some (ix (fi (fun i => mtb (L.r i) p s) d j) L.n, S) := by
  have n16 := wl.1
  intro d
  induction d with
  | zero =>
    intro j fu hf hfu
    obtain ⟨fu, rfl⟩ : ∃ q, fu = q + 1 := ⟨fu - 1, by omega⟩
    rw [f_X12_first_2]
    simp only [qk_true, qk_false, qv_eq, qP_some', qP_none, qc_some', qc_none, qx_inl', qx_inr', qh_inl', qh_inr', z_i352 h, z_p906_352 h, z_i355 h, z_l355 h, inb_n hk (by omega : 6 < 2 ^ 31), aI, nI_clamp (by omega : k < 2 ^ 31), ml.1, show nI L.n ≤ nI j from nI_le (by omega) (by omega), if_true, fi, ix, show ¬ j < L.n by omega, if_false]
  | succ d ih =>
    intro j fu hf hfu
    obtain ⟨fu, rfl⟩ : ∃ q, fu = q + 1 := ⟨fu - 1, by omega⟩
    have mr := ml.2.2 j (by omega)
    have wr := wl.2.2 j (by omega)
    have a1 : (16 * nI k) + nI j = nI (16 * k + j) := by rw [show (16 : Int32) = nI 16 from rfl, pk_mul, nI_add]
    have e := (bit_eq wr.2.1 hs).2
    have g := m_first45 (F := F) (k2 := f_X12_first_2 F fu) h hk (by omega : j < 16) mr wr hp (nI k) (nI s) 6 0 F rfl (by omega)
    rw [show nI 0 = 0 from rfl] at g
    rw [f_X12_first_2]
    simp only [qk_true, qk_false, qv_eq, qP_some', qP_none, qc_some', qc_none, qx_inl', qx_inr', qh_inl', qh_inr', z_i352 h, z_p906_352 h, z_p908_352 h, z_i355 h, z_l355 h, z_i357 h, z_l357 h, inb_n hk (by omega : 6 < 2 ^ 31), aI, nI_clamp (by omega : k < 2 ^ 31), ml.1, show ¬ nI L.n ≤ nI j from nI_ge (by omega) (by omega), if_false, a1, inb_n (by omega : 16 * k + j < 96) (by omega), nI_clamp (by omega : 16 * k + j < 2 ^ 31), mr.2.1, e, g.1, g.2, fi, mtb, nI_1, ih (j + 1) fu (by omega) (by omega)]
    by_cases q1 : Nat.testBit (L.r j).s s = true
    · simp only [q1, if_true, Bool.and_true]
      by_cases q2 : mfr (L.r j) p 6 0 = true
      · simp only [q2, if_true, ix, show j < L.n by omega]
      · simp only [q2, if_false]
        rfl
    · simp only [q1, if_false, Bool.and_false]
      rfl
theorem m_first (h : Sh S) (hF : 16400 ≤ F) {k : Nat} (hk : k < 6) {L : AL} (ml : ML S k L) (wl : WL L) (hp : ∀ f, f < 6 → xJ S 364 f = lN (p f) ∧ p f < 2 ^ 62) (hs : s < 4) : f_X12_first F S 352 (nI k) (nI s) = some (ix (fst L p s) L.n, S) := m_first2 h hF hk ml wl hp hs L.n 0 F (by omega) (by have := wl.1; omega)
end TAKES
theorem m_point {S : gk_S} (h : Sh S) {F : Nat} {w0 w1 w4 w5 : Nat} (c0 : w0 < 2 ^ 31) (c1 : w1 < 2 ^ 31) (c4 : w4 < 2 ^ 31) (c5 : w5 < 2 ^ 31) (x2 x3 : Int32) (g : Nat) : f_X12_point F S 352 (nI w0) (nI w1) x2 x3 (nI w4) (nI w5) = some ((), rJ S 364 (fl6 (xJ S 364) (pkt w0 w1 (un x2) (un x3) w4 w5 g))) := by
  have e0 : wJ S 364 0 (lN w0) = rJ S 364 (vp_updL (xJ S 364) 0 (lN w0)) := rfl
  have i0 : inb 0 7 = true := rfl
  have i1 : inb 1 7 = true := rfl
  have i2 : inb 2 7 = true := rfl
  have i3 : inb 3 7 = true := rfl
  have i4 : inb 4 7 = true := rfl
  have i5 : inb 5 7 = true := rfl
  simp only [f_X12_point, qk_true, qk_false, qv_eq, qP_some', qP_none, qc_some', qc_none, qx_inl', qx_inr', qh_inl', qh_inr', z_i352 h, z_p922_352 h, z_i364 h, z_l364 h, i0, i1, i2, i3, i4, i5, nI_l c0, nI_l c1, nI_l c4, nI_l c5, e0, isb_rJ, gP_rJ, gL_rJ, wJ_rJ, l_un]
  rfl
