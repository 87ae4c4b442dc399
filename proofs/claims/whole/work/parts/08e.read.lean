/-! a packet out of bytes -/
def TG (S : gk_S) (g : Nat → Int32) (m : Nat) : Prop := Sh S ∧ gI S 101 1 = nI m ∧ xI S 2 = g ∧ m ≤ 2100
theorem TG_CO {S : gk_S} {g : Nat → Int32} {m : Nat} (h : TG S g m) : CO S 1 g m := by
  have := CO_of (tapeH h.1) h.2.2.2 (by omega) h.2.1
  rw [h.2.2.1] at this
  exact this
theorem TG_rJ {S : gk_S} {g : Nat → Int32} {m : Nat} (h : TG S g m) (a : Nat) (v : Nat → Int64) : TG (rJ S a v) g m := ⟨Sh_rJ h.1 a v, h.2.1, h.2.2.1, h.2.2.2⟩
theorem TG_sI {S : gk_S} {g : Nat → Int32} {m : Nat} (h : TG S g m) {f : Nat} (hf : f ≠ 101) (a : Nat) (v : Int32) : TG (sI S f a v) g m := ⟨Sh_sI h.1 f a v, (rd_ne _ _ (Or.inl (fun e => hf e.symm))).trans h.2.1, h.2.2.1, h.2.2.2⟩
def pgt (g : Nat → Int32) (q : Nat) : Nat := q + hdr g q
def pgs (g : Nat → Int32) (q : Nat) : Nat := if hsb (bt g (q + 9)) = true then wd g (pgt g q) else 0
def pgd (g : Nat → Int32) (q : Nat) : Nat := if bt g (q + 9) = 6 ∨ bt g (q + 9) = 17 then wd g (pgt g q + 2) else if bt g (q + 9) = 1 ∧ (bt g (pgt g q) = 0 ∨ bt g (pgt g q) = 8) then wd g (pgt g q + 4) else 0
def pga (g : Nat → Int32) (q : Nat) : Nat := 65536 * wd g q + wd g (q + 2)
def pg (g : Nat → Int32) (q : Nat) : Nat → Nat := fun f => [0, bt g (q + 9), pga g (q + 12), pga g (q + 16), pgs g q, pgd g q].getD f 0
section RDP
variable {S : gk_S} {F m a : Nat} {g : Nat → Int32}
theorem k_quad (h : CO S 1 g m) {k : Nat} (hk : k + 3 < m) : f_X2_quad F S 1 (nI k) = some (lN (pga g k), S) := by
  have w1 := wd_lt g k
  have w2 := wd_lt g (k + 2)
  unfold f_X2_quad
  rw [h.2.2.1, qk_true, k_pair h (by omega), qc_some', h.2.2.1, qk_true, show nI k + 2 = nI (k + 2) from nI_add k 2, k_pair h (by omega), qc_some', nI_l (by omega), nI_l (by omega), show (65536 : Int64) = lN 65536 from rfl, lN_mul, lN_add]
  unfold pga
  rw [Nat.mul_comm]
theorem wJ_sI (S : gk_S) (f b c : Nat) (x : Int32) (i : Int32) (v : Int64) : wJ (sI S f b x) c i v = sI (wJ S c i v) f b x := rfl
/-- a packet's cells -/
def PC (S : gk_S) (a : Nat) : Prop := isb S a 2 = true ∧ gP S 200 a = some (a + 1) ∧ isb S (a + 1) 12 = true ∧ gL S (a + 1) = 6
theorem PC_rJ {b : Nat} {v : Nat → Int64} (h : PC S a) : PC (rJ S b v) a := h
theorem PC_sI {f b : Nat} {v : Int32} (h : PC S a) : PC (sI S f b v) a := h
theorem k_rp112 (h : TG S g m) (pc : PC S a) {T : Nat} (hT : T + 3 < m) (r : Nat → Int64) : f_X10_readPacket_112 F 1 a (nI T) (sI (rJ S (a + 1) r) 201 a 0) = some ((), sI (rJ S (a + 1) (vp_updL r 5 (lN (wd g (T + 2))))) 201 a 0) := by
  have c := TG_CO (TG_sI (TG_rJ h (a + 1) r) (f := 201) (by decide) a 0)
  have p := PC_sI (f := 201) (b := a) (v := 0) (PC_rJ (b := a + 1) (v := r) pc)
  have w := wd_lt g (T + 2)
  unfold f_X10_readPacket_112
  rw [p.1, qk_true, p.2.1, qP_some', c.2.2.1, qk_true, show nI T + 2 = nI (T + 2) from nI_add T 2, k_pair c (by omega), qc_some', p.2.2.1, qk_true, p.2.2.2, show inb 5 6 = true from rfl, qk_true, qv_eq, wJ_sI, wJ_rJ, nI_l (by omega)]
  rfl
theorem k_rp87 (h : TG S g m) (pc : PC S a) {T P : Nat} (hP : P < 256) (hT : hsb P = true → T + 8 ≤ m) (r : Nat → Int64) (v4 : Nat) (h4 : v4 = if hsb P = true then wd g T else 0) : ∃ r', f_X10_readPacket_87 F 1 a (nI P) (nI T) (lN v4) 4 (a + 1) (rJ S (a + 1) r) = some ((), sI (rJ S (a + 1) r') 201 a 0) ∧ (∀ f, f < 4 → r' f = r f) ∧ r' 4 = lN v4 ∧ r' 5 = lN (if P = 6 ∨ P = 17 then wd g (T + 2) else if P = 1 ∧ (bt g T = 0 ∨ bt g T = 8) then wd g (T + 4) else 0) := by
  have p1 := PC_rJ (b := a + 1) (v := r) pc
  have p2 := PC_rJ (b := a + 1) (v := vp_updL r 4 (lN v4)) pc
  have i5 : inb 5 6 = true := rfl
  have i4 : inb 4 6 = true := rfl
  have e4 : (4 : Int32).toNatClampNeg = 4 := rfl
  have e5 : (5 : Int32).toNatClampNeg = 5 := rfl
  have rr : ∀ x : Int64, (∀ f, f < 4 → vp_updL (vp_updL r 4 (lN v4)) 5 x f = r f) ∧ vp_updL (vp_updL r 4 (lN v4)) 5 x 4 = lN v4 ∧ vp_updL (vp_updL r 4 (lN v4)) 5 x 5 = x := by
    intro x
    refine ⟨fun f hf => ?_, rfl, rfl⟩
    unfold vp_updL
    rw [if_neg (by omega), if_neg (by omega)]
  have rr2 : ∀ x y : Int64, vp_updL (vp_updL (vp_updL r 4 (lN v4)) 5 x) 5 y = vp_updL (vp_updL r 4 (lN v4)) 5 y := by
    intro x y
    funext f
    unfold vp_updL
    by_cases q : f = 5
    · rw [if_pos q, if_pos q]
    · rw [if_neg q, if_neg q, if_neg q]
  have z6 : nI P = 6 ↔ P = 6 := nI_eq (b := 6) (by omega) (by omega)
  have z17 : nI P = 17 ↔ P = 17 := nI_eq (b := 17) (by omega) (by omega)
  have z1 : nI P = 1 ↔ P = 1 := nI_eq (b := 1) (by omega) (by omega)
  unfold f_X10_readPacket_87
  rw [p1.2.2.1, qk_true, p1.2.2.2, i4, qk_true, qv_eq, wJ_rJ, e4, p2.1, qk_true, p2.2.1, qP_some', p2.2.2.1, qk_true, p2.2.2.2, i5, qk_true, qv_eq, wJ_rJ, e5, qv_eq]
  have hm := h.2.2.2
  by_cases c6 : P = 6
  · have T8 := hT (by unfold hsb; exact decide_eq_true (Or.inl c6))
    rw [if_pos (z6.mpr c6), k_rp112 h pc (by omega), rr2]
    refine ⟨_, rfl, (rr _).1, (rr _).2.1, ?_⟩
    rw [if_pos (Or.inl c6)]
    exact (rr _).2.2
  rw [if_neg (fun e => c6 (z6.mp e))]
  by_cases c17 : P = 17
  · have T8 := hT (by unfold hsb; exact decide_eq_true (Or.inr (Or.inl c17)))
    rw [if_pos (z17.mpr c17), k_rp112 h pc (by omega), rr2]
    refine ⟨_, rfl, (rr _).1, (rr _).2.1, ?_⟩
    rw [if_pos (Or.inr c17)]
    exact (rr _).2.2
  rw [if_neg (fun e => c17 (z17.mp e)), if_neg (show ¬ (P = 6 ∨ P = 17) by omega)]
  by_cases c1 : P = 1
  · have hb : hsb P = true := by unfold hsb; exact decide_eq_true (Or.inr (Or.inr c1))
    have T8 := hT hb
    rw [if_pos hb] at h4
    have bT := bt_lt g T
    have bT1 := bt_lt g (T + 1)
    have wT := wd_lt g T
    have e8 : wd g T / 256 = bt g T := by unfold wd; omega
    have p3 := PC_sI (f := 201) (b := a) (v := 0) (PC_rJ (b := a + 1) (v := vp_updL (vp_updL r 4 (lN v4)) 5 0) pc)
    have ic : f_X3_icmpType F (sI (rJ S (a + 1) (vp_updL (vp_updL r 4 (lN v4)) 5 0)) 201 a 0) a = some (nI (bt g T), sI (rJ S (a + 1) (vp_updL (vp_updL r 4 (lN v4)) 5 0)) 201 a 0) := by
      have e9 : aJ (sI (rJ S (a + 1) (vp_updL (vp_updL r 4 (lN v4)) 5 0)) 201 a 0) (a + 1) 4 = lN v4 := by
        show xJ (rJ S (a + 1) (vp_updL (vp_updL r 4 (lN v4)) 5 0)) (a + 1) 4 = _
        rw [xJ_rJ, if_pos rfl]
        exact (rr 0).2.1
      unfold f_X3_icmpType
      rw [p3.1, qk_true, p3.2.1, qP_some', p3.2.2.1, qk_true, p3.2.2.2, show inb 4 6 = true from rfl, qk_true, qv_eq, e9, l_shr8 (by omega), lN_i, h4, e8]
    have ze : nI (bt g T) = 0 ↔ bt g T = 0 := nI_eq (b := 0) (by omega) (by omega)
    have ze8 : nI (bt g T) = 8 ↔ bt g T = 8 := nI_eq (b := 8) (by omega) (by omega)
    have ec : f_X3_isEcho F (sI (rJ S (a + 1) (vp_updL (vp_updL r 4 (lN v4)) 5 0)) 201 a 0) a = some (bI (decide (bt g T = 0 ∨ bt g T = 8)), sI (rJ S (a + 1) (vp_updL (vp_updL r 4 (lN v4)) 5 0)) 201 a 0) := by
      unfold f_X3_isEcho
      rw [p3.1, qk_true, ic, qc_some']
      by_cases q0 : bt g T = 0
      · rw [if_pos (ze.mpr q0), decide_eq_true (Or.inl q0)]; rfl
      · rw [if_neg (fun e => q0 (ze.mp e)), p3.1, qk_true, ic, qc_some']
        by_cases q8 : bt g T = 8
        · rw [if_pos (ze8.mpr q8), decide_eq_true (Or.inr q8)]; rfl
        · rw [if_neg (fun e => q8 (ze8.mp e)), decide_eq_false (by omega)]; rfl
    rw [if_pos (z1.mpr c1), ec, qc_some']
    by_cases q : bt g T = 0 ∨ bt g T = 8
    · have c := TG_CO (TG_sI (TG_rJ h (a + 1) (vp_updL (vp_updL r 4 (lN v4)) 5 0)) (f := 201) (by decide) a 0)
      have w4 := wd_lt g (T + 4)
      rw [decide_eq_true q, if_neg (show ¬ bI true = 0 by decide), p3.1, qk_true, p3.2.1, qP_some', c.2.2.1, qk_true, show nI T + 4 = nI (T + 4) from nI_add T 4, k_pair c (by omega), qc_some', p3.2.2.1, qk_true, p3.2.2.2, i5, qk_true, qv_eq, wJ_sI, wJ_rJ, e5, rr2, nI_l (by omega)]
      refine ⟨_, rfl, (rr _).1, (rr _).2.1, ?_⟩
      rw [if_pos ⟨c1, q⟩]
      exact (rr _).2.2
    · rw [decide_eq_false q, if_pos (show bI false = 0 from rfl)]
      refine ⟨_, rfl, (rr _).1, (rr _).2.1, ?_⟩
      rw [if_neg (fun e => q e.2)]
      exact (rr _).2.2
  · rw [if_neg (fun e => c1 (z1.mp e))]
    refine ⟨_, rfl, (rr _).1, (rr _).2.1, ?_⟩
    rw [if_neg (fun e => c1 e.1)]
    exact (rr _).2.2
theorem k_readp (h : TG S g m) (pc : PC S a) {q : Nat} (hq : q + 20 ≤ m) (hT : hsb (bt g (q + 9)) = true → pgt g q + 8 ≤ m) : ∃ r, f_X10_readPacket F S 1 (nI q) a = some ((), sI (rJ S (a + 1) r) 201 a 0) ∧ ∀ f, f < 6 → r f = lN (pg g q f) := by
  have c0 := TG_CO h
  have b9 := bt_lt g (q + 9)
  have hm := h.2.2.2
  have hl := hdr_lt g q
  have e0 : wJ S (a + 1) 0 0 = rJ S (a + 1) (vp_updL (xJ S (a + 1)) 0 0) := rfl
  have cc := fun r => TG_CO (TG_rJ h (a + 1) r)
  have pp := fun r => PC_rJ (b := a + 1) (v := r) pc
  have i0 : inb 0 6 = true := rfl
  have i1 : inb 1 6 = true := rfl
  have i2 : inb 2 6 = true := rfl
  have i3 : inb 3 6 = true := rfl
  have e1 : (1 : Int32).toNatClampNeg = 1 := rfl
  have e2 : (2 : Int32).toNatClampNeg = 2 := rfl
  have e3 : (3 : Int32).toNatClampNeg = 3 := rfl
  unfold f_X10_readPacket
  rw [c0.2.2.1, qk_true, show nI q + 9 = nI (q + 9) from nI_add q 9, c0.1 F (q + 9) (by omega), qc_some', c0.2.2.1, qk_true, c0.1 F q (by omega), qc_some', k_hdr0 g q, qc_some', pc.1, qk_true, pc.2.1, qP_some', pc.2.2.1, qk_true, pc.2.2.2, i0, qk_true, qv_eq, e0]
  rw [(pp _).2.1, qP_some', (pp _).2.2.1, qk_true, (pp _).2.2.2, i1, qk_true, qv_eq, wJ_rJ, e1, nI_l (by omega)]
  rw [(pp _).2.1, qP_some', (cc _).2.2.1, qk_true, show nI q + 12 = nI (q + 12) from nI_add q 12, k_quad (cc _) (by omega), qc_some', (pp _).2.2.1, qk_true, (pp _).2.2.2, i2, qk_true, qv_eq, wJ_rJ, e2]
  rw [(pp _).1, qk_true, (pp _).2.1, qP_some', (cc _).2.2.1, qk_true, show nI q + 16 = nI (q + 16) from nI_add q 16, k_quad (cc _) (by omega), qc_some', (pp _).2.2.1, qk_true, (pp _).2.2.2, i3, qk_true, qv_eq, wJ_rJ, e3]
  rw [(pp _).1, qk_true, (pp _).2.1, qP_some', k_hsb b9, qc_some']
  have et : nI q + nI (hdr g q) = nI (pgt g q) := nI_add _ _
  rw [et]
  obtain ⟨r', k1, k2, k3, k4⟩ := k_rp87 (F := F) h pc b9 hT (vp_updL (vp_updL (vp_updL (vp_updL (xJ S (a + 1)) 0 0) 1 (lN (bt g (q + 9)))) 2 (lN (pga g (q + 12)))) 3 (lN (pga g (q + 16)))) (pgs g q) rfl
  refine ⟨r', ?_, fun f hf => ?_⟩
  · by_cases hb : hsb (bt g (q + 9)) = true
    · have T8 := hT hb
      have w := wd_lt g (pgt g q)
      have ev : pgs g q = wd g (pgt g q) := by unfold pgs; rw [if_pos hb]
      rw [ev] at k1
      rw [hb, if_neg (show ¬ bI true = 0 by decide), (cc _).2.2.1, qk_true, k_pair (cc _) (by omega), qc_some', nI_l (by omega)]
      exact k1
    · have hb' : hsb (bt g (q + 9)) = false := by
        cases e : hsb (bt g (q + 9))
        · rfl
        · exact absurd e hb
      have ev : pgs g q = 0 := by unfold pgs; rw [if_neg hb]
      rw [ev] at k1
      rw [hb', if_pos (show bI false = 0 from rfl)]
      exact k1
  · have : f = 0 ∨ f = 1 ∨ f = 2 ∨ f = 3 ∨ f = 4 ∨ f = 5 := by omega
    rcases this with rfl | rfl | rfl | rfl | rfl | rfl
    · rw [k2 0 (by omega)]; rfl
    · rw [k2 1 (by omega)]; rfl
    · rw [k2 2 (by omega)]; rfl
    · rw [k2 3 (by omega)]; rfl
    · rw [k3]; rfl
    · rw [k4]; rfl
end RDP
