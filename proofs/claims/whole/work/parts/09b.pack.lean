/-! the packet as a datagram -/
def b2 (n : Nat) : List Nat := [n / 256 % 256, n % 256]
def b4 (n : Nat) : List Nat := [n / 16777216 % 256, n / 65536 % 256, n / 256 % 256, n % 256]
def HL (p : Nat → Nat) (rest : Nat) : List Nat := [69, 0] ++ b2 (20 + rest) ++ [0, 0, 0, 0] ++ [64, p 1] ++ [0, 0] ++ b4 (p 2) ++ b4 (p 3)
def ech (p : Nat → Nat) : Bool := decide (p 4 / 256 = 0 ∨ p 4 / 256 = 8)
def BL (p : Nat → Nat) : List Nat := if p 1 = 6 then b2 (p 4) ++ b2 (p 5) ++ [0, 0, 0, 0, 0, 0, 0, 0] ++ [80, p 6] ++ [0, 0, 0, 0, 0, 0] else if p 1 = 17 then b2 (p 4) ++ b2 (p 5) ++ [0, 8] ++ [0, 0] else b2 (p 4) ++ [0, 0] ++ b2 (if ech p = true then p 5 else 0) ++ [0, 0]
def st2 (l : List Nat) (k v : Nat) : List Nat := (l.set k (v / 256 % 256)).set (k + 1) (v % 256)
theorem st2_len (l : List Nat) (k v : Nat) : (st2 l k v).length = l.length := by unfold st2; rw [List.length_set, List.length_set]
section PACK
variable {S : gk_S} {F : Nat} {g : Nat → Int32} {l : List Nat}
theorem OcH_CW (h : Sh S) : OcH (CW S g l) 3 4 3000 := outH (Sh_CW h g l)
theorem CO_CW (h : Sh S) (hl : l.length ≤ 3000) : CO (CW S g l) 3 (wr g l) l.length := by
  have := CO_of (OcH_CW (g := g) (l := l) h) hl (Nat.le_refl _) (rd_eq _ _ _ _)
  have e : xI (CW S g l) 4 = wr g l := rfl
  rw [e] at this
  exact this
theorem w_set (h : Sh S) (hl : l.length ≤ 3000) {k : Nat} (hk : k + 1 < l.length) (x : Int32) : f_X2_setPair F (CW S g l) 3 (nI k) x = some ((), CW S g (st2 l k (un x))) := by
  have H := OcH_CW (g := g) (l := l) h
  obtain ⟨h1, h2, h3, h4, h5⟩ := H
  have e1 : gI (CW S g l) 101 3 = nI l.length := rd_eq _ _ _ _
  have e4 : ∀ y : Int32, y.toInt8.toInt32.toInt8.toInt32 = b8 y := b8_b8
  have w1 : wB (CW S g l) 4 (nI k) ((x.toUInt32 >>> ((8 : Int32).toUInt32 &&& Int32.toUInt32 31)).toInt32).toInt8.toInt32 = CW S g (l.set k (un x / 256 % 256)) := by
    unfold wB CW oc
    have e3 : xI (sI (rI S 4 (wr g l)) 101 3 (nI l.length)) 4 = wr g l := rfl
    rw [e3, nI_clamp (by omega), rI_sI, rI_rI, e4, wr_set g l (by omega), un_ushr8, List.length_set]
  have w2 : wB (CW S g (l.set k (un x / 256 % 256))) 4 (nI (k + 1)) x.toInt8.toInt32 = CW S g (st2 l k (un x)) := by
    unfold wB CW oc
    have e3 : xI (sI (rI S 4 (wr g (l.set k (un x / 256 % 256)))) 101 3 (nI (l.set k (un x / 256 % 256)).length)) 4 = wr g (l.set k (un x / 256 % 256)) := rfl
    rw [e3, nI_clamp (by omega), rI_sI, rI_rI, e4, wr_set g _ (by rw [List.length_set]; omega)]
    unfold st2
    rw [List.length_set, List.length_set, List.length_set]
  obtain ⟨j1, j2, j3, j4, j5⟩ := OcH_CW (g := g) (l := l.set k (un x / 256 % 256)) h
  unfold f_X2_setPair
  rw [if_neg (nI_pos (by omega)), h1, qk_true, qv_eq, e1, nI_1, if_neg (nI_ge hk (by omega)), h2, qP_some', h3, qk_true, qv_eq, h4, if_neg (nI_ge (by omega) (by omega)), qP_some', qv_eq, h3, qk_true, inb_n (by omega) (by omega), qk_true, qv_eq, w1, j2, qP_some', j3, qk_true, j4, inb_n (by omega) (by omega), qk_true, qv_eq, w2]
theorem PK_CW {p : Nat → Nat} (pk : PK S 345 p) : PK (CW S g l) 345 p := by
  obtain ⟨k1, k2, k3, k4, k5, k6, k7⟩ := pk
  exact ⟨k1, k2, k3, k4, k5, (rd_ne _ _ (Or.inl (by decide))).trans k6, k7⟩
theorem un_lit (n : Nat) (h : n < 4294967296) : un (nI n) = n := un_nI h
theorem k_head (h : Sh S) {p : Nat → Nat} (pk : PK S 345 p) {rest : Nat} (hr : rest ≤ 20) : f_X10_put_32 F 345 3 (nI (p 1)) (nI rest) (CW S g []) = (qc (f_X10_sum F (CW S g (HL p rest)) 3 0 20 0) fun x87 S88 => qk (isb S88 3 1) <| qc (f_X2_setPair F S88 3 10 (65535 - x87)) fun x93 S94 => if (nI rest) ≤ (0 : Int32) then (some ((), S94)) else qc (f_X10_putBody F S94 345 (nI (p 1)) 3) fun x99 S100 => qk (isb S100 3 1) <| qv (gI S100 101 3) fun x105 => qc (f_X10_seed F S100 3 20) fun x108 S109 => qc (f_X10_sum F S109 3 20 x105 x108) fun x112 S113 => qc (f_X10_sumPlace F S113 (nI (p 1))) fun x116 S117 => if (nI (p 1)) = (17 : Int32) then (if (65535 - x112) = (0 : Int32) then (f_X10_put_163 F 65535 (20 + x116) 3 S117) else f_X10_put_163 F (65535 - x112) (20 + x116) 3 S117) else f_X10_put_163 F (65535 - x112) (20 + x116) 3 S117) := by
  have Z := fun l => z_i3 (Sh_CW h g l)
  have P := fun l => PK_CW (g := g) (l := l) pk
  have w := pk.2.2.2.2.2.2
  obtain ⟨w0, w1, w2, w3, w4, w5, w6⟩ := w
  have i2 : inb 2 6 = true := rfl
  have i3 : inb 3 6 = true := rfl
  have e2 : ∀ l, aJ (CW S g l) (345 + 1) 2 = lN (p 2) := fun l => (P l).2.2.2.2.1 2 (by omega)
  have e3 : ∀ l, aJ (CW S g l) (345 + 1) 3 = lN (p 3) := fun l => (P l).2.2.2.2.1 3 (by omega)
  have a1 : (20 : Int32) + nI rest = nI (20 + rest) := nI_add 20 rest
  have a2 : (16384 : Int32) + nI (p 1) = nI (16384 + p 1) := nI_add 16384 (p 1)
  have u1 : un 17664 = 17664 := by decide
  have u0 : un 0 = 0 := by decide
  have q1 : (16384 + p 1) / 256 % 256 = 64 ∧ (16384 + p 1) % 256 = p 1 := by omega
  unfold f_X10_put_32
  rw [Z, qk_true, w_pair h (by simp only [List.length]; omega), qc_some', Z, qk_true, a1, w_pair h (by simp only [List.length, List.length_append]; omega), qc_some', Z, qk_true, w_quad h (by simp only [List.length, List.length_append]; omega), qc_some', Z, qk_true, a2, w_pair h (by simp only [List.length, List.length_append]; omega), qc_some', Z, qk_true, w_pair h (by simp only [List.length, List.length_append]; omega), qc_some', (P _).1, qk_true, (P _).2.1, qP_some', (P _).2.2.1, qk_true, (P _).2.2.2.1, i2, qk_true, qv_eq, e2, lN_i, Z, qk_true, w_quad h (by simp only [List.length, List.length_append]; omega), qc_some', (P _).1, qk_true, (P _).2.1, qP_some', (P _).2.2.1, qk_true, (P _).2.2.2.1, i3, qk_true, qv_eq, e3, lN_i, Z, qk_true, w_quad h (by simp only [List.length, List.length_append]; omega), qc_some', u1, u0, un_lit _ (by omega), un_lit _ (by omega), un_lit _ (by omega), un_lit _ (by omega), q1.1, q1.2]
  rfl
end PACK
