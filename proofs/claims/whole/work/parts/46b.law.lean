/-! the law's loop -/
theorem law_loop {X : gk_X} {F : Nat} (hX : X.sl ≤ 4608) (hF : 16400 ≤ F) : ∀ fu i t (S : gk_S), Inv S t → X.sl < i + 9 * (fu + 1) → i ≤ 4700 → t + 16 * (fu + 1) ≤ 9000 → ∃ S', f_L_law_23 X F (fu + 1) 0 352 372 (nI i) S = some (1, S') := by
  intro fu
  induction fu with
  | zero =>
    intro i t S h h1 h2 h3
    rw [f_L_law_23, if_pos ((law_end hX (by omega)).mpr (by omega))]
    exact ⟨S, rfl⟩
  | succ fu ih =>
    intro i t S h h1 h2 h3
    by_cases q : X.sl < i + 9
    · rw [f_L_law_23, if_pos ((law_end hX (by omega)).mpr q)]
      exact ⟨S, rfl⟩
    have hs := h.1
    have b0 : inb (nI i) X.sl = true := inb_n (by omega) (by omega)
    have b1 : inb (nI i + 1) X.sl = true := by rw [show (1 : Int32) = nI 1 from rfl, nI_add]; exact inb_n (by omega) (by omega)
    have b2 : inb (nI i + 2) X.sl = true := by rw [show (2 : Int32) = nI 2 from rfl, nI_add]; exact inb_n (by omega) (by omega)
    have b3 : inb (nI i + 3) X.sl = true := by rw [show (3 : Int32) = nI 3 from rfl, nI_add]; exact inb_n (by omega) (by omega)
    have b4 : inb (nI i + 4) X.sl = true := by rw [show (4 : Int32) = nI 4 from rfl, nI_add]; exact inb_n (by omega) (by omega)
    have b5 : inb (nI i + 5) X.sl = true := by rw [show (5 : Int32) = nI 5 from rfl, nI_add]; exact inb_n (by omega) (by omega)
    have b6 : inb (nI i + 6) X.sl = true := by rw [show (6 : Int32) = nI 6 from rfl, nI_add]; exact inb_n (by omega) (by omega)
    have b7 : inb (nI i + 7) X.sl = true := by rw [show (7 : Int32) = nI 7 from rfl, nI_add]; exact inb_n (by omega) (by omega)
    have b8 : inb (nI i + 8) X.sl = true := by rw [show (8 : Int32) = nI 8 from rfl, nI_add]; exact inb_n (by omega) (by omega)
    have e9 : nI i + 9 = nI (i + 9) := by rw [show (9 : Int32) = nI 9 from rfl, nI_add]
    have go : ∀ S2, Inv S2 (t + 16) → ∃ S', f_L_law_23 X F (fu + 1) 0 352 372 (nI i + 9) S2 = some (1, S') := fun S2 g => by
      rw [e9]
      exact ih (i + 9) (t + 16) S2 g (by omega) (by omega) (by omega)
    have up : ∀ {S2 t'}, Inv S2 t' → t' ≤ t + 16 → Inv S2 (t + 16) := fun g e => Inv_up g e
    rw [f_L_law_23, if_neg (fun c => q ((law_end hX (by omega)).mp c)), b0, qk_true]
    generalize hK : f_L_law_23 X F (fu + 1) 0 352 372 (nI i + 9) = K at go
    generalize X.xs (nI i).toNatClampNeg &&& 31 = op
    by_cases e0 : op = 0
    · rw [if_pos e0]
      obtain ⟨x, S1, S2, k1, k2, k3⟩ := c_feed (F := F) h hF (X.xs (nI i + 1).toNatClampNeg) (X.xs (nI i + 2).toNatClampNeg) (X.xs (nI i + 3).toNatClampNeg) (X.xs (nI i + 4).toNatClampNeg) (X.xs (nI i + 5).toNatClampNeg)
      rw [b1, qk_true, b2, qk_true, b3, qk_true, b4, qk_true, b5, qk_true, z_i0 hs, qk_true, k1, qc_some', qk_true, qk_true, qk_true, qk_true, qk_true, i_feed k2, qk_true, k2, qc_some', if_pos rfl]
      exact go S2 (up k3 (by omega))
    rw [if_neg e0]
    by_cases e1 : op = 1
    · rw [if_pos e1]
      obtain ⟨x, S1, S2, k1, k2, k3⟩ := c_end (F := F) h (X.xs (nI i + 1).toNatClampNeg)
      rw [b1, qk_true, z_i0 hs, qk_true, k1, qc_some', qk_true, i_end k2, qk_true, k2, qc_some', if_pos rfl]
      exact go S2 (up k3 (by omega))
    rw [if_neg e1]
    by_cases e2 : op = 2
    · rw [if_pos e2]
      obtain ⟨k, S1, b, S2, k1, k2, k3, k4, k5⟩ := c_load (F := F) h hF (X.xs (nI i + 1).toNatClampNeg)
      have k2' : f_X12_load F S1 352 (X.xs (nI i + 1).toNatClampNeg) = some (b, S2) := k2
      rw [b1, qk_true, k1, qc_some', qk_true, i_load k2', qk_true, k2', qc_some', tl_ok (K := K) k5 k3 k4]
      exact go S2 (up k5 (by omega))
    rw [if_neg e2]
    by_cases e3 : op = 3
    · rw [if_pos e3]
      obtain ⟨x, S1, S2, k1, k2, k3⟩ := c_fault (F := F) h
      rw [z_i0 hs, qk_true, k1, qc_some', i_fault k2, qk_true, k2, qc_some', if_pos rfl]
      exact go S2 (up k3 (by omega))
    rw [if_neg e3]
    by_cases e4 : op = 4
    · rw [if_pos e4]
      obtain ⟨k, S1, b, S2, k1, k2, k3, k4, k5⟩ := c_rules (F := F) h (X.xs (nI i + 1).toNatClampNeg)
      have k2' : f_X12_rules F S1 352 (X.xs (nI i + 1).toNatClampNeg) = some (b, S2) := k2
      rw [b1, qk_true, k1, qc_some', qk_true, i_rules k2', qk_true, k2', qc_some', tl_ok (K := K) k5 k3 k4]
      exact go S2 (up k5 (by omega))
    rw [if_neg e4]
    by_cases e5 : op = 5
    · rw [if_pos e5]
      obtain ⟨k, S1, b, S2, k1, k2, k3, k4, k5⟩ := c_rule (F := F) h (X.xs (nI i + 1).toNatClampNeg) (X.xs (nI i + 2).toNatClampNeg) (X.xs (nI i + 3).toNatClampNeg)
      have k2' : f_X12_rule_ F S1 352 (X.xs (nI i + 1).toNatClampNeg) (X.xs (nI i + 2).toNatClampNeg) (X.xs (nI i + 3).toNatClampNeg) = some (b, S2) := k2
      rw [b1, qk_true, b2, qk_true, b3, qk_true, k1, qc_some', qk_true, qk_true, qk_true, i_rule k2', qk_true, k2', qc_some', tl_ok (K := K) k5 k3 k4]
      exact go S2 (up k5 (by omega))
    rw [if_neg e5]
    by_cases e6 : op = 6
    · rw [if_pos e6]
      obtain ⟨k, S1, b, S2, k1, k2, k3, k4, k5⟩ := c_write (F := F) h hF (X.xs (nI i + 1).toNatClampNeg)
      have k2' : f_X12_write F S1 352 (X.xs (nI i + 1).toNatClampNeg) = some (b, S2) := k2
      rw [b1, qk_true, k1, qc_some', qk_true, i_write k2', qk_true, k2', qc_some', tl_ok (K := K) k5 k3 k4]
      exact go S2 (up k5 (by omega))
    rw [if_neg e6]
    by_cases e7 : op = 7
    · rw [if_pos e7]
      obtain ⟨k, S1, b, S2, k1, k2, k3, k4, k5⟩ := c_octet (F := F) h (X.xs (nI i + 1).toNatClampNeg)
      have k2' : f_X12_octet F S1 352 (X.xs (nI i + 1).toNatClampNeg) = some (b, S2) := k2
      rw [b1, qk_true, k1, qc_some', qk_true, i_octet k2', qk_true, k2', qc_some', tl_ok (K := K) k5 k3 k4]
      exact go S2 (up k5 (by omega))
    rw [if_neg e7]
    by_cases e8 : op = 8
    · rw [if_pos e8]
      obtain ⟨k, S1, b, S2, k1, k2, k3, k4, k5⟩ := c_match (F := F) h hF (X.xs (nI i + 1).toNatClampNeg) (X.xs (nI i + 2).toNatClampNeg) (X.xs (nI i + 3).toNatClampNeg) (X.xs (nI i + 4).toNatClampNeg) (X.xs (nI i + 5).toNatClampNeg) (X.xs (nI i + 6).toNatClampNeg) (X.xs (nI i + 7).toNatClampNeg) (X.xs (nI i + 8).toNatClampNeg)
      have k2' : f_X12_match F S1 352 (X.xs (nI i + 1).toNatClampNeg) (X.xs (nI i + 2).toNatClampNeg) (X.xs (nI i + 3).toNatClampNeg) (X.xs (nI i + 4).toNatClampNeg) (X.xs (nI i + 5).toNatClampNeg) (X.xs (nI i + 6).toNatClampNeg) (X.xs (nI i + 7).toNatClampNeg) (X.xs (nI i + 8).toNatClampNeg) = some (b, S2) := k2
      rw [b1, qk_true, b2, qk_true, b3, qk_true, b4, qk_true, b5, qk_true, b6, qk_true, b7, qk_true, b8, qk_true, k1, qc_some', qk_true, qk_true, qk_true, qk_true, qk_true, qk_true, qk_true, qk_true, i_match k2', qk_true, k2', qc_some', tl_ok (K := K) k5 k3 k4]
      exact go S2 (up k5 (by omega))
    rw [if_neg e8]
    by_cases e9 : op = 9
    · rw [if_pos e9]
      obtain ⟨k, S1, b, S2, k1, k2, k3, k4, k5⟩ := c_shadowed (F := F) h hF (by omega) (X.xs (nI i + 1).toNatClampNeg) (X.xs (nI i + 2).toNatClampNeg)
      have k2' : f_X12_shadowed F S1 352 (X.xs (nI i + 1).toNatClampNeg) (X.xs (nI i + 2).toNatClampNeg) = some (b, S2) := k2
      rw [b1, qk_true, b2, qk_true, k1, qc_some', qk_true, qk_true, i_shadowed k2', qk_true, k2', qc_some', tl_ok2 (K := K) k5 k3 k4 (b_shadowed k2')]
      exact go S2 (up k5 (by omega))
    rw [if_neg e9]
    by_cases e10 : op = 10
    · rw [if_pos e10]
      obtain ⟨k, S1, b, S2, k1, k2, k3, k4, k5⟩ := c_alike (F := F) h hF (by omega) (X.xs (nI i + 1).toNatClampNeg) (X.xs (nI i + 2).toNatClampNeg)
      have k2' : f_X12_alike F S1 352 (X.xs (nI i + 1).toNatClampNeg) (X.xs (nI i + 2).toNatClampNeg) = some (b, S2) := k2
      rw [b1, qk_true, b2, qk_true, k1, qc_some', qk_true, qk_true, i_alike k2', qk_true, k2', qc_some', tl_ok2 (K := K) k5 k3 k4 (b_alike k2')]
      exact go S2 (up k5 (by omega))
    rw [if_neg e10]
    by_cases e11 : op = 11
    · rw [if_pos e11]
      obtain ⟨k, S1, b, S2, k1, k2, k3, k4, k5⟩ := c_found (F := F) h (X.xs (nI i + 1).toNatClampNeg)
      have k2' : f_X12_found F S1 352 (X.xs (nI i + 1).toNatClampNeg) = some (b, S2) := k2
      rw [b1, qk_true, k1, qc_some', qk_true, i_found k2', qk_true, k2', qc_some', tl_ok (K := K) k5 k3 k4]
      exact go S2 (up k5 (by omega))
    rw [if_neg e11]
    by_cases e12 : op = 12
    · rw [if_pos e12]
      obtain ⟨k, S1, b, S2, k1, k2, k3, k4, k5⟩ := c_least (F := F) h hF (by omega) (X.xs (nI i + 1).toNatClampNeg) (X.xs (nI i + 2).toNatClampNeg)
      have k2' : f_X12_least F S1 352 (X.xs (nI i + 1).toNatClampNeg) (X.xs (nI i + 2).toNatClampNeg) = some (b, S2) := k2
      rw [b1, qk_true, b2, qk_true, k1, qc_some', qk_true, qk_true, i_least k2', qk_true, k2', qc_some', tl_ok (K := K) k5 k3 k4]
      exact go S2 (up k5 (by omega))
    rw [if_neg e12]
    by_cases e13 : op = 13
    · rw [if_pos e13]
      obtain ⟨x, S1, S2, k1, k2, k3⟩ := c_now (F := F) h hF (X.xs (nI i + 1).toNatClampNeg)
      rw [b1, qk_true, z_i0 hs, qk_true, k1, qc_some', qk_true, i_now k2, qk_true, k2, qc_some', if_pos rfl]
      exact go S2 (up k3 (by omega))
    rw [if_neg e13]
    by_cases e14 : op = 14
    · rw [if_pos e14]
      obtain ⟨x, S1, S2, k1, k2, k3⟩ := c_room (F := F) h (X.xs (nI i + 1).toNatClampNeg)
      rw [b1, qk_true, z_i0 hs, qk_true, k1, qc_some', qk_true, i_room k2, qk_true, k2, qc_some', if_pos rfl]
      exact go S2 (up k3 (by omega))
    rw [if_neg e14]
    by_cases e15 : op = 15
    · rw [if_pos e15]
      obtain ⟨k, S1, b, S2, k1, k2, k3, k4, k5⟩ := c_packet (F := F) h hF (X.xs (nI i + 1).toNatClampNeg) (X.xs (nI i + 2).toNatClampNeg) (X.xs (nI i + 3).toNatClampNeg) (X.xs (nI i + 4).toNatClampNeg) (X.xs (nI i + 5).toNatClampNeg) (X.xs (nI i + 6).toNatClampNeg) (X.xs (nI i + 7).toNatClampNeg)
      have k2' : f_X12_packet F S1 352 (X.xs (nI i + 1).toNatClampNeg) (X.xs (nI i + 2).toNatClampNeg) (X.xs (nI i + 3).toNatClampNeg) (X.xs (nI i + 4).toNatClampNeg) (X.xs (nI i + 5).toNatClampNeg) (X.xs (nI i + 6).toNatClampNeg) (X.xs (nI i + 7).toNatClampNeg) = some (b, S2) := k2
      rw [b1, qk_true, b2, qk_true, b3, qk_true, b4, qk_true, b5, qk_true, b6, qk_true, b7, qk_true, k1, qc_some', qk_true, qk_true, qk_true, qk_true, qk_true, qk_true, qk_true, i_packet k2', qk_true, k2', qc_some', tl_ok (K := K) k5 k3 k4]
      exact go S2 (up k5 (by omega))
    rw [if_neg e15]
    by_cases e16 : op = 16
    · rw [if_pos e16]
      obtain ⟨k, S1, b, S2, k1, k2, k3, k4, k5⟩ := c_datagram (F := F) h hF (X.xs (nI i + 1).toNatClampNeg)
      have k2' : f_X12_datagram F S1 352 (X.xs (nI i + 1).toNatClampNeg) = some (b, S2) := k2
      rw [b1, qk_true, k1, qc_some', qk_true, i_datagram k2', qk_true, k2', qc_some', tl_ok (K := K) k5 k3 k4]
      exact go S2 (up k5 (by omega))
    rw [if_neg e16]
    by_cases e17 : op = 17
    · rw [if_pos e17]
      obtain ⟨k, S1, b, S2, k1, k2, k3, k4, k5⟩ := c_pack (F := F) h hF
      have k2' : f_X12_pack F S1 352 = some (b, S2) := k2
      rw [k1, qc_some', i_pack k2', qk_true, k2', qc_some', tl_ok (K := K) k5 k3 k4]
      exact go S2 (up k5 (by omega))
    rw [if_neg e17]
    by_cases e18 : op = 18
    · rw [if_pos e18]
      obtain ⟨k, S1, b, S2, k1, k2, k3, k4, k5⟩ := c_connection (F := F) h (X.xs (nI i + 1).toNatClampNeg) (X.xs (nI i + 2).toNatClampNeg)
      have k2' : f_X12_connection F S1 352 (X.xs (nI i + 1).toNatClampNeg) (X.xs (nI i + 2).toNatClampNeg) = some (b, S2) := k2
      rw [b1, qk_true, b2, qk_true, k1, qc_some', qk_true, qk_true, i_connection k2', qk_true, k2', qc_some', tl_ok (K := K) k5 k3 k4]
      exact go S2 (up k5 (by omega))
    rw [if_neg e18]
    by_cases e19 : op = 19
    · rw [if_pos e19]
      obtain ⟨x, S1, S2, k1, k2, k3⟩ := c_count (F := F) h (X.xs (nI i + 1).toNatClampNeg)
      rw [b1, qk_true, z_i0 hs, qk_true, k1, qc_some', qk_true, i_count k2, qk_true, k2, qc_some', if_pos rfl]
      exact go S2 (up k3 (by omega))
    rw [if_neg e19]
    exact go S (up h (by omega))
