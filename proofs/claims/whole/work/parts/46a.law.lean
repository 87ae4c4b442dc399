/-! the law's loop: what its steps share -/
section LWA
variable {F : Nat} {S T : gk_S} {r : Int32 × gk_S}
theorem isN (p n : Int32) : ∃ x, f_X12_isNone F S p n = some (x, S) := by
  unfold f_X12_isNone
  repeat' split
  all_goals exact ⟨_, rfl⟩
theorem i_feed {a b c d e : Int32} (h : f_X12_feed F S 352 a b c d e = some r) : isb S 352 9 = true := by unfold f_X12_feed at h; exact (qk_el h).1
theorem i_end {a : Int32} (h : f_X12_end F S 352 a = some r) : isb S 352 9 = true := by unfold f_X12_end at h; exact (qk_el h).1
theorem i_fault (h : f_X12_fault F S 352 = some r) : isb S 352 9 = true := by unfold f_X12_fault at h; exact (qk_el h).1
theorem i_rules {a : Int32} (h : f_X12_rules F S 352 a = some r) : isb S 352 9 = true := by unfold f_X12_rules at h; exact (qk_el h).1
theorem i_rule {a b c : Int32} (h : f_X12_rule_ F S 352 a b c = some r) : isb S 352 9 = true := by unfold f_X12_rule_ at h; exact (qk_el h).1
theorem i_write {a : Int32} (h : f_X12_write F S 352 a = some r) : isb S 352 9 = true := by unfold f_X12_write at h; exact (qk_el h).1
theorem i_match {a p1 p2 p3 p4 p5 p6 p7 : Int32} (h : f_X12_match F S 352 a p1 p2 p3 p4 p5 p6 p7 = some r) : isb S 352 9 = true := by unfold f_X12_match at h; exact (qk_el h).1
theorem i_shadowed {a b : Int32} (h : f_X12_shadowed F S 352 a b = some r) : isb S 352 9 = true := by unfold f_X12_shadowed at h; exact (qk_el h).1
theorem i_alike {a b : Int32} (h : f_X12_alike F S 352 a b = some r) : isb S 352 9 = true := by unfold f_X12_alike at h; exact (qk_el h).1
theorem i_found {a : Int32} (h : f_X12_found F S 352 a = some r) : isb S 352 9 = true := by unfold f_X12_found at h; exact (qk_el h).1
theorem i_least {a b : Int32} (h : f_X12_least F S 352 a b = some r) : isb S 352 9 = true := by unfold f_X12_least at h; exact (qk_el h).1
theorem i_now {a : Int32} (h : f_X12_now F S 352 a = some r) : isb S 352 9 = true := by unfold f_X12_now at h; exact (qk_el h).1
theorem i_room {a : Int32} (h : f_X12_room F S 352 a = some r) : isb S 352 9 = true := by unfold f_X12_room at h; exact (qk_el h).1
theorem i_pack (h : f_X12_pack F S 352 = some r) : isb S 352 9 = true := by unfold f_X12_pack at h; exact (qk_el h).1
theorem i_count {a : Int32} (h : f_X12_count F S 352 a = some r) : isb S 352 9 = true := by unfold f_X12_count at h; exact (qk_el h).1
theorem i_load {a : Int32} (h : f_X12_load F S 352 a = some r) : isb S 352 9 = true := by
  unfold f_X12_load at h
  repeat' split at h
  all_goals (unfold f_X12_load_15 at h; exact (qk_el h).1)
theorem i_octet {a : Int32} (h : f_X12_octet F S 352 a = some r) : isb S 352 9 = true := by
  unfold f_X12_octet at h
  split at h
  · unfold f_X12_octet_18 at h; exact (qk_el h).1
  · exact (qk_el h).1
theorem i_connection {a b : Int32} (h : f_X12_connection F S 352 a b = some r) : isb S 352 9 = true := by
  unfold f_X12_connection at h
  split at h
  · unfold f_X12_connection_28 at h; exact (qk_el h).1
  · exact (qk_el h).1
theorem i_datagram {a : Int32} (h : f_X12_datagram F S 352 a = some r) : isb S 352 9 = true := by
  unfold f_X12_datagram at h
  obtain ⟨x, e⟩ := isN (F := F) (S := S) a 3
  rw [e, qc_some'] at h
  exact (qk_el h).1
theorem i_packet {p0 p1 p2 p3 p4 p5 p6 : Int32} (h : f_X12_packet F S 352 p0 p1 p2 p3 p4 p5 p6 = some r) : isb S 352 9 = true := by
  have k : ∀ v, f_X12_packet_54 F 352 p0 p1 p2 p3 p4 p5 p6 v 352 S = some r → isb S 352 9 = true := fun v h => by unfold f_X12_packet_54 at h; exact (qk_el h).1
  unfold f_X12_packet at h
  obtain ⟨x1, e1⟩ := isN (F := F) (S := S) p0 3
  obtain ⟨x2, e2⟩ := isN (F := F) (S := S) p1 255
  obtain ⟨x3, e3⟩ := isN (F := F) (S := S) p4 65535
  obtain ⟨x4, e4⟩ := isN (F := F) (S := S) p5 65535
  obtain ⟨x5, e5⟩ := isN (F := F) (S := S) p6 63
  rw [e1, qc_some', e2, qc_some', e3, qc_some', e4, qc_some', e5, qc_some'] at h
  repeat' split at h
  all_goals exact k _ h
theorem b_alike {a b : Int32} (h : f_X12_alike F S 352 a b = some r) : r.1 = 0 ∨ r.1 = 1 := by
  unfold f_X12_alike at h
  obtain ⟨x, T1, -, h⟩ := qc_el (qk_el h).2
  split at h
  · obtain ⟨x, T2, -, h⟩ := qc_el (qk_el h).2
    split at h
    · obtain ⟨-, h⟩ := qk_el h
      rw [qv_eq, qv_eq, qv_eq] at h
      obtain ⟨b1, -, h⟩ := qP_el h
      obtain ⟨-, h⟩ := qk_el h
      obtain ⟨-, h⟩ := qk_el h
      rw [qv_eq] at h
      obtain ⟨b1, -, h⟩ := qP_el h
      obtain ⟨-, h⟩ := qk_el h
      obtain ⟨-, h⟩ := qk_el h
      rw [qv_eq] at h
      obtain ⟨x, T3, -, h⟩ := qc_el h
      split at h
      · injection h with h; subst h; exact Or.inr rfl
      · injection h with h; subst h; exact Or.inl rfl
    · injection h with h; subst h; exact Or.inl rfl
  · injection h with h; subst h; exact Or.inl rfl
theorem b_shadowed28 {a b c : Int32} (h : f_X12_shadowed_28 F 352 a b c 352 S = some r) : r.1 = 0 ∨ r.1 = 1 := by
  unfold f_X12_shadowed_28 at h
  obtain ⟨x, T1, -, h⟩ := qc_el (qk_el h).2
  split at h
  · obtain ⟨-, h⟩ := qk_el h
    rw [qv_eq, qv_eq, qv_eq] at h
    obtain ⟨x, T3, -, h⟩ := qc_el h
    split at h
    · injection h with h; subst h; exact Or.inr rfl
    · injection h with h; subst h; exact Or.inl rfl
  · injection h with h; subst h; exact Or.inl rfl
theorem b_shadowed {a b : Int32} (h : f_X12_shadowed F S 352 a b = some r) : r.1 = 0 ∨ r.1 = 1 := by
  unfold f_X12_shadowed at h
  obtain ⟨x, T1, -, h⟩ := qc_el (qk_el h).2
  split at h
  · split at h
    · exact b_shadowed28 h
    · obtain ⟨-, h⟩ := qk_el h
      obtain ⟨b1, -, h⟩ := qP_el h
      obtain ⟨-, h⟩ := qk_el h
      obtain ⟨-, h⟩ := qk_el h
      rw [qv_eq] at h
      split at h
      · exact b_shadowed28 h
      · exact b_shadowed28 h
  · injection h with h; subst h; exact Or.inl rfl
theorem thr {t : Nat} {k : Int32} (h : Inv S t) (e : gI S 900 352 = k) : f_X12_thrown F S 352 = some (k, S) := by
  unfold f_X12_thrown
  rw [z_i352 h.1, qk_true, qv_eq, e]
theorem tl_ok {t : Nat} {k b : Int32} {K : gk_S → Option (Int32 × gk_S)} (h : Inv S t) (e : gI S 900 352 = k) (e2 : k = 0 → xJ S 372 0 = b.toInt64) : (qk (isb S 352 9) <| qc (f_X12_thrown F S 352) fun x S3 => if x = k then (if k = (0 : Int32) then (qk (isb S3 372 12) <| qk (inb 0 (gL S3 372)) <| qv (aJ S3 372 0) fun v => if v = b.toInt64 then K S3 else some (0, S3)) else K S3) else some (0, S3)) = K S := by
  have hs := h.1
  rw [z_i352 hs, qk_true, thr h e, qc_some', if_pos rfl]
  by_cases k0 : k = 0
  · have ea : aJ S 372 0 = b.toInt64 := e2 k0
    rw [if_pos k0, z_i372 hs, qk_true, z_l372 hs, in0_1, qk_true, qv_eq, ea, if_pos rfl]
  · rw [if_neg k0]
theorem tl_ok2 {t : Nat} {k b : Int32} {K : gk_S → Option (Int32 × gk_S)} (h : Inv S t) (e : gI S 900 352 = k) (e2 : k = 0 → xJ S 372 0 = b.toInt64) (hb : b = 0 ∨ b = 1) : (qk (isb S 352 9) <| qc (f_X12_thrown F S 352) fun x S3 => if x = k then (if k = (0 : Int32) then (qk (isb S3 372 12) <| qk (inb 0 (gL S3 372)) <| qv (aJ S3 372 0) fun v => if b = (0 : Int32) then (if v = (0 : Int64) then K S3 else some (0, S3)) else if v = (1 : Int64) then K S3 else some (0, S3)) else K S3) else some (0, S3)) = K S := by
  have hs := h.1
  rw [z_i352 hs, qk_true, thr h e, qc_some', if_pos rfl]
  by_cases k0 : k = 0
  · have ea : aJ S 372 0 = b.toInt64 := e2 k0
    rw [if_pos k0, z_i372 hs, qk_true, z_l372 hs, in0_1, qk_true, qv_eq, ea]
    rcases hb with rfl | rfl
    · rw [if_pos rfl, if_pos (show Int32.toInt64 0 = 0 by decide)]
    · rw [if_neg (by decide), if_pos (show Int32.toInt64 1 = 1 by decide)]
  · rw [if_neg k0]
theorem law_end {s i : Nat} (hs : s ≤ 4608) (hi : i ≤ 5000) : ((Int32.ofNat s) - 9 < nI i ↔ s < i + 9) := by
  show nI s - 9 < nI i ↔ _
  by_cases c : 9 ≤ s
  · rw [show (9 : Int32) = nI 9 from rfl, pk_sub c]
    by_cases q : s < i + 9
    · exact ⟨fun _ => q, fun _ => nI_lt (by omega) (by omega)⟩
    · exact ⟨fun h => absurd h (nI_nlt (by omega) (by omega)), fun h => absurd h q⟩
  · refine ⟨fun _ => by omega, fun _ => ?_⟩
    have h1 : ∀ s, s < 9 → (nI s - 9).toInt < 0 := by decide +kernel
    have h2 := h1 s (by omega)
    rw [Int32.lt_iff_toInt_lt, nI_toInt (by omega)]
    omega
end LWA
