section EVTX
variable {X : gk_X} {M N : gk_M} {d k j d' k' j' pc : Nat} {L : List (Option Value)} {st as : List Value} {S S' : gk_S} {R : gk_R} {v : Option Value}
/-- invokevirtual on a text -/
theorem ev_callT {i9 idx n : Nat} (h : EvM X N d' k' j' (.retAddr (10 + i9) :: as) S (.inl v, S')) (hi9 : i9 < 34) (hcl : N.y.cls = "java/lang/String") (hh : N.hh = []) (hd' : d' + 1 ≤ d) (hnL : N.nL ≤ 45) (hst : st.all gk_okv = true) (hsum : (st.map fun v => v.category).sum ≤ 8) (hn : as.length = n)
    (hw1 : Cond.methodLink M.y.cls idx N.y ∈ gG) (hw2 : Cond.instanceMethod N.y ∈ gG) (hw3 : Cond.selects N.y.cls N.y N.y ∈ gG) (hw4 : Cond.initialized N.y.cls ∈ gG) (hw5 : Cond.code N.y N.cc N.nL N.rt ∈ gG)
    (hdesc : N.y.cls ≠ "java/lang/invoke/MethodHandle" ∧ N.y.cls ≠ "java/lang/invoke/VarHandle" ∧ (parseMethodDescriptor N.y.desc).map (fun d => d.parameters.length) = some n)
    (hd : decode M.cc pc = .ok (.invokevirtual idx, 3)) (kk : EvW X M d k j (pc + 3) L (v.toList ++ st) S' R) : EvW X M d (k' + k) (j' + j) pc L (as.reverse ++ .retAddr (10 + i9) :: st) S R := by
  intro p e Rm s m args below meth c H locs cells slots mc ms ls C r hH hS hc9 hl
  have hts := C.2.2.2.2.2.1
  have hK := C.2.2.2.2.2.2.2.2.2.1
  have hSt := C.2.2.2.2.2.2.2.2.2.2.1
  have hw : gk_w N = Cond.code N.y N.cc N.nL N.rt :: gG := by unfold gk_w; rw [if_pos hh]
  have hG : GoodIn gG (wsV M.y.cls idx N.y.cls N.y (gk_w N)) := gk_GoodIn fun w h9 => by
    unfold wsV at h9
    rw [hw] at h9
    simp only [List.mem_append, List.mem_cons, List.not_mem_nil, or_false] at h9
    rcases h9 with (rfl | rfl | rfl | rfl) | rfl | h9
    · exact hw1
    · exact hw2
    · exact hw3
    · exact hw4
    · exact hw5
    · exact h9
  obtain ⟨-, -, -, -, -, -, -, hs9, -⟩ := id hSt
  obtain ⟨a9, v9, ek, -, -, hO, -⟩ := hs9 i9 hi9
  have ek2 : gk_v X (.retAddr (10 + i9)) = .ref a9 := ek
  have hstk : (as.reverse ++ .retAddr (10 + i9) :: st).map (gk_v X) = (as.map (gk_v X)).reverse ++ .ref a9 :: st.map (gk_v X) := by simp [ek2]
  have hmet := h.met
  rw [List.map_cons, ek2] at hmet
  rw [hstk]
  refine gk_back (va_runV (As := as.map (gk_v X)) (rest := st.map (gk_v X)) (n := n) ⟨C.1, C.2.1, C.2.2.2.1, C.2.2.2.2.1, hts⟩ hmet (cwV n hts hG hw rfl rfl ⟨rfl, hdesc⟩ ⟨by show d' + 1 ≤ Rm.frames; omega, by show 8 + (N.nL + 11) + 64 * d' ≤ Rm.locals; omega⟩) ⟨gk_blind X S _, by rw [hcl]; obtain ⟨cell, q1, q2, q3, -⟩ := hO.kept hS.2.1; exact ⟨cell, q1, q2, q3⟩, fun U hU hW => ⟨rfl, by rw [hU]; exact hH, va_K.moved hW.alike hK, by rw [hU]; exact (hSt.kept C.2.2.2.2.2.2.2.2.2.2.2.1 hS.2.1).warm hW, by rw [hU]; exact Nat.le_trans C.2.2.2.2.2.2.2.2.2.2.2.1 hS.1, C.2.2.2.2.2.2.2.2.2.2.2.2⟩⟩ rfl (by rw [List.length_map]; exact hn) hl.1 rfl (lv_room (by rw [gk_sum hSt hst]; exact hsum)) hd ⟨by omega, by omega⟩) hS fun H1 locs1 hH1 hS1 => ?_
  exact kk p e Rm s m args below meth c H1 locs1 (cells + k') (slots + j') mc ms ls C r hH1 hS1 ⟨by omega, by omega, hc9.2.2⟩ hl
end EVTX
