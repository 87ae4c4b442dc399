theorem qRI_eq {v : Int32} {S : gk_S} {r : Int32 × gk_S} (h : some (v, S) = some r) : qRI r = (.inl (some (.int v)), S) := by cases h; rfl
theorem qRJ_eq {v : Int64} {S : gk_S} {r : Int64 × gk_S} (h : some (v, S) = some r) : qRJ r = (.inl (some (.long v)), S) := by cases h; rfl
theorem qRP_eq {v : Nat} {S : gk_S} {r : Nat × gk_S} (h : some (v, S) = some r) : qRP r = (.inl (some (.ref v)), S) := by cases h; rfl
theorem qRT_eq {v : Nat} {S : gk_S} {r : Nat × gk_S} (h : some (v, S) = some r) : qRT r = (.inl (some (.retAddr (10 + v))), S) := by cases h; rfl
theorem qRU_eq {S : gk_S} {r : Unit × gk_S} (h : some ((), S) = some r) : qRU r = (.inl none, S) := by cases h; rfl
theorem nar_int (v : Int32) : narrow .int (.int v) = .int v := rfl
section QV3
variable {X : gk_X} {M N : gk_M} {d k j pc : Nat} {L L' : List (Option Value)} {st : List Value} {S : gk_S} {R : gk_R}
/-- Math.min of two longs -/
theorem ev_minJ {idx : Nat} {x y z : Int64} (hw1 : Cond.methodLink M.y.cls idx Lib.MathLoose.min_long.x ∈ gG) (hw2 : Cond.static Lib.MathLoose.min_long.x ∈ gG) (hw3 : Cond.initialized "java/lang/Math" ∈ gG) (hw4 : Cond.code Lib.MathLoose.min_long.x Lib.MathLoose.min_long.code 4 (some .long) ∈ gG) (hz : (if y < x then y else x) = z) (hst : st.all gk_okv = true) (hr : (st.map fun v => v.category).sum ≤ 8) (hd1 : 1 ≤ d) (hd : decode M.cc pc = .ok (.invokestatic idx, 3)) (kk : EvW X M d k j (pc + 3) L (.long z :: st) S R) : EvW X M d k j pc L (.long y :: .long x :: st) S R := by
  subst hz
  intro p e Rm s m args below meth c H locs cells slots mc ms ls C r hH hS hc hl
  have hts := C.2.2.2.2.2.1
  have hsum := gk_sum C.2.2.2.2.2.2.2.2.2.2.1 hst
  refine va_mmin_long C.1 C.2.1 (by rw [C.2.2.2.1]; exact hl.1.symm) C.2.2.2.2.1 (hts _ hw1) (hts _ hw2) (hts _ hw3) (hts _ hw4) (by omega) (by rw [hsum]; omega) (by omega) (by omega) hd (kk p e Rm s m args below meth c H locs cells slots mc ms ls C r hH hS hc hl)
theorem ev_bud {k' j' : Nat} (hk : k = k') (hj : j = j') (kk : EvW X M d k' j' pc L st S R) : EvW X M d k j pc L st S R := by
  subst hk
  subst hj
  exact kk
theorem zv_new {ci idx b k2 j2 nf : Nat} {T : gk_S} (hk : k + 1 = k2) (hj : j + nf = j2) (hnf : (gk_q ci).2.2 = nf) (ht : tgb S = true) (hc : ci < 10) (hb : gk_n S = b) (hT : nK S ci 0 = T) (hw1 : Cond.classLink M.y.cls idx (gk_q ci).1 ∈ gG) (hw2 : Cond.instantiable (gk_q ci).1 (gk_q ci).2.2 ∈ gG) (hw3 : Cond.initialized (gk_q ci).1 ∈ gG) (hd : decode M.cc pc = .ok (.new idx, 3)) (kk : EvW X M d k j (pc + 3) L (.ref b :: st) T R) : EvW X M d k2 j2 pc L st S R := by
  subst hk
  subst hnf
  subst hj
  exact yv_new ht hc hb hT hw1 hw2 hw3 hd kk
theorem zv_newa {kd N b k2 j2 : Nat} {T : gk_S} {n : Int32} {atype : ArrayType} (hk : k + 1 = k2) (hj : j + N = j2) (ht : tgb S = true) (hk9 : (kd = 10 ∧ atype = .byte) ∨ (kd = 11 ∧ atype = .int) ∨ (kd = 12 ∧ atype = .long) ∨ (kd = 13 ∧ atype = .boolean)) (hb : gk_n S = b) (hT : nK S kd N = T) (hw : Cond.arrayClass (newarray.typeOf atype) ∈ gG) (hn : ¬ n < 0) (hN : n.toNatClampNeg = N) (hb9 : N ≤ 100000) (hd : decode M.cc pc = .ok (.newarray atype, 2)) (kk : EvW X M d k j (pc + 2) L (.ref b :: st) T R) : EvW X M d k2 j2 pc L (.int n :: st) S R := by
  subst hk
  subst hj
  exact yv_newa ht hk9 hb hT hw hn hN hb9 hd kk
theorem zv_newq {kd N idx b k2 j2 : Nat} {T : gk_S} {n : Int32} (hk : k + 1 = k2) (hj : j + N = j2) (ht : tgb S = true) (hk9 : 14 ≤ kd ∧ kd ≤ 16) (hb : gk_n S = b) (hT : nK S kd N = T) (hw : Cond.classLink M.y.cls idx (gk_q (gk_cA kd)).1 ∈ gG) (hn : ¬ n < 0) (hN : n.toNatClampNeg = N) (hb9 : N ≤ 100000) (hd : decode M.cc pc = .ok (.anewarray idx, 3)) (kk : EvW X M d k j (pc + 3) L (.ref b :: st) T R) : EvW X M d k2 j2 pc L (.int n :: st) S R := by
  subst hk
  subst hj
  exact yv_newq ht hk9 hb hT hw hn hN hb9 hd kk
theorem zv_mna {ok ik N K idx b k2 j2 : Nat} {T : gk_S} {n kk9 : Int32} {ty : FieldType} (hk : k + (1 + N) = k2) (hj : j + (N + N * K) = j2) (ht : tgb S = true) (ho : (ok = 17 ∧ ik = 11 ∧ ty = .int) ∨ (ok = 18 ∧ ik = 12 ∧ ty = .long)) (hb : gk_n S = b) (hT : gk_mn S ok ik N K = T) (hw1 : Cond.classLink M.y.cls idx ("[" ++ (FieldType.array ty).toString) ∈ gG) (hw2 : Cond.arrayClass ty ∈ gG) (hn : ¬ n < 0) (hk9 : ¬ kk9 < 0) (hN : n.toNatClampNeg = N) (hKK : kk9.toNatClampNeg = K) (hb9 : N ≤ 1000 ∧ K ≤ 1000) (hd : decode M.cc pc = .ok (.multianewarray idx 2, 4)) (kk : EvW X M d k j (pc + 4) L (.ref b :: st) T R) : EvW X M d k2 j2 pc L (.int kk9 :: .int n :: st) S R := by
  subst hk
  subst hj
  exact yv_mna ht ho hb hT hw1 hw2 hn hk9 hN hKK hb9 hd kk
end QV3
