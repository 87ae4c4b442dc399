theorem chb_nar {x : Int32} (h : chb x = true) : narrow .char (.int x) = .int x := by
  have h1 : (x.toUInt32 % 65536).toInt32 = x := of_decide_eq_true h
  show Value.int _ = _
  exact congrArg Value.int h1
theorem btb_nar {x : Int32} (h : btb x = true) : narrow .byte (.int x) = .int x := by
  have h1 : x.toInt8.toInt32 = x := of_decide_eq_true h
  show Value.int _ = _
  exact congrArg Value.int h1
theorem is_nK {S T : gk_S} {ci l b kd : Nat} (h : gk_is S b kd) (e : nK S ci l = T) : gk_is T b kd := by
  subst e
  refine ⟨Nat.lt_succ_of_lt h.1, ?_⟩
  rw [gk_K_nK, if_neg (Nat.ne_of_lt h.1)]
  exact h.2
theorem is_new {S T : gk_S} {ci l b : Nat} (hb : gk_n S = b) (e : nK S ci l = T) : gk_is T b ci := by
  subst e
  subst hb
  refine ⟨Nat.lt_succ_self _, ?_⟩
  rw [gk_K_nK, if_pos rfl]
section QV2
variable {X : gk_X} {M N : gk_M} {d k j pc : Nat} {L L' : List (Option Value)} {st : List Value} {S : gk_S} {R : gk_R}
theorem yv_new {ci idx b : Nat} {T : gk_S} (ht : tgb S = true) (hc : ci < 10) (hb : gk_n S = b) (hT : nK S ci 0 = T) (hw1 : Cond.classLink M.y.cls idx (gk_q ci).1 ∈ gG) (hw2 : Cond.instantiable (gk_q ci).1 (gk_q ci).2.2 ∈ gG) (hw3 : Cond.initialized (gk_q ci).1 ∈ gG) (hd : decode M.cc pc = .ok (.new idx, 3)) (kk : EvW X M d k j (pc + 3) L (.ref b :: st) T R) : EvW X M d (k + 1) (j + (gk_q ci).2.2) pc L st S R := by
  subst hT
  subst hb
  exact ev_new ht hc hw1 hw2 hw3 hd kk
theorem yv_newa {kd N b : Nat} {T : gk_S} {n : Int32} {atype : ArrayType} (ht : tgb S = true) (hk : (kd = 10 ∧ atype = .byte) ∨ (kd = 11 ∧ atype = .int) ∨ (kd = 12 ∧ atype = .long) ∨ (kd = 13 ∧ atype = .boolean)) (hb : gk_n S = b) (hT : nK S kd N = T) (hw : Cond.arrayClass (newarray.typeOf atype) ∈ gG) (hn : ¬ n < 0) (hN : n.toNatClampNeg = N) (hb9 : N ≤ 100000) (hd : decode M.cc pc = .ok (.newarray atype, 2)) (kk : EvW X M d k j (pc + 2) L (.ref b :: st) T R) : EvW X M d (k + 1) (j + N) pc L (.int n :: st) S R := by
  subst hT
  subst hb
  exact ev_newa ht hk hw hn hN hb9 hd kk
theorem yv_newq {kd N idx b : Nat} {T : gk_S} {n : Int32} (ht : tgb S = true) (hk : 14 ≤ kd ∧ kd ≤ 16) (hb : gk_n S = b) (hT : nK S kd N = T) (hw : Cond.classLink M.y.cls idx (gk_q (gk_cA kd)).1 ∈ gG) (hn : ¬ n < 0) (hN : n.toNatClampNeg = N) (hb9 : N ≤ 100000) (hd : decode M.cc pc = .ok (.anewarray idx, 3)) (kk : EvW X M d k j (pc + 3) L (.ref b :: st) T R) : EvW X M d (k + 1) (j + N) pc L (.int n :: st) S R := by
  subst hT
  subst hb
  exact ev_newq ht hk hw hn hN hb9 hd kk
theorem yv_mna {ok ik N K idx b : Nat} {T : gk_S} {n kk9 : Int32} {ty : FieldType} (ht : tgb S = true) (ho : (ok = 17 ∧ ik = 11 ∧ ty = .int) ∨ (ok = 18 ∧ ik = 12 ∧ ty = .long)) (hb : gk_n S = b) (hT : gk_mn S ok ik N K = T) (hw1 : Cond.classLink M.y.cls idx ("[" ++ (FieldType.array ty).toString) ∈ gG) (hw2 : Cond.arrayClass ty ∈ gG) (hn : ¬ n < 0) (hk : ¬ kk9 < 0) (hN : n.toNatClampNeg = N) (hKK : kk9.toNatClampNeg = K) (hb9 : N ≤ 1000 ∧ K ≤ 1000) (hd : decode M.cc pc = .ok (.multianewarray idx 2, 4)) (kk : EvW X M d k j (pc + 4) L (.ref b :: st) T R) : EvW X M d (k + (1 + N)) (j + (N + N * K)) pc L (.int kk9 :: .int n :: st) S R := by
  subst hT
  subst hb
  exact ev_mna ht ho hw1 hw2 hn hk hN hKK hb9 hd kk
theorem gl9 {L : List (Option Value)} {i9 : Nat} (h : (L.drop i9).all Option.isNone = true) : ∀ q : Nat, L[q]? = some none ∨ L[q]? = none ∨ q < i9 := by
  intro q
  by_cases hq : q < i9
  · exact Or.inr (Or.inr hq)
  · cases e : L[q]? with
    | none => exact Or.inr (Or.inl rfl)
    | some v =>
      have h1 : (L.drop i9)[q - i9]? = some v := by
        rw [List.getElem?_drop]
        rw [show i9 + (q - i9) = q by omega]
        exact e
      have h2 := List.all_eq_true.mp h v (List.mem_of_getElem? h1)
      cases v with
      | none => exact Or.inl rfl
      | some w => cases h2
theorem yv_catV {as : List Value} {S' : gk_S} {d' ci b idx n : Nat} {E name : String} {pre suf : List (Nat × Nat × Nat × Nat)} {x : Nat × Nat × Nat × Nat} {i9 len9 : Nat} {ins : Instr} (hN : gk_okV N ci n) (h : EvM X N d' k j (.ref b :: as) S (.inr E, S')) (hb : gk_is S b ci)
    (hM : M.hh = pre ++ x :: suf) (hpre : ∀ z ∈ pre, z.2.2.2 ≠ 0 ∧ ∃ nm : String, Cond.classLink M.y.cls z.2.2.2 nm ∈ gG ∧ (E, nm) ∈ gk_nc) (hx1 : x.1 ≤ pc) (hx2 : pc < x.2.1) (hx0 : x.2.2.2 ≠ 0) (hlink : Cond.classLink M.y.cls x.2.2.2 name ∈ gG) (hcast : Cond.castable E name ∈ gN)
    (hins : (ins = .astore i9 ∧ len9 = 2) ∨ (∃ f9 : Fin 4, ins = .astore_n f9 ∧ (f9 : Nat) = i9 ∧ len9 = 1)) (hi9 : i9 < M.nL) (hokL : gk_okL L = true) (hL9 : ∀ q : Nat, L[q]? = some none ∨ L[q]? = none ∨ q < i9)
    (hd' : d' + 1 ≤ d) (hst : st.all gk_okv = true) (hsum : (st.map fun v => v.category).sum ≤ 8) (hn : as.length = n) (hw1 : Cond.methodLink M.y.cls idx N.y ∈ gG)
    (hd : decode M.cc pc = .ok (.invokevirtual idx, 3)) (hdh : decode M.cc x.2.2.1 = .ok (ins, len9)) (kk : EvW X M d 0 0 (x.2.2.1 + len9) [] [] S' R) : EvW X M d k j pc L (as.reverse ++ .ref b :: st) S R := by
  obtain ⟨h1, h2, h3, h4, h5, h6, h7, h8, h9⟩ := hN
  exact ev_catV (k := 0) (j := 0) h hb h1 h2 h3 hM hpre hx1 hx2 hx0 hlink hcast hins hi9 hokL hL9 hd' h4 hst hsum hn hw1 h5 h6 h7 h8 h9 hd hdh kk
end QV2
def m_L_law : gk_M := (yL_law, cL_law, 7, some .boolean, [])
