section EVMN
variable {X : gk_X} {M : gk_M} {d k j pc : Nat} {L : List (Option Value)} {st : List Value} {S : gk_S} {R : gk_R}
theorem ev_mna {ok ik N K idx : Nat} {n kk9 : Int32} {ty : FieldType} (ht : gk_t S = true) (ho : (ok = 17 ∧ ik = 11 ∧ ty = .int) ∨ (ok = 18 ∧ ik = 12 ∧ ty = .long)) (hw1 : Cond.classLink M.y.cls idx ("[" ++ (FieldType.array ty).toString) ∈ gG) (hw2 : Cond.arrayClass ty ∈ gG) (hn : ¬ n < 0) (hk : ¬ kk9 < 0) (hN : n.toNatClampNeg = N) (hKK : kk9.toNatClampNeg = K) (hb : N ≤ 1000 ∧ K ≤ 1000) (hd : decode M.cc pc = .ok (.multianewarray idx 2, 4)) (kk : EvW X M d k j (pc + 4) L (.ref (gk_n S) :: st) (gk_mn S ok ik N K) R) : EvW X M d (k + (1 + N)) (j + (N + N * K)) pc L (.int kk9 :: .int n :: st) S R := by
  intro p e Rm s m args below meth c H locs cells slots mc ms ls C r hH hS hc9 hl
  have hts := C.2.2.2.2.2.1
  have hKs := C.2.2.2.2.2.2.2.2.2.1
  obtain ⟨e1, e0⟩ := hH.2 ht
  have hover : va_AOA ty s := by
    obtain ⟨-, -, -, -, -, -, -, -, -, ⟨-, -, -, a4, a5⟩, -⟩ := C.2.2.2.2.2.2.2.2.2.2.1
    rcases ho with ⟨-, -, rfl⟩ | ⟨-, -, rfl⟩
    · exact a4
    · exact a5
  have hcomp : componentBytes ty ≤ 8 := by rcases ho with ⟨-, -, rfl⟩ | ⟨-, -, rfl⟩ <;> decide
  subst hN
  subst hKK
  intro T hT Xs
  obtain ⟨vm₁, cA, comp, -, fA, fC, hO, -, X', step⟩ := Xs.multianewarray2F C.1 C.2.2.2.2.1 (hts _ hw1) (va_AOA.use hover) (hts _ hw2) (g := F0 m pc ls (.int kk9 :: .int n :: st.map (gk_v X))) rfl (by rw [C.2.1]; exact hd) rfl hn hk (by omega) (Nat.le_trans (Nat.mul_le_mul hb.2 hcomp) (by decide)) (by omega) (by rcases ho with ⟨-, -, rfl⟩ | ⟨-, -, rfl⟩ <;> decide) (by rcases ho with ⟨-, -, rfl⟩ | ⟨-, -, rfl⟩ <;> decide) (by omega) (by omega)
  have hcA : cA = X.cy ok := by
    rcases ho with ⟨rfl, -, rfl⟩ | ⟨rfl, -, rfl⟩
    · exact Option.some.inj (fA.symm.trans (hKs.2 7 _ rfl).2)
    · exact Option.some.inj (fA.symm.trans (hKs.2 8 _ rfl).2)
  have hcC : comp = X.cy ik := by
    rcases ho with ⟨-, rfl, rfl⟩ | ⟨-, rfl, rfl⟩
    · exact Option.some.inj (fC.symm.trans (hKs.2 1 _ rfl).2)
    · exact Option.some.inj (fC.symm.trans (hKs.2 2 _ rfl).2)
  subst hcA
  subst hcC
  generalize hF : Jvm.Free.Multi.fill (T.setVm vm₁) (X.cy ok) (X.cy ik) n.toNatClampNeg kk9.toNatClampNeg (defaultValue ty) n.toNatClampNeg = F at X' step
  have hTh : (T.setVm vm₁).heap = H := hT
  obtain ⟨f1, f2, -, -⟩ := Jvm.Free.Multi.fill_facts (T.setVm vm₁) (X.cy ok) (X.cy ik) n.toNatClampNeg kk9.toNatClampNeg (defaultValue ty) n.toNatClampNeg
  rw [hF, hTh] at f1 f2
  have hold : ∀ x : Nat, x < H.size → F.heap[x]? = H[x]? := fun x hx => by
    have := Jvm.Free.Multi.fill_old (T.setVm vm₁) (X.cy ok) (X.cy ik) n.toNatClampNeg kk9.toNatClampNeg (defaultValue ty) (a := x) (by rw [hTh]; exact hx) n.toNatClampNeg
    rw [hF, hTh] at this
    exact this
  have hrow : ∀ j : Nat, j < n.toNatClampNeg → F.heap[H.size + 1 + j]? = some (Jvm.Free.Multi.innerC (X.cy ik) kk9.toNatClampNeg (defaultValue ty)) := fun j hj => by
    have := Jvm.Free.Multi.fill_inner (T.setVm vm₁) (X.cy ok) (X.cy ik) n.toNatClampNeg kk9.toNatClampNeg (defaultValue ty) n.toNatClampNeg j hj
    rw [hF, hTh] at this
    exact this
  rw [vr_outer] at f2
  obtain ⟨q1, q2, q3, q4, q5, q6⟩ := nKs_f (nK S ok n.toNatClampNeg) ik kk9.toNatClampNeg n.toNatClampNeg
  have hnT : gk_n (gk_mn S ok ik n.toNatClampNeg kk9.toNatClampNeg) = gk_n S + 1 + n.toNatClampNeg := nKs_n (nK S ok n.toNatClampNeg) ik kk9.toNatClampNeg n.toNatClampNeg
  have hKT : ∀ a, gk_K (gk_mn S ok ik n.toNatClampNeg kk9.toNatClampNeg) a = if gk_n S + 1 ≤ a ∧ a < gk_n S + 1 + n.toNatClampNeg then ik else if a = gk_n S then ok else gk_K S a := fun a => nKs_K (nK S ok n.toNatClampNeg) ik kk9.toNatClampNeg n.toNatClampNeg a
  have hLT : ∀ a, gL (gk_mn S ok ik n.toNatClampNeg kk9.toNatClampNeg) a = if gk_n S + 1 ≤ a ∧ a < gk_n S + 1 + n.toNatClampNeg then kk9.toNatClampNeg else if a = gk_n S then n.toNatClampNeg else gL S a := fun a => nKs_L (nK S ok n.toNatClampNeg) ik kk9.toNatClampNeg n.toNatClampNeg a
  have hxP : ∀ a, xP (gk_mn S ok ik n.toNatClampNeg kk9.toNatClampNeg) a = if a = gk_n S then (fun i => if i < n.toNatClampNeg then some (gk_n S + 1 + i) else none) else xP S a := fun a => by
    show xP (rP (nKs (nK S ok n.toNatClampNeg) ik kk9.toNatClampNeg n.toNatClampNeg) (gk_n S) _) a = _
    rw [xP_rP, q6]
    rfl
  have hxI : xI (gk_mn S ok ik n.toNatClampNeg kk9.toNatClampNeg) = xI S := q4
  have hxJ : xJ (gk_mn S ok ik n.toNatClampNeg kk9.toNatClampNeg) = xJ S := q5
  have hgI : gI (gk_mn S ok ik n.toNatClampNeg kk9.toNatClampNeg) = gI S := q1
  have hgJ : gJ (gk_mn S ok ik n.toNatClampNeg kk9.toNatClampNeg) = gJ S := q2
  have hgP : gP (gk_mn S ok ik n.toNatClampNeg kk9.toNatClampNeg) = gP S := q3
  have hH1 : gk_H X (gk_mn S ok ik n.toNatClampNeg kk9.toNatClampNeg) F.heap := by
    refine ⟨fun a q ha => ?_, fun _ => ⟨by rw [f1, e1, hnT]; omega, fun a ha => ?_⟩⟩
    · obtain ⟨hl9, rfl⟩ := gk_ws_inv ha
      rw [hnT] at hl9
      by_cases h1 : a < gk_n S
      · have he : gk_en X (gk_mn S ok ik n.toNatClampNeg kk9.toNatClampNeg) a = gk_en X S a := by
          refine gk_en_same ?_ (fun _ => by rw [hgI]) (fun _ => by rw [hgJ]) (fun _ => by rw [hgP]) ?_ (by rw [hxI]) (by rw [hxJ]) ?_
          · rw [hKT, if_neg (by omega), if_neg (by omega)]
          · rw [hLT, if_neg (by omega), if_neg (by omega)]
          · rw [hxP, if_neg (by omega)]
        rw [he]
        exact (hH.1 a _ (gk_ws_at X S h1)).kept (hold _ (by omega))
      · by_cases h2 : a = gk_n S
        · subst h2
          have hk0 : gk_K (gk_mn S ok ik n.toNatClampNeg kk9.toNatClampNeg) (gk_n S) = ok := by rw [hKT, if_neg (by omega), if_pos rfl]
          have hL0 : gL (gk_mn S ok ik n.toNatClampNeg kk9.toNatClampNeg) (gk_n S) = n.toNatClampNeg := by rw [hLT, if_neg (by omega), if_pos rfl]
          rw [gk_en_P hk0 (by rcases ho with ⟨rfl, -⟩ | ⟨rfl, -⟩ <;> omega), hL0]
          show F.heap[X.B + gk_n S]? = some (vp_cell _ _)
          rw [← e1, f2, vp_cell_q]
          congr 2
          funext i
          rw [hxP, if_pos rfl]
          by_cases hi : i < n.toNatClampNeg
          · simp only [hi, if_true]
            show va_rf (some (H.size + 1 + i)) = va_rf (some (X.B + (gk_n S + 1 + i)))
            rw [e1]
            congr 2
            omega
          · simp only [hi, if_false]
            rfl
        · obtain ⟨i, rfl⟩ : ∃ i, a = gk_n S + 1 + i := ⟨a - gk_n S - 1, by omega⟩
          have hk0 : gk_K (gk_mn S ok ik n.toNatClampNeg kk9.toNatClampNeg) (gk_n S + 1 + i) = ik := by rw [hKT, if_pos (by omega)]
          have hL0 : gL (gk_mn S ok ik n.toNatClampNeg kk9.toNatClampNeg) (gk_n S + 1 + i) = kk9.toNatClampNeg := by rw [hLT, if_pos (by omega)]
          have hr := hrow i (by omega)
          have hz := (e0 (gk_n S + 1 + i) (by omega)).2
          have ea : X.B + (gk_n S + 1 + i) = H.size + 1 + i := by rw [e1]; omega
          rcases ho with ⟨-, rfl, rfl⟩ | ⟨-, rfl, rfl⟩
          · rw [gk_en_I hk0 (by omega), hL0, hxI]
            show F.heap[X.B + (gk_n S + 1 + i)]? = some (vp_cell _ _)
            rw [ea, hr, vp_cell_i, show xI S (gk_n S + 1 + i) = (fun _ => 0) from funext fun i9 => (hz i9).1, ← arrV_new]
            rfl
          · rw [gk_en_J hk0, hL0, hxJ]
            show F.heap[X.B + (gk_n S + 1 + i)]? = some (vp_cell _ _)
            rw [ea, hr, vp_cell_l, show xJ S (gk_n S + 1 + i) = (fun _ => 0) from funext fun i9 => (hz i9).2.1, ← arrV_new]
            rfl
    · rw [hnT] at ha
      have h9 := e0 a (by omega)
      refine ⟨fun f => by rw [hgI, hgJ, hgP]; exact h9.1 f, fun i => ⟨by rw [hxI]; exact (h9.2 i).1, by rw [hxJ]; exact (h9.2 i).2.1, ?_⟩⟩
      rw [hxP, if_neg (by omega)]
      exact (h9.2 i).2.2
  have h5 := kk p e Rm s m args below meth c F.heap locs (cells + 1 + n.toNatClampNeg) (slots + n.toNatClampNeg + n.toNatClampNeg * kk9.toNatClampNeg) mc ms ls C r hH1 ⟨Nat.le_trans hS.1 (by rw [f1]; omega), fun x g1 g2 => (hold x (Nat.lt_of_lt_of_le g1 hS.1)).trans (hS.2.1 x g1 g2), hS.2.2⟩ ⟨by omega, by omega, hc9.2.2⟩ hl
  obtain ⟨t, a1, b1⟩ := h5 F rfl X'
  refine ⟨t, step t ?_, b1⟩
  have e2 : gk_v X (.ref (gk_n S)) = .ref T.heap.size := by rw [hT, e1]; rfl
  rw [List.map_cons, e2] at a1
  exact a1
end EVMN
