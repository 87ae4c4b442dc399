/-! CONTRACTS AND CALLS -/
/-- the words of a method -/
def gk_w (M : gk_M) : List Cond := (if M.hh = [] then Cond.code M.y M.cc M.nL M.rt else Cond.codeWith M.y M.cc M.nL M.rt M.hh) :: gG
def gk_rm (d k j : Nat) : Room := { frames := d, cells := k, slots := j, locals := 64 * d }
def gk_Pre (X : gk_X) (S : gk_S) (U : State) : Prop := gk_H X S U.heap ∧ va_K X.D vwCl (gk_tys X) U ∧ gk_St X U U.heap ∧ X.B ≤ U.heap.size ∧ X.l.stackTraces = false
/-- the method, called with these arguments on this heap, comes to its end with R -/
def EvM (X : gk_X) (M : gk_M) (d k j : Nat) (as : List Value) (S : gk_S) (R : gk_R) : Prop := vx_Met X.l M.y (gk_w M) (gk_rm d k j) (va_Pc (as.map (gk_v X)) (gk_Pre X S)) (gk_QR X R) (gk_XR X R) k j X.A
theorem gk_blind (X : gk_X) (S : gk_S) (as : List Value) : FrameBlind (va_Pc as (gk_Pre X S)) := by
  rintro a U g mk ⟨h1, h2, h3, h4, h5, h6⟩
  exact ⟨h1, h2, va_K.moved (u := U) (U := U.calling g mk a) (Vm.Alike.refl U.vm) h3, gk_St.same (s := U) (U := U.calling g mk a) rfl h4, h5, h6⟩
theorem gk_GoodIn {ws : List Cond} (h : ∀ w ∈ ws, w ∈ gG) : GoodIn gG ws := fun w hw => ⟨h w hw, good_of_word (gG_good (h w hw))⟩
/-- the locals at the entry -/
def gk_ea : List Value → List (Option Value)
  | [] => []
  | v :: vs => if v.category = 2 then some v :: none :: gk_ea vs else some v :: gk_ea vs
def gk_entry (n : Nat) (as : List Value) : List (Option Value) := gk_ea as ++ List.replicate (n - (gk_ea as).length) none
/-- a value that may be on the stack -/
def gk_okv : Value → Bool
  | .int _ => true
  | .long _ => true
  | .ref _ => true
  | .null => true
  | .retAddr c => gk_isR (.retAddr c)
  | _ => false
theorem gk_okv_cat {X : gk_X} {s : State} {H : Heap} (h : gk_St X s H) {v : Value} (hv : gk_okv v = true) : (gk_v X v).category = v.category :=
  gk_cat X fun c e => by
    subst e
    exact gk_catR (gk_isR_spec h (v := .retAddr c) hv)
theorem gk_sum {X : gk_X} {s : State} {H : Heap} (h : gk_St X s H) {st : List Value} (hv : st.all gk_okv = true) : ((st.map (gk_v X)).map fun v => v.category).sum = (st.map fun v => v.category).sum := by
  rw [List.map_map]
  congr 1
  exact List.map_congr_left fun v hm => gk_okv_cat h (List.all_eq_true.mp hv v hm)
theorem gk_entry_mem {X : gk_X} {s : State} {H : Heap} (h : gk_St X s H) : ∀ (as : List Value) (i0 i : Nat) (v : Value), as.all gk_okv = true → (gk_ea as)[i]? = some (some v) → (i0 + i, gk_v X v) ∈ lv_args i0 (as.map (gk_v X))
  | [], i0, i, v, _, h1 => by simp [gk_ea] at h1
  | w :: ws, i0, i, v, hok, h1 => by
    simp only [List.all_cons, Bool.and_eq_true] at hok
    have hc := gk_okv_cat h hok.1
    show (i0 + i, gk_v X v) ∈ (i0, gk_v X w) :: lv_args (if (gk_v X w).category = 2 then i0 + 2 else i0 + 1) (ws.map (gk_v X))
    rw [hc]
    unfold gk_ea at h1
    by_cases h2 : w.category = 2
    · rw [if_pos h2] at h1 ⊢
      match i, h1 with
      | 0, h1 =>
        simp only [List.getElem?_cons_zero, Option.some.injEq] at h1
        subst h1
        exact List.mem_cons_self
      | 1, h1 => simp at h1
      | i + 2, h1 =>
        simp only [List.getElem?_cons_succ] at h1
        have := gk_entry_mem h ws (i0 + 2) i v hok.2 h1
        rw [show i0 + (i + 2) = i0 + 2 + i by omega]
        exact List.mem_cons_of_mem _ this
    · rw [if_neg h2] at h1 ⊢
      match i, h1 with
      | 0, h1 =>
        simp only [List.getElem?_cons_zero, Option.some.injEq] at h1
        subst h1
        exact List.mem_cons_self
      | i + 1, h1 =>
        simp only [List.getElem?_cons_succ] at h1
        have := gk_entry_mem h ws (i0 + 1) i v hok.2 h1
        rw [show i0 + (i + 1) = i0 + 1 + i by omega]
        exact List.mem_cons_of_mem _ this
theorem gk_ea_len {X : gk_X} {s : State} {H : Heap} (h : gk_St X s H) : ∀ (as : List Value), as.all gk_okv = true → (lg_sl (as.map (gk_v X))).length = (gk_ea as).length
  | [], _ => rfl
  | w :: ws, hok => by
    simp only [List.all_cons, Bool.and_eq_true] at hok
    have hc := gk_okv_cat h hok.1
    have ih := gk_ea_len h ws hok.2
    unfold lg_sl at ih ⊢
    rw [List.map_cons, List.flatMap_cons, List.length_append, ih, gk_ea, hc]
    by_cases h2 : w.category = 2
    · rw [if_pos h2, if_pos h2]; simp; omega
    · rw [if_neg h2, if_neg h2]; simp; omega
theorem gk_entry_has {X : gk_X} {s : State} {H : Heap} (h : gk_St X s H) {as : List Value} {n : Nat} (hok : as.all gk_okv = true) (hn : (gk_ea as).length ≤ n) : lv_has ((lg_sl (as.map (gk_v X)) ++ List.replicate (n - (lg_sl (as.map (gk_v X))).length) Slot.unset).toArray) n (gk_la X (gk_entry n as)) := by
  refine lv_mono (lv_entry (as.map (gk_v X)) (n := n) (by rw [gk_ea_len h as hok]; exact hn)) fun q hq => ?_
  obtain ⟨v, hv, e⟩ := gk_la_inv hq
  unfold gk_entry at hv
  by_cases hl : q.1 < (gk_ea as).length
  · rw [List.getElem?_append_left hl] at hv
    have := gk_entry_mem h as 0 q.1 v hok hv
    rw [Nat.zero_add, ← e] at this
    exact this
  · rw [List.getElem?_append_right (by omega)] at hv
    have := List.eq_of_mem_replicate (List.mem_of_getElem? hv)
    cases this
/-- a method's contract out of its walk -/
theorem ev_method {X : gk_X} {M : gk_M} {d k j : Nat} {as : List Value} {S : gk_S} {R : gk_R} (hy : plainName M.y.cls = true) (hh : M.hh = []) (hok : as.all gk_okv = true) (hn : (gk_ea as).length ≤ M.nL) (h : EvW X M d k j 0 (gk_entry M.nL as) [] S R) : EvM X M d k j as S R := by
  refine vx_ofW (cc := M.cc) (maxL := M.nL) (ret := M.rt) (ws' := gG) hy (by unfold gk_w; rw [if_pos hh]) ?_
  intro p e s m args below meth c s₁ B hml ht hv
  obtain ⟨rfl, hH, hK, hSt, hB, htr⟩ := hv
  have hC : gk_C X M p s m (as.map (gk_v X)).toArray meth c := ⟨B.exec, B.bytes, B.returns, hml, findClass_of_methodNamed B.named, fun w hw => atoms_spec (ws := gk_w M) B.pre w (List.mem_cons_of_mem _ hw), B.notSynchronized, by rw [hh]; exact List.eq_nil_iff_forall_not_mem.mpr fun x hx => ht x hx, (name_of_methodNamed B.named B.method).1, hK, hSt, hB, htr⟩
  rw [lg_entry_eq]
  exact h p e (gk_rm d k j) s m _ below meth c s.heap [] 0 0 k j _ hC ⟨Nat.le_refl _, Nat.le_refl _⟩ hH va_S.rf ⟨by omega, by omega, Nat.le_refl _, Nat.le_refl _⟩ (gk_entry_has hSt hok hn)
theorem ev_methodH {X : gk_X} {M : gk_M} {d k j : Nat} {as : List Value} {S : gk_S} {R : gk_R} (hy : plainName M.y.cls = true) (hh : M.hh ≠ []) (hok : as.all gk_okv = true) (hn : (gk_ea as).length ≤ M.nL) (h : EvW X M d k j 0 (gk_entry M.nL as) [] S R) : EvM X M d k j as S R := by
  have hw : gk_w M = Cond.codeWith M.y M.cc M.nL M.rt M.hh :: gG := by unfold gk_w; rw [if_neg hh]
  refine vx_ofWH (cc := M.cc) (maxL := M.nL) (ret := M.rt) (hh := M.hh) (ws' := gG) hy hw ?_
  intro p e s m args below meth c s₁ B hml hv
  obtain ⟨rfl, hH, hK, hSt, hB, htr⟩ := hv
  have htab := vx_table (x := M.y) B (atoms_spec (ws := gk_w M) B.pre _ (by rw [hw]; exact List.mem_cons_self))
  have hC : gk_C X M p s m (as.map (gk_v X)).toArray meth c := ⟨B.exec, B.bytes, B.returns, hml, findClass_of_methodNamed B.named, fun w hw => atoms_spec (ws := gk_w M) B.pre w (List.mem_cons_of_mem _ hw), B.notSynchronized, htab, (name_of_methodNamed B.named B.method).1, hK, hSt, hB, htr⟩
  rw [lg_entry_eq]
  exact h p e (gk_rm d k j) s m _ below meth c s.heap [] 0 0 k j _ hC ⟨Nat.le_refl _, Nat.le_refl _⟩ hH va_S.rf ⟨by omega, by omega, Nat.le_refl _, Nat.le_refl _⟩ (gk_entry_has hSt hok hn)
/-- a contract of a method that returns, as the kit's calls take it -/
theorem EvM.met {X : gk_X} {M : gk_M} {d k j : Nat} {as : List Value} {S S' : gk_S} {v : Option Value} (h : EvM X M d k j as S (.inl v, S')) : Met X.l M.y (gk_w M) (gk_rm d k j) (va_Pc (as.map (gk_v X)) (gk_Pre X S)) (gk_QR X (.inl v, S')) k j X.A := by
  intro p e h1 h2 h3 s m args below h4 h5 h6 h7
  obtain ⟨n, o, q1, q2, q3, q4⟩ := h p e h1 h2 h3 s m args below h4 h5 h6 h7
  refine ⟨n, o, q1, q2, q3, ?_⟩
  rcases q4 with q4 | ⟨q, -, E, ce, L, ⟨e1, -⟩, -⟩
  · exact q4
  · cases e1
section EVCALL
variable {X : gk_X} {M N : gk_M} {d k j d' k' j' pc : Nat} {L : List (Option Value)} {st as : List Value} {S S' : gk_S} {R : gk_R} {v : Option Value}
/-- behind a call that returns -/
theorem gk_back {p : Program} {e : Env} {Rm : Room} {s : State} {m : MethodId} {args : Array Value} {below : List Frame} {meth : Method} {c : Code} {H : Heap} {locs : List Loc} {cells slots mc ms : Nat} {ls : Array Slot} {st0 : List Value} {a : Array Value} {Q : State → Prop}
    (hr : va_Run p X.l e Rm s m args below meth c H locs cells slots mc ms (F0 m pc ls st0) (st.map (gk_v X)) (gk_QR X (.inl v, S') a) X.A) (hS : va_S X.A s.heap H locs)
    (kk : ∀ (H1 : Heap) (locs1 : List Loc), gk_H X S' H1 → va_S X.A s.heap H1 locs1 → W p X.l e Rm s m args below meth c H1 locs1 (cells + mc) (slots + ms) Q (F0 m (pc + 3) ls ((v.toList ++ st).map (gk_v X)))) : W p X.l e Rm s m args below meth c H locs cells slots Q (F0 m pc ls st0) := by
  intro T hT X9
  obtain ⟨v9, st₀, t, T', L9, h0, X', hL, e1, e2, ⟨w, hw, ho, hH, hF⟩, st9⟩ := hr T hT X9
  cases hw
  cases ho
  obtain ⟨k1, k2, k3⟩ := vx_keep h0 e1 hS (fun _ _ h => h) (fun _ h => h) hL hF
  obtain ⟨t2, a1, b1⟩ := kk T'.heap (locs ++ L9) (by rw [e1]; exact hH) k3 T' rfl X'
  refine ⟨t2, st9 t2 ?_, b1⟩
  have : (v.map (gk_v X)).toList ++ st.map (gk_v X) = (v.toList ++ st).map (gk_v X) := by cases v <;> simp
  rw [this]
  exact a1
/-- invokevirtual on an object of the world -/
theorem ev_callV {ci b idx n : Nat} (h : EvM X N d' k' j' (.ref b :: as) S (.inl v, S')) (hb : gk_is S b ci) (hc : ci < 10) (hcl : N.y.cls = (gk_q ci).1) (hh : N.hh = []) (hd' : d' + 1 ≤ d) (hnL : N.nL ≤ 45) (hst : st.all gk_okv = true) (hsum : (st.map fun v => v.category).sum ≤ 8) (hn : as.length = n)
    (hw1 : Cond.methodLink M.y.cls idx N.y ∈ gG) (hw2 : Cond.instanceMethod N.y ∈ gG) (hw3 : Cond.selects N.y.cls N.y N.y ∈ gG) (hw4 : Cond.initialized N.y.cls ∈ gG) (hw5 : Cond.code N.y N.cc N.nL N.rt ∈ gG)
    (hdesc : N.y.cls ≠ "java/lang/invoke/MethodHandle" ∧ N.y.cls ≠ "java/lang/invoke/VarHandle" ∧ (parseMethodDescriptor N.y.desc).map (fun d => d.parameters.length) = some n)
    (hd : decode M.cc pc = .ok (.invokevirtual idx, 3)) (kk : EvW X M d k j (pc + 3) L (v.toList ++ st) S' R) : EvW X M d (k' + k) (j' + j) pc L (as.reverse ++ .ref b :: st) S R := by
  intro p e Rm s m args below meth c H locs cells slots mc ms ls C r hH hS hc9 hl
  have hts := C.2.2.2.2.2.1
  have hK := C.2.2.2.2.2.2.2.2.2.1
  have hSt := C.2.2.2.2.2.2.2.2.2.2.1
  have hw : gk_w N = Cond.code N.y N.cc N.nL N.rt :: gG := by unfold gk_w; rw [if_pos hh]
  have hG : GoodIn gG (wsV M.y.cls idx N.y.cls N.y (gk_w N)) := gk_GoodIn fun w h9 => by
    unfold wsV at h9
    rw [hw] at h9
    simp only [List.mem_append, List.mem_cons, List.not_mem_nil, or_false] at h9
    rcases h9 with (rfl | rfl | rfl | rfl) | rfl | h9
    · exact hw1
    · exact hw2
    · exact hw3
    · exact hw4
    · exact hw5
    · exact h9
  have hstk : (as.reverse ++ .ref b :: st).map (gk_v X) = (as.map (gk_v X)).reverse ++ .ref (X.B + b) :: st.map (gk_v X) := by simp [gk_v]
  have he : (gk_ws X S)[b]? = some (X.B + b, .inr (ci, gk_fl X S ci b)) := by rw [gk_ws_at X S hb.1, gk_en_obj hb.2 hc]
  rw [hstk]
  refine gk_back (va_runV (As := as.map (gk_v X)) (rest := st.map (gk_v X)) (n := n) ⟨C.1, C.2.1, C.2.2.2.1, C.2.2.2.2.1, hts⟩ h.met (cwV n hts hG hw rfl rfl ⟨rfl, hdesc⟩ ⟨by show d' + 1 ≤ Rm.frames; omega, by show 8 + (N.nL + 11) + 64 * d' ≤ Rm.locals; omega⟩) ⟨gk_blind X S _, by rw [hcl]; exact va_recv hK hH.1 (gk_cq hc) he, fun U hU hW => ⟨rfl, by rw [hU]; exact hH, va_K.moved hW.alike hK, by rw [hU]; exact (hSt.kept C.2.2.2.2.2.2.2.2.2.2.2.1 hS.2.1).warm hW, by rw [hU]; exact Nat.le_trans C.2.2.2.2.2.2.2.2.2.2.2.1 hS.1, C.2.2.2.2.2.2.2.2.2.2.2.2⟩⟩ rfl (by rw [List.length_map]; exact hn) hl.1 rfl (lv_room (by rw [gk_sum hSt hst]; exact hsum)) hd ⟨by omega, by omega⟩) hS fun H1 locs1 hH1 hS1 => ?_
  exact kk p e Rm s m args below meth c H1 locs1 (cells + k') (slots + j') mc ms ls C r hH1 hS1 ⟨by omega, by omega, hc9.2.2⟩ hl
/-- invokestatic -/
theorem ev_callS {idx n : Nat} (h : EvM X N d' k' j' as S (.inl v, S')) (hh : N.hh = []) (hd' : d' + 1 ≤ d) (hnL : N.nL ≤ 45) (hst : st.all gk_okv = true) (hsum : (st.map fun v => v.category).sum ≤ 8) (hn : as.length = n)
    (hw1 : Cond.methodLink M.y.cls idx N.y ∈ gG) (hw2 : Cond.static N.y ∈ gG) (hw4 : Cond.initialized N.y.cls ∈ gG) (hw5 : Cond.code N.y N.cc N.nL N.rt ∈ gG)
    (hdesc : N.y.cls ≠ "java/lang/invoke/MethodHandle" ∧ N.y.cls ≠ "java/lang/invoke/VarHandle" ∧ (parseMethodDescriptor N.y.desc).map (fun d => d.parameters.length) = some n)
    (hd : decode M.cc pc = .ok (.invokestatic idx, 3)) (kk : EvW X M d k j (pc + 3) L (v.toList ++ st) S' R) : EvW X M d (k' + k) (j' + j) pc L (as.reverse ++ st) S R := by
  intro p e Rm s m args below meth c H locs cells slots mc ms ls C r hH hS hc9 hl
  have hts := C.2.2.2.2.2.1
  have hK := C.2.2.2.2.2.2.2.2.2.1
  have hSt := C.2.2.2.2.2.2.2.2.2.2.1
  have hw : gk_w N = Cond.code N.y N.cc N.nL N.rt :: gG := by unfold gk_w; rw [if_pos hh]
  have hG : GoodIn gG (gk_w N) := gk_GoodIn fun w h9 => by
    rw [hw] at h9
    rcases List.mem_cons.mp h9 with rfl | h9
    · exact hw5
    · exact h9
  have hstk : (as.reverse ++ st).map (gk_v X) = (as.map (gk_v X)).reverse ++ st.map (gk_v X) := by simp
  rw [hstk]
  refine gk_back (va_runS (As := as.map (gk_v X)) (rest := st.map (gk_v X)) (n := n) ⟨C.1, C.2.1, C.2.2.2.1, C.2.2.2.2.1, hts⟩ h.met ⟨callB_of n hts hG hw rfl rfl (hts _ hw4) (hts _ hw1) hdesc ⟨by show d' + 1 ≤ Rm.frames; omega, by show 8 + (N.nL + 11) + 64 * d' ≤ Rm.locals; omega⟩, hts _ hw2⟩ ⟨gk_blind X S _, fun U hU hW => ⟨rfl, by rw [hU]; exact hH, va_K.moved hW.alike hK, by rw [hU]; exact (hSt.kept C.2.2.2.2.2.2.2.2.2.2.2.1 hS.2.1).warm hW, by rw [hU]; exact Nat.le_trans C.2.2.2.2.2.2.2.2.2.2.2.1 hS.1, C.2.2.2.2.2.2.2.2.2.2.2.2⟩⟩ rfl (by rw [List.length_map]; exact hn) hl.1 rfl (lv_room (by rw [gk_sum hSt hst]; exact hsum)) hd ⟨by omega, by omega⟩) hS fun H1 locs1 hH1 hS1 => ?_
  exact kk p e Rm s m args below meth c H1 locs1 (cells + k') (slots + j') mc ms ls C r hH1 hS1 ⟨by omega, by omega, hc9.2.2⟩ hl
/-- invokestatic of a nest mate's private method -/
theorem ev_callSN {idx n : Nat} {host : String} (h : EvM X N d' k' j' as S (.inl v, S')) (hh : N.hh = []) (hd' : d' + 1 ≤ d) (hnL : N.nL ≤ 45) (hst : st.all gk_okv = true) (hsum : (st.map fun v => v.category).sum ≤ 8) (hn : as.length = n)
    (hw1 : Cond.methodLinkNest M.y.cls idx N.y host ∈ gN) (hw2 : Cond.static N.y ∈ gG) (hw4 : Cond.initialized N.y.cls ∈ gG) (hw5 : Cond.code N.y N.cc N.nL N.rt ∈ gG)
    (hdesc : N.y.cls ≠ "java/lang/invoke/MethodHandle" ∧ N.y.cls ≠ "java/lang/invoke/VarHandle" ∧ (parseMethodDescriptor N.y.desc).map (fun d => d.parameters.length) = some n)
    (hd : decode M.cc pc = .ok (.invokestatic idx, 3)) (kk : EvW X M d k j (pc + 3) L (v.toList ++ st) S' R) : EvW X M d (k' + k) (j' + j) pc L (as.reverse ++ st) S R := by
  intro p e Rm s m args below meth c H locs cells slots mc ms ls C r hH hS hc9 hl
  have hts := C.2.2.2.2.2.1
  have hK := C.2.2.2.2.2.2.2.2.2.1
  have hSt := C.2.2.2.2.2.2.2.2.2.2.1
  have hNw : va_Nw (Cond.methodLinkNest M.y.cls idx N.y host) s := by
    obtain ⟨-, -, -, -, -, -, -, -, -, -, hN, -⟩ := hSt
    exact hN _ hw1
  have hw : gk_w N = Cond.code N.y N.cc N.nL N.rt :: gG := by unfold gk_w; rw [if_pos hh]
  have hG : GoodIn gG (gk_w N) := gk_GoodIn fun w h9 => by
    rw [hw] at h9
    rcases List.mem_cons.mp h9 with rfl | h9
    · exact hw5
    · exact h9
  have hstk : (as.reverse ++ st).map (gk_v X) = (as.map (gk_v X)).reverse ++ st.map (gk_v X) := by simp
  rw [hstk]
  refine gk_back (va_runSN (As := as.map (gk_v X)) (rest := st.map (gk_v X)) (n := n) ⟨C.1, C.2.1, C.2.2.2.1, C.2.2.2.2.1, hts⟩ h.met ⟨va_cnB n hts hG hw rfl rfl hNw (hts _ hw4) hdesc ⟨by show d' + 1 ≤ Rm.frames; omega, by show 8 + (N.nL + 11) + 64 * d' ≤ Rm.locals; omega⟩, hts _ hw2, trivial⟩ ⟨gk_blind X S _, fun U hU hW => ⟨rfl, by rw [hU]; exact hH, va_K.moved hW.alike hK, by rw [hU]; exact (hSt.kept C.2.2.2.2.2.2.2.2.2.2.2.1 hS.2.1).warm hW, by rw [hU]; exact Nat.le_trans C.2.2.2.2.2.2.2.2.2.2.2.1 hS.1, C.2.2.2.2.2.2.2.2.2.2.2.2⟩⟩ rfl (by rw [List.length_map]; exact hn) hl.1 rfl (lv_room (by rw [gk_sum hSt hst]; exact hsum)) hd ⟨by omega, by omega⟩) hS fun H1 locs1 hH1 hS1 => ?_
  exact kk p e Rm s m args below meth c H1 locs1 (cells + k') (slots + j') mc ms ls C r hH1 hS1 ⟨by omega, by omega, hc9.2.2⟩ hl
/-- invokespecial of a constructor -/
theorem ev_callI {b idx n : Nat} (h : EvM X N d' k' j' (.ref b :: as) S (.inl v, S')) (hh : N.hh = []) (hrt : N.rt = none) (hname : N.y.name = "<init>") (hd' : d' + 1 ≤ d) (hnL : N.nL ≤ 45) (hst : st.all gk_okv = true) (hsum : (st.map fun v => v.category).sum ≤ 8) (hn : as.length = n)
    (hw1 : Cond.methodLink M.y.cls idx N.y ∈ gG) (hw2 : Cond.instanceMethod N.y ∈ gG) (hw4 : Cond.initialized N.y.cls ∈ gG) (hw5 : Cond.code N.y N.cc N.nL N.rt ∈ gG)
    (hdesc : N.y.cls ≠ "java/lang/invoke/MethodHandle" ∧ N.y.cls ≠ "java/lang/invoke/VarHandle" ∧ (parseMethodDescriptor N.y.desc).map (fun d => d.parameters.length) = some n)
    (hd : decode M.cc pc = .ok (.invokespecial idx, 3)) (kk : EvW X M d k j (pc + 3) L (v.toList ++ st) S' R) : EvW X M d (k' + k) (j' + j) pc L (as.reverse ++ .ref b :: st) S R := by
  intro p e Rm s m args below meth c H locs cells slots mc ms ls C r hH hS hc9 hl
  have hts := C.2.2.2.2.2.1
  have hK := C.2.2.2.2.2.2.2.2.2.1
  have hSt := C.2.2.2.2.2.2.2.2.2.2.1
  rw [hrt] at hw5
  have hw : gk_w N = Cond.code N.y N.cc N.nL none :: gG := by unfold gk_w; rw [if_pos hh, hrt]
  have hG : GoodIn gG (gk_w N) := gk_GoodIn fun w h9 => by
    rw [hw] at h9
    rcases List.mem_cons.mp h9 with rfl | h9
    · exact hw5
    · exact h9
  have hstk : (as.reverse ++ .ref b :: st).map (gk_v X) = (as.map (gk_v X)).reverse ++ .ref (X.B + b) :: st.map (gk_v X) := by simp [gk_v]
  rw [hstk]
  refine gk_back (va_runI (As := as.map (gk_v X)) (rest := st.map (gk_v X)) (n := n) ⟨C.1, C.2.1, C.2.2.2.1, C.2.2.2.2.1, hts⟩ h.met (cwI n hts hG hw rfl rfl (hts _ hw4) (hts _ hw1) (hts _ hw2) hname hdesc ⟨by show d' + 1 ≤ Rm.frames; omega, by show 8 + (N.nL + 11) + 64 * d' ≤ Rm.locals; omega⟩) ⟨gk_blind X S _, fun U hU hW => ⟨rfl, by rw [hU]; exact hH, va_K.moved hW.alike hK, by rw [hU]; exact (hSt.kept C.2.2.2.2.2.2.2.2.2.2.2.1 hS.2.1).warm hW, by rw [hU]; exact Nat.le_trans C.2.2.2.2.2.2.2.2.2.2.2.1 hS.1, C.2.2.2.2.2.2.2.2.2.2.2.2⟩⟩ rfl (by rw [List.length_map]; exact hn) hl.1 rfl (lv_room (by rw [gk_sum hSt hst]; exact hsum)) hd ⟨by omega, by omega⟩) hS fun H1 locs1 hH1 hS1 => ?_
  exact kk p e Rm s m args below meth c H1 locs1 (cells + k') (slots + j') mc ms ls C r hH1 hS1 ⟨by omega, by omega, hc9.2.2⟩ hl
end EVCALL
