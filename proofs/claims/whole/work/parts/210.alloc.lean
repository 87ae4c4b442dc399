/-! ROWS THAT MAKE CELLS; CONSTANTS -/
theorem gk_H.push {X : gk_X} {S T : gk_S} {e : va_E} {H H1 : Heap} (h : gk_H X S H) (ht : gk_t S = true) (hn : gk_n T = gk_n S + 1) (he : gk_en X T (gk_n S) = e) (ho : ∀ a, a < gk_n S → gk_en X T a = gk_en X S a) (h0 : gk_0 T) (hv : va_at X.D vwCl (H.size, e) H1) (hz : H1.size = H.size + 1) (oq : ∀ q : Nat, q < H.size → H1[q]? = H[q]?) : gk_H X T H1 := by
  obtain ⟨e1, -⟩ := h.2 ht
  refine ⟨?_, fun _ => ⟨by rw [hz, e1, hn]; omega, h0⟩⟩
  rw [← gk_ws_new hn he ho]
  refine va_P.app (h.1.kept fun k q hk => oq q.1 ((h.1 k q hk).lt)) fun k q hk => ?_
  have hz0 : k < 1 := (List.getElem?_eq_some_iff.mp hk).1
  rw [show k = 0 by omega] at hk
  cases hk
  rw [← e1]
  exact hv
theorem gk_0_nK {S : gk_S} {kd len : Nat} (h : gk_0 S) : gk_0 (nK S kd len) := fun a ha => h a (by have h9 : gk_n S + 1 ≤ a := ha; omega)
theorem gk_en_nK {X : gk_X} {S : gk_S} {kd len a : Nat} (ha : a < gk_n S) : gk_en X (nK S kd len) a = gk_en X S a := by
  refine gk_en_same ?_ (fun _ => rfl) (fun _ => rfl) (fun _ => rfl) ?_ rfl rfl rfl
  · rw [gk_K_nK, if_neg (by omega)]
  · rw [gL_nK, if_neg (by omega)]
theorem gk_S_new {X : gk_X} {H0 H H1 : Heap} {locs : List Loc} (hS : va_S X.A H0 H locs) (hz : H1.size = H.size + 1) (oq : ∀ q : Nat, q < H.size → H1[q]? = H[q]?) : va_S X.A H0 H1 locs := ⟨Nat.le_trans hS.1 (by omega), fun x h1 h2 => (oq x (Nat.lt_of_lt_of_le h1 hS.1)).trans (hS.2.1 x h1 h2), hS.2.2⟩
def gk_okT (t : FieldType) : Bool := match t with
  | .float => false
  | .double => false
  | _ => true
theorem gk_okT_0 : ∀ f, f < 9 → gk_okT (tyX0 f) = true := by decide +kernel
theorem gk_okT_1 : ∀ f, f < 2 → gk_okT (tyX2 f) = true := by decide +kernel
theorem gk_okT_2 : ∀ f, f < 2 → gk_okT (tyX3 f) = true := by decide +kernel
theorem gk_okT_3 : ∀ f, f < 5 → gk_okT (tyX5 f) = true := by decide +kernel
theorem gk_okT_4 : ∀ f, f < 4 → gk_okT (tyX6 f) = true := by decide +kernel
theorem gk_okT_5 : ∀ f, f < 9 → gk_okT (tyX7 f) = true := by decide +kernel
theorem gk_okT_6 : ∀ f, f < 6 → gk_okT (tyX8 f) = true := by decide +kernel
theorem gk_okT_7 : ∀ f, f < 11 → gk_okT (tyX9 f) = true := by decide +kernel
theorem gk_okT_8 : ∀ f, f < 14 → gk_okT (tyX11 f) = true := by decide +kernel
theorem gk_okT_9 : ∀ f, f < 42 → gk_okT (tyX12 f) = true := by decide +kernel
theorem gk_okT_all {ci : Nat} (h : ci < 10) : ∀ f, f < (gk_q ci).2.2 → gk_okT (gk_ty ci f) = true := by
  rcases gk_lt10 h with rfl | rfl | rfl | rfl | rfl | rfl | rfl | rfl | rfl | rfl
  · exact gk_okT_0
  · exact gk_okT_1
  · exact gk_okT_2
  · exact gk_okT_3
  · exact gk_okT_4
  · exact gk_okT_5
  · exact gk_okT_6
  · exact gk_okT_7
  · exact gk_okT_8
  · exact gk_okT_9
section EVA
variable {X : gk_X} {M : gk_M} {d k j pc : Nat} {L : List (Option Value)} {st : List Value} {S : gk_S} {R : gk_R}
theorem ev_new {ci idx : Nat} (ht : gk_t S = true) (hc : ci < 10) (hw1 : Cond.classLink M.y.cls idx (gk_q ci).1 ∈ gG) (hw2 : Cond.instantiable (gk_q ci).1 (gk_q ci).2.2 ∈ gG) (hw3 : Cond.initialized (gk_q ci).1 ∈ gG) (hd : decode M.cc pc = .ok (.new idx, 3)) (kk : EvW X M d k j (pc + 3) L (.ref (gk_n S) :: st) (nK S ci 0) R) : EvW X M d (k + 1) (j + (gk_q ci).2.2) pc L st S R := by
  intro p e Rm s m args below meth c H locs cells slots mc ms ls C r hH hS hc9 hl
  have hts := C.2.2.2.2.2.1
  have hK := C.2.2.2.2.2.2.2.2.2.1
  have hKn := hK.1 ci _ (gk_cq hc)
  obtain ⟨e1, e0⟩ := hH.2 ht
  refine W.newcK C.1 C.2.1 C.2.2.2.2.1 (hts _ hw1) (hts _ hw2) (hts _ hw3) rfl hd (by omega) (by omega) hKn.2.1 rfl fun H1 kC hkC g1 z1 o1 => ?_
  have hH1 : gk_H X (nK S ci 0) H1 := by
    refine hH.push ht rfl rfl (fun a ha => gk_en_nK ha) (gk_0_nK e0) ?_ z1 o1
    rw [gk_en_obj (S := nK S ci 0) (ci := ci) (by rw [gk_K_nK, if_pos rfl]) hc]
    refine ⟨_, gk_cq hc, (u_born (gk_ty ci) hts (gk_in hc) hKn hkC g1 (gk_tyok hc)).to fun f hf => ?_⟩
    have h9 := (e0 (gk_n S) (Nat.le_refl _)).1 (100 * ci + f)
    show defaultValue (gk_ty ci f) = (gk_fl X (nK S ci 0) ci (gk_n S)).getD f .null
    rw [List.getD_eq_getElem?_getD, gk_fl_at hf]
    show defaultValue (gk_ty ci f) = gk_fv X (nK S ci 0) (gk_ty ci f) (100 * ci + f) (gk_n S)
    have hok := gk_okT_all hc f hf
    generalize gk_ty ci f = t9 at hok ⊢
    cases t9 <;> simp only [gk_fv, gI_nK, gJ_nK, gP_nK, h9.1, h9.2.1, h9.2.2] <;> first | rfl | cases hok
  have := kk p e Rm s m args below meth c H1 locs (cells + 1) (slots + (gk_q ci).2.2) mc ms ls C r hH1 (gk_S_new hS z1 o1) ⟨by omega, by omega, hc9.2.2⟩ hl
  rw [List.map_cons] at this
  have e2 : gk_v X (.ref (gk_n S)) = .ref H.size := by rw [e1]; rfl
  rw [e2] at this
  exact this
theorem gk_row0 {S : gk_S} (e0 : gk_0 S) : xI S (gk_n S) = (fun _ => 0) ∧ xJ S (gk_n S) = (fun _ => 0) ∧ xP S (gk_n S) = (fun _ => none) := by
  have h := (e0 (gk_n S) (Nat.le_refl _)).2
  exact ⟨funext fun i => (h i).1, funext fun i => (h i).2.1, funext fun i => (h i).2.2⟩
/-- new byte[], int[], boolean[], long[] -/
theorem ev_newa {kd N : Nat} {n : Int32} {atype : ArrayType} (ht : gk_t S = true) (hk : (kd = 10 ∧ atype = .byte) ∨ (kd = 11 ∧ atype = .int) ∨ (kd = 12 ∧ atype = .long) ∨ (kd = 13 ∧ atype = .boolean)) (hw : Cond.arrayClass (newarray.typeOf atype) ∈ gG) (hn : ¬ n < 0) (hN : n.toNatClampNeg = N) (hb : N ≤ 100000) (hd : decode M.cc pc = .ok (.newarray atype, 2)) (kk : EvW X M d k j (pc + 2) L (.ref (gk_n S) :: st) (nK S kd N) R) : EvW X M d (k + 1) (j + N) pc L (.int n :: st) S R := by
  intro p e Rm s m args below meth c H locs cells slots mc ms ls C r hH hS hc9 hl
  have hts := C.2.2.2.2.2.1
  have hK := C.2.2.2.2.2.2.2.2.2.1
  obtain ⟨e1, e0⟩ := hH.2 ht
  obtain ⟨r1, r2, -⟩ := gk_row0 e0
  have hbytes : N * componentBytes (newarray.typeOf atype) ≤ 536870912 := by
    have : componentBytes (newarray.typeOf atype) ≤ 8 := by cases atype <;> decide
    calc N * componentBytes (newarray.typeOf atype) ≤ 100000 * 8 := Nat.mul_le_mul hb this
      _ ≤ 536870912 := by decide
  refine va_newaK C.1 C.2.1 (hts _ hw) rfl hd rfl hn hN hbytes (by omega) (by omega) rfl fun H1 cA g1 z1 o1 hAr hNm => ?_
  have hH1 : gk_H X (nK S kd N) H1 := by
    refine hH.push ht rfl rfl (fun a ha => gk_en_nK ha) (gk_0_nK e0) ?_ z1 o1
    have eL : gL (nK S kd N) (gk_n S) = N := by rw [gL_nK, if_pos rfl]
    have eK : gk_K (nK S kd N) (gk_n S) = kd := by rw [gk_K_nK, if_pos rfl]
    rcases hk with ⟨rfl, rfl⟩ | ⟨rfl, rfl⟩ | ⟨rfl, rfl⟩ | ⟨rfl, rfl⟩
    · rw [gk_en_I eK (by omega), eL, xI_nK, r1]
      have hcy : cA = X.cy 10 := Option.some.inj (hNm.symm.trans (hK.2 0 _ rfl).2)
      rw [← hcy]
      exact g1
    · rw [gk_en_I eK (by omega), eL, xI_nK, r1]
      have hcy : cA = X.cy 11 := Option.some.inj (hNm.symm.trans (hK.2 1 _ rfl).2)
      rw [← hcy]
      exact g1
    · rw [gk_en_J eK, eL, xJ_nK, r2]
      have hcy : cA = X.cy 12 := Option.some.inj (hNm.symm.trans (hK.2 2 _ rfl).2)
      rw [← hcy]
      exact g1
    · rw [gk_en_I eK (by omega), eL, xI_nK, r1]
      have hcy : cA = X.cy 13 := Option.some.inj (hNm.symm.trans (hK.2 3 _ rfl).2)
      rw [← hcy]
      exact g1
  have := kk p e Rm s m args below meth c H1 locs (cells + 1) (slots + N) mc ms ls C r hH1 (gk_S_new hS z1 o1) ⟨by omega, by omega, hc9.2.2⟩ hl
  rw [List.map_cons] at this
  have e2 : gk_v X (.ref (gk_n S)) = .ref H.size := by rw [e1]; rfl
  rw [e2] at this
  exact this
/-- new Connection[], Rule[], RuleList[] -/
theorem ev_newq {kd N idx : Nat} {n : Int32} (ht : gk_t S = true) (hk : 14 ≤ kd ∧ kd ≤ 16) (hw : Cond.classLink M.y.cls idx (gk_q (gk_cA kd)).1 ∈ gG) (hn : ¬ n < 0) (hN : n.toNatClampNeg = N) (hb : N ≤ 100000) (hd : decode M.cc pc = .ok (.anewarray idx, 3)) (kk : EvW X M d k j (pc + 3) L (.ref (gk_n S) :: st) (nK S kd N) R) : EvW X M d (k + 1) (j + N) pc L (.int n :: st) S R := by
  intro p e Rm s m args below meth c H locs cells slots mc ms ls C r hH hS hc9 hl
  have hts := C.2.2.2.2.2.1
  have hK := C.2.2.2.2.2.2.2.2.2.1
  obtain ⟨e1, e0⟩ := hH.2 ht
  obtain ⟨-, -, r3⟩ := gk_row0 e0
  have hover : va_AO (gk_q (gk_cA kd)).1 s := by
    obtain ⟨-, -, -, -, -, -, -, -, -, ⟨a1, a2, a3, -⟩, -⟩ := C.2.2.2.2.2.2.2.2.2.2.1
    rcases (show kd = 14 ∨ kd = 15 ∨ kd = 16 by omega) with rfl | rfl | rfl
    · exact a1
    · exact a2
    · exact a3
  subst hN
  refine W.anew C.1 C.2.1 C.2.2.2.2.1 (hts _ hw) (va_AO.use hover) rfl hd rfl hn (by omega) (by omega) (by omega) fun cA kA comp f1 f2 f3 f4 => ?_
  generalize hH1 : H.push ({ cls := cA, slots := Array.replicate n.toNatClampNeg .null, vm := .none } : Cell) = H1
  have z1 : H1.size = H.size + 1 := by rw [← hH1, Array.size_push]
  have g1 : H1[H.size]? = some (arrV cA n.toNatClampNeg (fun _ => .null)) := by rw [← hH1, Array.getElem?_push_size, ← arrV_new]
  have o1 : ∀ q : Nat, q < H.size → H1[q]? = H[q]? := fun q hq => by rw [← hH1, Array.getElem?_push, if_neg (Nat.ne_of_lt hq)]
  have hcy : cA = X.cy kd := by
    rcases (show kd = 14 ∨ kd = 15 ∨ kd = 16 by omega) with rfl | rfl | rfl
    · obtain ⟨_, _, -, -, -, q4⟩ := (hK.2 4 _ rfl).2
      exact Option.some.inj (f1.symm.trans q4)
    · obtain ⟨_, _, -, -, -, q4⟩ := (hK.2 5 _ rfl).2
      exact Option.some.inj (f1.symm.trans q4)
    · obtain ⟨_, _, -, -, -, q4⟩ := (hK.2 6 _ rfl).2
      exact Option.some.inj (f1.symm.trans q4)
  have hHH : gk_H X (nK S kd n.toNatClampNeg) H1 := by
    refine hH.push ht rfl rfl (fun a ha => gk_en_nK ha) (gk_0_nK e0) ?_ z1 o1
    have eL : gL (nK S kd n.toNatClampNeg) (gk_n S) = n.toNatClampNeg := by rw [gL_nK, if_pos rfl]
    have eK : gk_K (nK S kd n.toNatClampNeg) (gk_n S) = kd := by rw [gk_K_nK, if_pos rfl]
    rw [gk_en_P eK hk.1, eL, xP_nK, r3, ← hcy]
    exact g1
  have := kk p e Rm s m args below meth c H1 locs (cells + 1) (slots + n.toNatClampNeg) mc ms ls C r hHH (gk_S_new hS z1 o1) ⟨by omega, by omega, hc9.2.2⟩ hl
  rw [List.map_cons] at this
  have e2 : gk_v X (.ref (gk_n S)) = .ref H.size := by rw [e1]; rfl
  rw [e2] at this
  exact this
/-- the constructor of Object -/
theorem ev_objInit {a idx : Nat} (hw1 : Cond.methodLink M.y.cls idx Lib.objectInit ∈ gG) (hw2 : Cond.instanceMethod Lib.objectInit ∈ gG) (hw3 : Cond.code Lib.objectInit ⟨#[0xb1]⟩ 1 none ∈ gG) (hr : (st.map fun v => v.category).sum ≤ 8) (hok : ∀ v ∈ st, (∃ x, v = .int x) ∨ gk_isR v = true) (hd1 : 1 ≤ d) (hd : decode M.cc pc = .ok (.invokespecial idx, 3)) (kk : EvW X M d k j (pc + 3) L st S R) : EvW X M d k j pc L (.ref a :: st) S R := by
  intro p e Rm s m args below meth c H locs cells slots mc ms ls C r hH hS hc hl
  have hts := C.2.2.2.2.2.1
  have hsum : ((st.map (gk_v X)).map fun v => v.category).sum = (st.map fun v => v.category).sum := by
    rw [List.map_map]
    congr 1
    apply List.map_congr_left
    intro v hv
    rcases hok v hv with ⟨x, rfl⟩ | h
    · rfl
    · refine gk_cat X fun c9 h9 => ?_
      subst h9
      exact gk_catR (gk_isR_spec C.2.2.2.2.2.2.2.2.2.2.1 h)
  refine W.objInit C.1 C.2.1 C.2.2.2.2.1 (hts _ hw1) (hts _ hw2) (hts _ hw3) rfl (by rw [C.2.2.2.1]; exact hl.1) rfl hd (by omega) ?_ (kk p e Rm s m args below meth c H locs cells slots mc ms ls C r hH hS hc hl)
  show 2 * 0 + ((st.map (gk_v X)).map fun v => v.category).sum + 12 ≤ Rm.locals
  rw [hsum]
  omega
end EVA
