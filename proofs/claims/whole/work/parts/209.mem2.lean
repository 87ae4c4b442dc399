section EVM2
variable {X : gk_X} {M : gk_M} {d k j pc : Nat} {L : List (Option Value)} {st : List Value} {S : gk_S} {R : gk_R}
theorem ev_putI {ci f a idx : Nat} {v : Int32} (hs : gk_is S a ci) (hc : ci < 10) (hf : f < (gk_q ci).2.2) (ht : gk_tI (gk_ty ci f) = true) (hfin : ((gk_q ci).2.1 f).2.2.2 = false) (hn : narrow (gk_ty ci f) (.int v) = .int v) (hfit : fits (gk_ty ci f) (.int v) = true) (hw : Cond.fieldLink M.y.cls idx ((gk_q ci).2.1 f).1 ((gk_q ci).2.1 f).2.1 ((gk_q ci).2.1 f).2.2.1 ∈ gG) (hd : decode M.cc pc = .ok (.putfield idx, 3)) (kk : EvW X M d k j (pc + 3) L st (sI S (100 * ci + f) a v) R) : EvW X M d k j pc L (.int v :: .ref a :: st) S R :=
  ev_put (v := .int v) hs hc hf hfin hn hfit (gk_ch_sI hs hc hf ht) hw hd kk
theorem ev_putJ {ci f a idx : Nat} {v : Int64} (hs : gk_is S a ci) (hc : ci < 10) (hf : f < (gk_q ci).2.2) (ht : gk_ty ci f = .long) (hfin : ((gk_q ci).2.1 f).2.2.2 = false) (hw : Cond.fieldLink M.y.cls idx ((gk_q ci).2.1 f).1 ((gk_q ci).2.1 f).2.1 ((gk_q ci).2.1 f).2.2.1 ∈ gG) (hd : decode M.cc pc = .ok (.putfield idx, 3)) (kk : EvW X M d k j (pc + 3) L st (sJ S (100 * ci + f) a v) R) : EvW X M d k j pc L (.long v :: .ref a :: st) S R :=
  ev_put (v := .long v) hs hc hf hfin (by rw [ht]; rfl) (by rw [ht]; rfl) (gk_ch_sJ hs hc hf ht) hw hd kk
theorem gk_nP {t : FieldType} (h : gk_tP t = true) (a : Nat) : narrow t (.ref a) = .ref a ∧ fits t (.ref a) = true := by
  cases t <;> first | exact ⟨rfl, rfl⟩ | cases h
theorem ev_putP {ci f a b idx : Nat} (hs : gk_is S a ci) (hc : ci < 10) (hf : f < (gk_q ci).2.2) (ht : gk_tP (gk_ty ci f) = true) (hfin : ((gk_q ci).2.1 f).2.2.2 = false) (hw : Cond.fieldLink M.y.cls idx ((gk_q ci).2.1 f).1 ((gk_q ci).2.1 f).2.1 ((gk_q ci).2.1 f).2.2.1 ∈ gG) (hd : decode M.cc pc = .ok (.putfield idx, 3)) (kk : EvW X M d k j (pc + 3) L st (sP S (100 * ci + f) a (some b)) R) : EvW X M d k j pc L (.ref b :: .ref a :: st) S R :=
  ev_put (v := .ref b) hs hc hf hfin (gk_nP ht _).1 (gk_nP ht _).2 (gk_ch_sP hs hc hf ht) hw hd kk
theorem ev_putPF {ci f a b idx : Nat} (hs : gk_is S a ci) (hc : ci < 10) (hf : f < (gk_q ci).2.2) (ht : gk_tP (gk_ty ci f) = true) (hfin : ((gk_q ci).2.1 f).2.2.2 = true) (hin2 : M.y.name = "<init>") (hdecl : ((gk_q ci).2.1 f).1 = M.y.cls) (hw : Cond.fieldLink M.y.cls idx ((gk_q ci).2.1 f).1 ((gk_q ci).2.1 f).2.1 ((gk_q ci).2.1 f).2.2.1 ∈ gG) (hd : decode M.cc pc = .ok (.putfield idx, 3)) (kk : EvW X M d k j (pc + 3) L st (sP S (100 * ci + f) a (some b)) R) : EvW X M d k j pc L (.ref b :: .ref a :: st) S R :=
  ev_putF (v := .ref b) hs hc hf hfin hin2 hdecl (gk_nP ht _).1 (gk_nP ht _).2 (gk_ch_sP hs hc hf ht) hw hd kk
theorem gk_wI {a kd : Nat} (hs : gk_is S a kd) (hk : kd = 10 ∨ kd = 11 ∨ kd = 13) : (gk_ws X S)[a]? = some (X.B + a, .inl (X.cy kd, (gL S a, .inl (xI S a)))) := by rw [gk_ws_at X S hs.1, gk_en_I hs.2 hk]
theorem gk_wJ {a : Nat} (hs : gk_is S a 12) : (gk_ws X S)[a]? = some (X.B + a, .inl (X.cy 12, (gL S a, .inr (.inl (xJ S a))))) := by rw [gk_ws_at X S hs.1, gk_en_J hs.2]
theorem gk_wP {a kd : Nat} (hs : gk_is S a kd) (hk : 14 ≤ kd) : (gk_ws X S)[a]? = some (X.B + a, .inl (X.cy kd, (gL S a, .inr (.inr (.inr (.inr (fun i => gk_rf X (xP S a i)))))))) := by rw [gk_ws_at X S hs.1, gk_en_P hs.2 hk]
theorem ev_iald {a : Nat} {i : Int32} (hs : gk_is S a 11) (hin : vp_in i (gL S a)) (hd : decode M.cc pc = .ok (.iaload, 1)) (kk : EvW X M d k j (pc + 1) L (.int (xI S a i.toNatClampNeg) :: st) S R) : EvW X M d k j pc L (.int i :: .ref a :: st) S R :=
  fun p e Rm s m args below meth c H locs cells slots mc ms ls C r hH hS hc hl => va_iald C.1 C.2.1 C.2.2.2.2.2.2.2.2.2.1 hH.1 a 1 (gk_wI hs (by omega)) rfl hin hd (kk p e Rm s m args below meth c H locs cells slots mc ms ls C r hH hS hc hl)
theorem ev_bald {a : Nat} {i : Int32} (hs : gk_is S a 10) (hin : vp_in i (gL S a)) (hd : decode M.cc pc = .ok (.baload, 1)) (kk : EvW X M d k j (pc + 1) L (.int (xI S a i.toNatClampNeg) :: st) S R) : EvW X M d k j pc L (.int i :: .ref a :: st) S R :=
  fun p e Rm s m args below meth c H locs cells slots mc ms ls C r hH hS hc hl => va_bald C.1 C.2.1 C.2.2.2.2.2.2.2.2.2.1 hH.1 a 0 (gk_wI hs (by omega)) rfl hin hd (kk p e Rm s m args below meth c H locs cells slots mc ms ls C r hH hS hc hl)
theorem ev_zald {a : Nat} {i : Int32} (hs : gk_is S a 13) (hin : vp_in i (gL S a)) (hd : decode M.cc pc = .ok (.baload, 1)) (kk : EvW X M d k j (pc + 1) L (.int (xI S a i.toNatClampNeg) :: st) S R) : EvW X M d k j pc L (.int i :: .ref a :: st) S R :=
  fun p e Rm s m args below meth c H locs cells slots mc ms ls C r hH hS hc hl => va_zald C.1 C.2.1 C.2.2.2.2.2.2.2.2.2.1 hH.1 a 3 (gk_wI hs (by omega)) rfl hin hd (kk p e Rm s m args below meth c H locs cells slots mc ms ls C r hH hS hc hl)
theorem ev_lald {a : Nat} {i : Int32} (hs : gk_is S a 12) (hin : vp_in i (gL S a)) (hd : decode M.cc pc = .ok (.laload, 1)) (kk : EvW X M d k j (pc + 1) L (.long (xJ S a i.toNatClampNeg) :: st) S R) : EvW X M d k j pc L (.int i :: .ref a :: st) S R :=
  fun p e Rm s m args below meth c H locs cells slots mc ms ls C r hH hS hc hl => va_lald C.1 C.2.1 C.2.2.2.2.2.2.2.2.2.1 hH.1 a 2 (gk_wJ hs) rfl hin hd (kk p e Rm s m args below meth c H locs cells slots mc ms ls C r hH hS hc hl)
theorem ev_aald {a b kd : Nat} {i : Int32} (hs : gk_is S a kd) (hk : 14 ≤ kd ∧ kd ≤ 18) (hin : vp_in i (gL S a)) (hb : xP S a i.toNatClampNeg = some b) (hd : decode M.cc pc = .ok (.aaload, 1)) (kk : EvW X M d k j (pc + 1) L (.ref b :: st) S R) : EvW X M d k j pc L (.int i :: .ref a :: st) S R := by
  intro p e Rm s m args below meth c H locs cells slots mc ms ls C r hH hS hc hl
  have h1 := kk p e Rm s m args below meth c H locs cells slots mc ms ls C r hH hS hc hl
  have hlt : i.toNatClampNeg < gL S a := Nat.not_le.mp fun q => hin (Or.inr q)
  have hP := hH.1 a _ (gk_wP hs hk.1)
  have hK := C.2.2.2.2.2.2.2.2.2.1
  have hv : va_rf (gk_rf X (xP S a i.toNatClampNeg)) = .ref (X.B + b) := by rw [hb]; rfl
  obtain ⟨ty, t0, ht, hty⟩ : ∃ (ty : FieldType) (t0 : Nat), (gk_tys X)[t0]? = some (X.cy kd, ty) ∧ ty.isReference = true := by
    rcases (show kd = 14 ∨ kd = 15 ∨ kd = 16 ∨ kd = 17 ∨ kd = 18 by omega) with rfl | rfl | rfl | rfl | rfl
    · exact ⟨_, 4, rfl, rfl⟩
    · exact ⟨_, 5, rfl, rfl⟩
    · exact ⟨_, 6, rfl, rfl⟩
    · exact ⟨_, 7, rfl, rfl⟩
    · exact ⟨_, 8, rfl, rfl⟩
  refine W.aald (v := .ref (X.B + b)) (ty := ty) C.1 C.2.1 hP ((hK.2 t0 _ ht).1 (gL S a) (fun i9 => va_rf (gk_rf X (xP S a i9)))) hty (fun q => by cases q) (by show ¬ (i < 0 ∨ (arrV _ _ _).slots.size ≤ _); rw [arrV_size]; exact hin) (by show (arrV _ _ _).slots[_]? = _; rw [arrV_read _ _ hlt, hv]) rfl rfl hd h1
theorem ev_alen {a kd : Nat} (hs : gk_is S a kd) (hk : 10 ≤ kd ∧ kd ≤ 18) (hd : decode M.cc pc = .ok (.arraylength, 1)) (kk : EvW X M d k j (pc + 1) L (.int (Int32.ofNat (gL S a)) :: st) S R) : EvW X M d k j pc L (.ref a :: st) S R := by
  intro p e Rm s m args below meth c H locs cells slots mc ms ls C r hH hS hc hl
  have h1 := kk p e Rm s m args below meth c H locs cells slots mc ms ls C r hH hS hc hl
  have hK := C.2.2.2.2.2.2.2.2.2.1
  by_cases e1 : kd = 12
  · subst e1
    exact va_alen C.1 C.2.1 hK hH.1 a 2 (gk_wJ hs) rfl rfl hd h1
  · by_cases e2 : 14 ≤ kd
    · rcases (show kd = 14 ∨ kd = 15 ∨ kd = 16 ∨ kd = 17 ∨ kd = 18 by omega) with rfl | rfl | rfl | rfl | rfl
      · exact va_alen C.1 C.2.1 hK hH.1 a 4 (gk_wP hs e2) rfl rfl hd h1
      · exact va_alen C.1 C.2.1 hK hH.1 a 5 (gk_wP hs e2) rfl rfl hd h1
      · exact va_alen C.1 C.2.1 hK hH.1 a 6 (gk_wP hs e2) rfl rfl hd h1
      · exact va_alen C.1 C.2.1 hK hH.1 a 7 (gk_wP hs e2) rfl rfl hd h1
      · exact va_alen C.1 C.2.1 hK hH.1 a 8 (gk_wP hs e2) rfl rfl hd h1
    · rcases (show kd = 10 ∨ kd = 11 ∨ kd = 13 by omega) with rfl | rfl | rfl
      · exact va_alen C.1 C.2.1 hK hH.1 a 0 (gk_wI hs (by omega)) rfl rfl hd h1
      · exact va_alen C.1 C.2.1 hK hH.1 a 1 (gk_wI hs (by omega)) rfl rfl hd h1
      · exact va_alen C.1 C.2.1 hK hH.1 a 3 (gk_wI hs (by omega)) rfl rfl hd h1
theorem ev_iast {a : Nat} {i x : Int32} (hs : gk_is S a 11) (hin : vp_in i (gL S a)) (hd : decode M.cc pc = .ok (.iastore, 1)) (kk : EvW X M d k j (pc + 1) L st (rI S a (upd (xI S a) i.toNatClampNeg x)) R) : EvW X M d k j pc L (.int x :: .int i :: .ref a :: st) S R := by
  intro p e Rm s m args below meth c H locs cells slots mc ms ls C r hH hS hc hl
  refine W.iast C.1 C.2.1 (hH.1 a _ (gk_wI hs (by omega))) ((C.2.2.2.2.2.2.2.2.2.1.2 1 _ rfl).1 (gL S a) (fun i9 => .int (xI S a i9))) (fun q => by cases q) (by show ¬ (i < 0 ∨ (arrV _ _ _).slots.size ≤ _); rw [arrV_size]; exact hin) rfl rfl hd fun H1 e9 z oq => ?_
  refine kk p e Rm s m args below meth c H1 _ cells slots mc ms ls C r (hH.set (gk_ch_rI hs (by omega)) hs.1 ?_ z oq) (hS.put z oq (Nat.le_add_right _ _)) hc hl
  show H1[X.B + a]? = some (vp_cell _ _)
  rw [e9]
  rw [vp_cell_i, vp_cell_i, arrV_store]
  congr 2
  funext q
  by_cases hq : q = i.toNatClampNeg
  · subst hq
    simp [updV, upd]
  · simp [updV, upd, hq]
theorem ev_bast {a : Nat} {i x : Int32} (hs : gk_is S a 10) (hin : vp_in i (gL S a)) (hd : decode M.cc pc = .ok (.bastore, 1)) (kk : EvW X M d k j (pc + 1) L st (rI S a (upd (xI S a) i.toNatClampNeg x.toInt8.toInt32)) R) : EvW X M d k j pc L (.int x :: .int i :: .ref a :: st) S R := by
  intro p e Rm s m args below meth c H locs cells slots mc ms ls C r hH hS hc hl
  refine W.bast C.1 C.2.1 (hH.1 a _ (gk_wI hs (by omega))) ((C.2.2.2.2.2.2.2.2.2.1.2 0 _ rfl).1 (gL S a) (fun i9 => .int (xI S a i9))) (fun q => by cases q) (by show ¬ (i < 0 ∨ (arrV _ _ _).slots.size ≤ _); rw [arrV_size]; exact hin) rfl rfl hd fun H1 e9 z oq => ?_
  refine kk p e Rm s m args below meth c H1 _ cells slots mc ms ls C r (hH.set (gk_ch_rI hs (by omega)) hs.1 ?_ z oq) (hS.put z oq (Nat.le_add_right _ _)) hc hl
  show H1[X.B + a]? = some (vp_cell _ _)
  rw [e9]
  rw [vp_cell_i, vp_cell_i, arrV_store]
  congr 2
  funext q
  by_cases hq : q = i.toNatClampNeg
  · subst hq
    rw [← vp_nar_byte]
    simp [updV, upd, vp_nar]
    try rfl
  · simp [updV, upd, hq]
theorem ev_zast {a : Nat} {i x : Int32} (hs : gk_is S a 13) (hx : x = 0 ∨ x = 1) (hin : vp_in i (gL S a)) (hd : decode M.cc pc = .ok (.bastore, 1)) (kk : EvW X M d k j (pc + 1) L st (rI S a (upd (xI S a) i.toNatClampNeg x)) R) : EvW X M d k j pc L (.int x :: .int i :: .ref a :: st) S R := by
  intro p e Rm s m args below meth c H locs cells slots mc ms ls C r hH hS hc hl
  refine W.zast C.1 C.2.1 (hH.1 a _ (gk_wI hs (by omega))) ((C.2.2.2.2.2.2.2.2.2.1.2 3 _ rfl).1 (gL S a) (fun i9 => .int (xI S a i9))) (fun q => by cases q) (by show ¬ (i < 0 ∨ (arrV _ _ _).slots.size ≤ _); rw [arrV_size]; exact hin) rfl rfl hd fun H1 e9 z oq => ?_
  refine kk p e Rm s m args below meth c H1 _ cells slots mc ms ls C r (hH.set (gk_ch_rI hs (by omega)) hs.1 ?_ z oq) (hS.put z oq (Nat.le_add_right _ _)) hc hl
  show H1[X.B + a]? = some (vp_cell _ _)
  rw [e9]
  rw [vp_cell_i, vp_cell_i, arrV_store]
  congr 2
  funext q
  by_cases hq : q = i.toNatClampNeg
  · subst hq
    rcases hx with rfl | rfl
    · simp [updV, upd, narrow]
    · simp [updV, upd, narrow]
  · simp [updV, upd, hq]
theorem ev_last {a : Nat} {i : Int32} {x : Int64} (hs : gk_is S a 12) (hin : vp_in i (gL S a)) (hd : decode M.cc pc = .ok (.lastore, 1)) (kk : EvW X M d k j (pc + 1) L st (rJ S a (vp_updL (xJ S a) i.toNatClampNeg x)) R) : EvW X M d k j pc L (.long x :: .int i :: .ref a :: st) S R := by
  intro p e Rm s m args below meth c H locs cells slots mc ms ls C r hH hS hc hl
  refine W.last C.1 C.2.1 (hH.1 a _ (gk_wJ hs)) ((C.2.2.2.2.2.2.2.2.2.1.2 2 _ rfl).1 (gL S a) (fun i9 => .long (xJ S a i9))) (fun q => by cases q) (by show ¬ (i < 0 ∨ (arrV _ _ _).slots.size ≤ _); rw [arrV_size]; exact hin) rfl rfl hd fun H1 e9 z oq => ?_
  refine kk p e Rm s m args below meth c H1 _ cells slots mc ms ls C r (hH.set (gk_ch_rJ hs) hs.1 ?_ z oq) (hS.put z oq (Nat.le_add_right _ _)) hc hl
  show H1[X.B + a]? = some (vp_cell _ _)
  rw [e9]
  rw [vp_cell_l, vp_cell_l, arrV_store]
  congr 2
  funext q
  by_cases hq : q = i.toNatClampNeg
  · subst hq
    simp [updV, vp_updL]
  · simp [updV, vp_updL, hq]
/-- the class that an array of references holds -/
def gk_cA (kd : Nat) : Nat := if kd = 14 then 0 else if kd = 15 then 3 else 4
theorem ev_aast {a b kd : Nat} {i : Int32} (hs : gk_is S a kd) (hk : 14 ≤ kd ∧ kd ≤ 16) (hb : gk_is S b (gk_cA kd)) (hin : vp_in i (gL S a)) (hd : decode M.cc pc = .ok (.aastore, 1)) (kk : EvW X M d k j (pc + 1) L st (rP S a (va_up (xP S a) i.toNatClampNeg (some b))) R) : EvW X M d k j pc L (.ref b :: .int i :: .ref a :: st) S R := by
  intro p e Rm s m args below meth c H locs cells slots mc ms ls C r hH hS hc hl
  have hlt : i.toNatClampNeg < gL S a := Nat.not_le.mp fun q => hin (Or.inr q)
  have h0 : ¬ i < 0 := fun q => hin (Or.inl q)
  have hK := C.2.2.2.2.2.2.2.2.2.1
  have hcl : gk_cA kd < 10 := by unfold gk_cA; split <;> (try split) <;> omega
  have hv : (gk_ws X S)[b]? = some (X.B + b, .inr (gk_cA kd, gk_fl X S (gk_cA kd) b)) := by rw [gk_ws_at X S hb.1, gk_en_obj hb.2 hcl]
  obtain ⟨r', hr', cellV, g1, g2, g3, -⟩ := hH.1 b _ hv
  have hcls := (hK.1 (gk_cA kd) _ (gk_cq hcl)).2
  obtain ⟨t0, ht⟩ : ∃ t0 : Nat, (gk_tys X)[t0]? = some (X.cy kd, .object (gk_q (gk_cA kd)).1) := by
    rcases (show kd = 14 ∨ kd = 15 ∨ kd = 16 by omega) with rfl | rfl | rfl
    · exact ⟨4, rfl⟩
    · exact ⟨5, rfl⟩
    · exact ⟨6, rfl⟩
  obtain ⟨kA, comp, k1, k2, k3, -⟩ := (hK.2 t0 _ ht).2
  have hcomp : comp = X.D.1 (gk_cA kd) := Option.some.inj (k3.symm.trans hcls.1)
  subst hcomp
  obtain ⟨kC, hkC, -⟩ := hcls.2
  refine W.aast C.1 C.2.1 (hH.1 a _ (gk_wP hs hk.1)) (fun q h => by cases h) (fun h => by cases h) k1 k2 rfl hkC ⟨h0, by show _ < (arrV _ _ _).slots.size; rw [arrV_size]; exact hlt⟩ g1 (fun q h => by rw [g3] at h; cases h) (by rw [g2]; exact hkC) (by rw [g2]; exact va_assign hcls) rfl rfl hd fun H1 e9 z oq => ?_
  refine kk p e Rm s m args below meth c H1 _ cells slots mc ms ls C r (hH.set (gk_ch_rP hs hk.1) hs.1 ?_ z oq) (hS.put z oq (Nat.le_add_right _ _)) hc hl
  show H1[X.B + a]? = some (vp_cell _ _)
  rw [e9]
  rw [vp_cell_q, vp_cell_q, arrV_store]
  congr 2
  funext q
  by_cases hq : q = i.toNatClampNeg
  · subst hq
    simp [updV, va_up, va_rf, gk_rf]
  · simp [updV, va_up, hq]
end EVM2
