/-! ROWS WHOSE VALUE IS NAMED -/
section XVV
variable {X : gk_X} {M N : gk_M} {d k j pc : Nat} {L : List (Option Value)} {st : List Value} {S : gk_S} {R : gk_R}
theorem xv_getIv {ci f fn a idx : Nat} {fin : Bool} {x : Int32} (hF : gk_FI ci f fn fin) (hs : gk_is S a ci) (hv : gI S fn a = x) (hw : Cond.fieldLink M.y.cls idx ((gk_q ci).2.1 f).1 ((gk_q ci).2.1 f).2.1 ((gk_q ci).2.1 f).2.2.1 ∈ gG) (hd : decode M.cc pc = .ok (.getfield idx, 3)) (kk : EvW X M d k j (pc + 3) L (.int x :: st) S R) : EvW X M d k j pc L (.ref a :: st) S R := by
  subst hv
  exact xv_getI hF hs hw hd kk
theorem xv_getJv {ci f fn a idx : Nat} {fin : Bool} {x : Int64} (hF : gk_FJ ci f fn fin) (hs : gk_is S a ci) (hv : gJ S fn a = x) (hw : Cond.fieldLink M.y.cls idx ((gk_q ci).2.1 f).1 ((gk_q ci).2.1 f).2.1 ((gk_q ci).2.1 f).2.2.1 ∈ gG) (hd : decode M.cc pc = .ok (.getfield idx, 3)) (kk : EvW X M d k j (pc + 3) L (.long x :: st) S R) : EvW X M d k j pc L (.ref a :: st) S R := by
  subst hv
  exact xv_getJ hF hs hw hd kk
theorem xv_iald {a : Nat} {i x : Int32} (hs : gk_is S a 11) (hin : vp_in i (gL S a)) (hv : xI S a i.toNatClampNeg = x) (hd : decode M.cc pc = .ok (.iaload, 1)) (kk : EvW X M d k j (pc + 1) L (.int x :: st) S R) : EvW X M d k j pc L (.int i :: .ref a :: st) S R := by
  subst hv
  exact ev_iald hs hin hd kk
theorem xv_bald {a : Nat} {i x : Int32} (hs : gk_is S a 10) (hin : vp_in i (gL S a)) (hv : xI S a i.toNatClampNeg = x) (hd : decode M.cc pc = .ok (.baload, 1)) (kk : EvW X M d k j (pc + 1) L (.int x :: st) S R) : EvW X M d k j pc L (.int i :: .ref a :: st) S R := by
  subst hv
  exact ev_bald hs hin hd kk
theorem xv_zald {a : Nat} {i x : Int32} (hs : gk_is S a 13) (hin : vp_in i (gL S a)) (hv : xI S a i.toNatClampNeg = x) (hd : decode M.cc pc = .ok (.baload, 1)) (kk : EvW X M d k j (pc + 1) L (.int x :: st) S R) : EvW X M d k j pc L (.int i :: .ref a :: st) S R := by
  subst hv
  exact ev_zald hs hin hd kk
theorem xv_lald {a : Nat} {i : Int32} {x : Int64} (hs : gk_is S a 12) (hin : vp_in i (gL S a)) (hv : xJ S a i.toNatClampNeg = x) (hd : decode M.cc pc = .ok (.laload, 1)) (kk : EvW X M d k j (pc + 1) L (.long x :: st) S R) : EvW X M d k j pc L (.int i :: .ref a :: st) S R := by
  subst hv
  exact ev_lald hs hin hd kk
theorem xv_alen {a kd n : Nat} (hs : gk_is S a kd) (hk : 10 ≤ kd ∧ kd ≤ 18) (hv : gL S a = n) (hd : decode M.cc pc = .ok (.arraylength, 1)) (kk : EvW X M d k j (pc + 1) L (.int (nI n) :: st) S R) : EvW X M d k j pc L (.ref a :: st) S R := by
  subst hv
  exact ev_alen hs hk hd kk
/-- the number on top, by another name -/
theorem xv_top {x y : Int32} (h : x = y) (kk : EvW X M d k j pc L (.int y :: st) S R) : EvW X M d k j pc L (.int x :: st) S R := by
  subst h
  exact kk
theorem xv_topl {x y : Int64} (h : x = y) (kk : EvW X M d k j pc L (.long y :: st) S R) : EvW X M d k j pc L (.long x :: st) S R := by
  subst h
  exact kk
/-- the heap, by another name -/
theorem xv_heap {T : gk_S} (h : S = T) (kk : EvW X M d k j pc L st T R) : EvW X M d k j pc L st S R := by
  subst h
  exact kk
end XVV
