/-! ROWS THAT READ AND WRITE THE HEAP -/
/-- T is S but at the cell a, which is e -/
def gk_ch (X : gk_X) (S T : gk_S) (a : Nat) (e : va_E) : Prop := gk_n T = gk_n S ∧ gk_t T = gk_t S ∧ gk_en X T a = e ∧ (∀ b, b ≠ a → gk_en X T b = gk_en X S b) ∧ (gk_0 S → gk_0 T)
theorem gk_H.set {X : gk_X} {S T : gk_S} {a : Nat} {e : va_E} {H H1 : Heap} (h : gk_H X S H) (hc : gk_ch X S T a e) (ha : a < gk_n S) (he : va_at X.D vwCl (X.B + a, e) H1) (hz : H1.size = H.size) (oq : ∀ q : Nat, q ≠ X.B + a → H1[q]? = H[q]?) : gk_H X T H1 := by
  obtain ⟨c1, c2, c3, c4, c5⟩ := hc
  refine ⟨?_, fun ht => ?_⟩
  · rw [← gk_ws_set c1 c3 c4]
    exact va_P.set h.1 (gk_D X S) (gk_ws_at X S ha) he oq
  · obtain ⟨h1, h2⟩ := h.2 (c2 ▸ ht)
    exact ⟨by rw [hz, h1, c1], c5 h2⟩
theorem gk_en_obj {X : gk_X} {S : gk_S} {a ci : Nat} (hk : gk_K S a = ci) (hc : ci < 10) : gk_en X S a = .inr (ci, gk_fl X S ci a) := by
  unfold gk_en
  rw [hk, if_pos hc]
theorem gk_fl_at {X : gk_X} {S : gk_S} {ci a f : Nat} (hf : f < (gk_q ci).2.2) : (gk_fl X S ci a)[f]? = some (gk_fv X S (gk_ty ci f) (100 * ci + f) a) := by
  unfold gk_fl
  rw [List.getElem?_map, List.getElem?_range hf]
  rfl
theorem gk_fl_len {X : gk_X} {S : gk_S} {ci a : Nat} : (gk_fl X S ci a).length = (gk_q ci).2.2 := by simp [gk_fl]
/-- int-like, long, reference -/
def gk_tI (t : FieldType) : Bool := match t with
  | .long => false
  | .object _ => false
  | .array _ => false
  | _ => true
def gk_tP (t : FieldType) : Bool := match t with
  | .object _ => true
  | .array _ => true
  | _ => false
theorem gk_fvI {X : gk_X} {S : gk_S} {t : FieldType} (h : gk_tI t = true) (f a : Nat) : gk_fv X S t f a = .int (gI S f a) := by
  cases t <;> first | rfl | cases h
theorem gk_fvP {X : gk_X} {S : gk_S} {t : FieldType} (h : gk_tP t = true) (f a : Nat) : gk_fv X S t f a = va_rf (gk_rf X (gP S f a)) := by
  cases t <;> first | rfl | cases h
theorem gk_fl_set {X : gk_X} {S T : gk_S} {ci a f : Nat} {v : Value} (hf : f < (gk_q ci).2.2) (h1 : gk_fv X T (gk_ty ci f) (100 * ci + f) a = v) (h2 : ∀ g, g ≠ f → gk_fv X T (gk_ty ci g) (100 * ci + g) a = gk_fv X S (gk_ty ci g) (100 * ci + g) a) : gk_fl X T ci a = (gk_fl X S ci a).set f v := by
  apply List.ext_getElem?
  intro g
  by_cases hg : f = g
  · subst hg
    rw [List.getElem?_set_self (by rw [gk_fl_len]; exact hf), gk_fl_at hf, h1]
  · rw [List.getElem?_set_ne hg]
    by_cases hl : g < (gk_q ci).2.2
    · rw [gk_fl_at hl, gk_fl_at hl, h2 g (fun e => hg e.symm)]
    · rw [List.getElem?_eq_none (by rw [gk_fl_len]; omega), List.getElem?_eq_none (by rw [gk_fl_len]; omega)]
/-- a cell is told by its kind, its fields, its row -/
theorem gk_en_same {X : gk_X} {S T : gk_S} {b : Nat} (h1 : gk_K T b = gk_K S b) (h2 : ∀ f, gI T f b = gI S f b) (h3 : ∀ f, gJ T f b = gJ S f b) (h4 : ∀ f, gP T f b = gP S f b) (h5 : gL T b = gL S b) (h6 : xI T b = xI S b) (h7 : xJ T b = xJ S b) (h8 : xP T b = xP S b) : gk_en X T b = gk_en X S b := by
  have hf : ∀ t f, gk_fv X T t f b = gk_fv X S t f b := by
    intro t f
    cases t <;> simp only [gk_fv, h2, h3, h4]
  have hl : ∀ ci, gk_fl X T ci b = gk_fl X S ci b := by
    intro ci
    unfold gk_fl
    exact List.map_congr_left fun j _ => hf _ _
  unfold gk_en
  simp only [h1, h5, h6, h7, h8, hl]
theorem gk_ch_sI {X : gk_X} {S : gk_S} {a ci f : Nat} {v : Int32} (hs : gk_is S a ci) (hc : ci < 10) (hf : f < (gk_q ci).2.2) (ht : gk_tI (gk_ty ci f) = true) : gk_ch X S (sI S (100 * ci + f) a v) a (.inr (ci, (gk_fl X S ci a).set f (.int v))) := by
  refine ⟨rfl, rfl, ?_, fun b hb => ?_, fun h0 b hb => ?_⟩
  · rw [gk_en_obj (S := sI S (100 * ci + f) a v) hs.2 hc, gk_fl_set (S := S) (v := .int v) hf]
    · rw [gk_fvI ht, gI_sI, if_pos ⟨rfl, rfl⟩]
    · intro g hg
      have e : ∀ c, gI (sI S (100 * ci + f) a v) (100 * ci + g) c = gI S (100 * ci + g) c := fun c => by rw [gI_sI, if_neg (by omega)]
      cases gk_ty ci g <;> simp only [gk_fv, e] <;> rfl
  · refine gk_en_same rfl (fun g => ?_) (fun _ => rfl) (fun _ => rfl) rfl rfl rfl rfl
    rw [gI_sI, if_neg (fun h => hb h.2)]
  · have h9 := h0 b hb
    refine ⟨fun g => ⟨?_, (h9.1 g).2⟩, h9.2⟩
    rw [gI_sI, if_neg (fun h => by have := hs.1; have h8 : gk_n S ≤ b := hb; omega)]
    exact (h9.1 g).1
theorem gk_ch_sJ {X : gk_X} {S : gk_S} {a ci f : Nat} {v : Int64} (hs : gk_is S a ci) (hc : ci < 10) (hf : f < (gk_q ci).2.2) (ht : gk_ty ci f = .long) : gk_ch X S (sJ S (100 * ci + f) a v) a (.inr (ci, (gk_fl X S ci a).set f (.long v))) := by
  refine ⟨rfl, rfl, ?_, fun b hb => ?_, fun h0 b hb => ?_⟩
  · rw [gk_en_obj (S := sJ S (100 * ci + f) a v) hs.2 hc, gk_fl_set (S := S) (v := .long v) hf]
    · rw [ht]
      show Value.long (gJ (sJ S (100 * ci + f) a v) (100 * ci + f) a) = _
      rw [gJ_sJ, if_pos ⟨rfl, rfl⟩]
    · intro g hg
      have e : ∀ c, gJ (sJ S (100 * ci + f) a v) (100 * ci + g) c = gJ S (100 * ci + g) c := fun c => by rw [gJ_sJ, if_neg (by omega)]
      cases gk_ty ci g <;> simp only [gk_fv, e] <;> rfl
  · refine gk_en_same rfl (fun _ => rfl) (fun g => ?_) (fun _ => rfl) rfl rfl rfl rfl
    rw [gJ_sJ, if_neg (fun h => hb h.2)]
  · have h9 := h0 b hb
    refine ⟨fun g => ⟨(h9.1 g).1, ?_, (h9.1 g).2.2⟩, h9.2⟩
    rw [gJ_sJ, if_neg (fun h => by have := hs.1; have h8 : gk_n S ≤ b := hb; omega)]
    exact (h9.1 g).2.1
theorem gk_ch_sP {X : gk_X} {S : gk_S} {a ci f : Nat} {v : Option Nat} (hs : gk_is S a ci) (hc : ci < 10) (hf : f < (gk_q ci).2.2) (ht : gk_tP (gk_ty ci f) = true) : gk_ch X S (sP S (100 * ci + f) a v) a (.inr (ci, (gk_fl X S ci a).set f (va_rf (gk_rf X v)))) := by
  refine ⟨rfl, rfl, ?_, fun b hb => ?_, fun h0 b hb => ?_⟩
  · rw [gk_en_obj (S := sP S (100 * ci + f) a v) hs.2 hc, gk_fl_set (S := S) (v := va_rf (gk_rf X v)) hf]
    · rw [gk_fvP ht, gP_sP, if_pos ⟨rfl, rfl⟩]
    · intro g hg
      have e : ∀ c, gP (sP S (100 * ci + f) a v) (100 * ci + g) c = gP S (100 * ci + g) c := fun c => by rw [gP_sP, if_neg (by omega)]
      cases gk_ty ci g <;> simp only [gk_fv, e] <;> rfl
  · refine gk_en_same rfl (fun _ => rfl) (fun _ => rfl) (fun g => ?_) rfl rfl rfl rfl
    rw [gP_sP, if_neg (fun h => hb h.2)]
  · have h9 := h0 b hb
    refine ⟨fun g => ⟨(h9.1 g).1, (h9.1 g).2.1, ?_⟩, h9.2⟩
    rw [gP_sP, if_neg (fun h => by have := hs.1; have h8 : gk_n S ≤ b := hb; omega)]
    exact (h9.1 g).2.2
theorem gk_ch_rI {X : gk_X} {S : gk_S} {a kd : Nat} {v : Nat → Int32} (hs : gk_is S a kd) (hk : kd = 10 ∨ kd = 11 ∨ kd = 13) : gk_ch X S (rI S a v) a (.inl (X.cy kd, (gL S a, .inl v))) := by
  refine ⟨rfl, rfl, ?_, fun b hb => ?_, fun h0 b hb => ?_⟩
  · unfold gk_en
    have e1 : gk_K (rI S a v) a = kd := hs.2
    have e2 : xI (rI S a v) a = v := by rw [xI_rI, if_pos rfl]
    rw [e1, if_neg (by omega), if_neg (by omega), if_pos (by omega), e2]
    rfl
  · refine gk_en_same rfl (fun _ => rfl) (fun _ => rfl) (fun _ => rfl) rfl ?_ rfl rfl
    rw [xI_rI, if_neg hb]
  · have h9 := h0 b hb
    refine ⟨h9.1, fun i => ⟨?_, (h9.2 i).2⟩⟩
    rw [xI_rI, if_neg (fun h => by have := hs.1; have h8 : gk_n S ≤ b := hb; omega)]
    exact (h9.2 i).1
theorem gk_ch_rJ {X : gk_X} {S : gk_S} {a : Nat} {v : Nat → Int64} (hs : gk_is S a 12) : gk_ch X S (rJ S a v) a (.inl (X.cy 12, (gL S a, .inr (.inl v)))) := by
  refine ⟨rfl, rfl, ?_, fun b hb => ?_, fun h0 b hb => ?_⟩
  · unfold gk_en
    have e1 : gk_K (rJ S a v) a = 12 := hs.2
    have e2 : xJ (rJ S a v) a = v := by rw [xJ_rJ, if_pos rfl]
    rw [e1, if_neg (by omega), if_pos rfl, e2]
    rfl
  · refine gk_en_same rfl (fun _ => rfl) (fun _ => rfl) (fun _ => rfl) rfl rfl ?_ rfl
    rw [xJ_rJ, if_neg hb]
  · have h9 := h0 b hb
    refine ⟨h9.1, fun i => ⟨(h9.2 i).1, ?_, (h9.2 i).2.2⟩⟩
    rw [xJ_rJ, if_neg (fun h => by have := hs.1; have h8 : gk_n S ≤ b := hb; omega)]
    exact (h9.2 i).2.1
theorem gk_ch_rP {X : gk_X} {S : gk_S} {a kd : Nat} {v : Nat → Option Nat} (hs : gk_is S a kd) (hk : 14 ≤ kd) : gk_ch X S (rP S a v) a (.inl (X.cy kd, (gL S a, .inr (.inr (.inr (.inr (fun i => gk_rf X (v i)))))))) := by
  refine ⟨rfl, rfl, ?_, fun b hb => ?_, fun h0 b hb => ?_⟩
  · unfold gk_en
    have e1 : gk_K (rP S a v) a = kd := hs.2
    have e2 : xP (rP S a v) a = v := by rw [xP_rP, if_pos rfl]
    rw [e1, if_neg (by omega), if_neg (by omega), if_neg (by omega), e2]
    rfl
  · refine gk_en_same rfl (fun _ => rfl) (fun _ => rfl) (fun _ => rfl) rfl rfl rfl ?_
    rw [xP_rP, if_neg hb]
  · have h9 := h0 b hb
    refine ⟨h9.1, fun i => ⟨(h9.2 i).1, (h9.2 i).2.1, ?_⟩⟩
    rw [xP_rP, if_neg (fun h => by have := hs.1; have h8 : gk_n S ≤ b := hb; omega)]
    exact (h9.2 i).2.2
theorem gk_en_I {X : gk_X} {S : gk_S} {a kd : Nat} (hs : gk_K S a = kd) (hk : kd = 10 ∨ kd = 11 ∨ kd = 13) : gk_en X S a = .inl (X.cy kd, (gL S a, .inl (xI S a))) := by
  unfold gk_en
  rw [hs, if_neg (by omega), if_neg (by omega), if_pos (by omega)]
theorem gk_en_J {X : gk_X} {S : gk_S} {a : Nat} (hs : gk_K S a = 12) : gk_en X S a = .inl (X.cy 12, (gL S a, .inr (.inl (xJ S a)))) := by
  unfold gk_en
  rw [hs, if_neg (by omega), if_pos rfl]
theorem gk_en_P {X : gk_X} {S : gk_S} {a kd : Nat} (hs : gk_K S a = kd) (hk : 14 ≤ kd) : gk_en X S a = .inl (X.cy kd, (gL S a, .inr (.inr (.inr (.inr (fun i => gk_rf X (xP S a i))))))) := by
  unfold gk_en
  rw [hs, if_neg (by omega), if_neg (by omega), if_neg (by omega)]
section EVM1
variable {X : gk_X} {M : gk_M} {d k j pc : Nat} {L : List (Option Value)} {st : List Value} {S : gk_S} {R : gk_R}
theorem ev_get {ci f a idx : Nat} {v : Value} (hs : gk_is S a ci) (hc : ci < 10) (hf : f < (gk_q ci).2.2) (hv : gk_v X v = gk_fv X S (gk_ty ci f) (100 * ci + f) a) (hw : Cond.fieldLink M.y.cls idx ((gk_q ci).2.1 f).1 ((gk_q ci).2.1 f).2.1 ((gk_q ci).2.1 f).2.2.1 ∈ gG) (hd : decode M.cc pc = .ok (.getfield idx, 3)) (kk : EvW X M d k j (pc + 3) L (v :: st) S R) : EvW X M d k j pc L (.ref a :: st) S R := by
  intro p e Rm s m args below meth c H locs cells slots mc ms ls C r hH hS hc9 hl
  have h1 := kk p e Rm s m args below meth c H locs cells slots mc ms ls C r hH hS hc9 hl
  rw [List.map_cons, hv] at h1
  have he : (gk_ws X S)[a]? = some (X.B + a, .inr (ci, gk_fl X S ci a)) := by rw [gk_ws_at X S hs.1, gk_en_obj hs.2 hc]
  exact va_get (D := X.D) (C := (gk_q ci).1) (T := (gk_q ci).2.1) (N := (gk_q ci).2.2) C.1 C.2.1 C.2.2.2.2.2.1 (gk_in hc) C.2.2.2.2.1 C.2.2.2.2.2.2.2.2.2.1 hH.1 a he (gk_cq hc) f hf (C.2.2.2.2.2.1 _ hw) (fun _ h => h) (gk_fl_at hf) hd h1
theorem ev_getI {ci f a idx : Nat} (hs : gk_is S a ci) (hc : ci < 10) (hf : f < (gk_q ci).2.2) (ht : gk_tI (gk_ty ci f) = true) (hw : Cond.fieldLink M.y.cls idx ((gk_q ci).2.1 f).1 ((gk_q ci).2.1 f).2.1 ((gk_q ci).2.1 f).2.2.1 ∈ gG) (hd : decode M.cc pc = .ok (.getfield idx, 3)) (kk : EvW X M d k j (pc + 3) L (.int (gI S (100 * ci + f) a) :: st) S R) : EvW X M d k j pc L (.ref a :: st) S R :=
  ev_get (v := .int (gI S (100 * ci + f) a)) hs hc hf (gk_fvI ht _ _).symm hw hd kk
theorem ev_getJ {ci f a idx : Nat} (hs : gk_is S a ci) (hc : ci < 10) (hf : f < (gk_q ci).2.2) (ht : gk_ty ci f = .long) (hw : Cond.fieldLink M.y.cls idx ((gk_q ci).2.1 f).1 ((gk_q ci).2.1 f).2.1 ((gk_q ci).2.1 f).2.2.1 ∈ gG) (hd : decode M.cc pc = .ok (.getfield idx, 3)) (kk : EvW X M d k j (pc + 3) L (.long (gJ S (100 * ci + f) a) :: st) S R) : EvW X M d k j pc L (.ref a :: st) S R :=
  ev_get (v := .long (gJ S (100 * ci + f) a)) hs hc hf (by rw [ht]; rfl) hw hd kk
theorem ev_getP {ci f a b idx : Nat} (hs : gk_is S a ci) (hc : ci < 10) (hf : f < (gk_q ci).2.2) (ht : gk_tP (gk_ty ci f) = true) (hp : gP S (100 * ci + f) a = some b) (hw : Cond.fieldLink M.y.cls idx ((gk_q ci).2.1 f).1 ((gk_q ci).2.1 f).2.1 ((gk_q ci).2.1 f).2.2.1 ∈ gG) (hd : decode M.cc pc = .ok (.getfield idx, 3)) (kk : EvW X M d k j (pc + 3) L (.ref b :: st) S R) : EvW X M d k j pc L (.ref a :: st) S R :=
  ev_get (v := .ref b) hs hc hf (by rw [gk_fvP ht, hp]; rfl) hw hd kk
/-- a field is set, as the row of the heap says -/
theorem ev_put {ci f a idx : Nat} {v : Value} {T : gk_S} (hs : gk_is S a ci) (hc : ci < 10) (hf : f < (gk_q ci).2.2) (hfin : ((gk_q ci).2.1 f).2.2.2 = false) (hn : narrow (gk_ty ci f) (gk_v X v) = gk_v X v) (hfit : fits (gk_ty ci f) (gk_v X v) = true) (hT : gk_ch X S T a (.inr (ci, (gk_fl X S ci a).set f (gk_v X v)))) (hw : Cond.fieldLink M.y.cls idx ((gk_q ci).2.1 f).1 ((gk_q ci).2.1 f).2.1 ((gk_q ci).2.1 f).2.2.1 ∈ gG) (hd : decode M.cc pc = .ok (.putfield idx, 3)) (kk : EvW X M d k j (pc + 3) L st T R) : EvW X M d k j pc L (v :: .ref a :: st) S R := by
  intro p e Rm s m args below meth c H locs cells slots mc ms ls C r hH hS hc9 hl
  have hts := C.2.2.2.2.2.1
  have hK := C.2.2.2.2.2.2.2.2.2.1
  have he : (gk_ws X S)[a]? = some (X.B + a, .inr (ci, gk_fl X S ci a)) := by rw [gk_ws_at X S hs.1, gk_en_obj hs.2 hc]
  have hap := va_apart (own := M.y.cls) hts (gk_in hc) (gk_ty ci) (gk_tyok hc) (gk_nm hc) hK (gk_cq hc)
  obtain ⟨r9, g1, cell, q1, q2, q3, q4⟩ := hH.1 a _ he
  have hr9 : r9 = gk_q ci := Option.some.inj (g1.symm.trans (gk_cq hc))
  subst hr9
  obtain ⟨hS9, hfc, kC, hkC, hkind⟩ := hK.1 ci _ (gk_cq hc)
  obtain ⟨cf, kf, fi, f9, hi, hsl⟩ := hS9 f hf
  have hlay := hts _ (gk_in hc _ (u_in_lay hf))
  unfold u_lay at hlay
  rw [if_neg (by rw [hfin]; decide)] at hlay
  have hst := (u_facts hfc hkC (u_lays hts (gk_in hc) hf) hi).1
  have h6 := u_store hfc hkC hkind hlay hi (gk_tyok hc f hf) hn hfit
  refine W.putK C.1 C.2.1 (f := f9) ⟨C.2.2.2.2.1, hts _ hw, ⟨_, _, _, hi⟩, hst⟩ (by rw [q2]; exact h6) q1 q3 (by rw [hsl]; exact k2_hasslot (q4 f hf)) rfl rfl hd fun H' e1 e2 e3 => ?_
  rw [hsl] at e1 ⊢
  exact kk p e Rm s m args below meth c H' _ cells slots mc ms ls C r (hH.set hT hs.1 ⟨_, gk_cq hc, t_OB.to (V := updV (vp_V (gk_fl X S ci a)) f (gk_v X v)) ⟨_, e1, q2, q3, t_set q4 hap hf (gk_v X v)⟩ (fun i9 _ => vp_updV_set (by rw [gk_fl_len]; exact hf) _ i9)⟩ e2 e3) (hS.put e2 e3 (Nat.le_add_right _ _)) hc9 hl
/-- a final field is set, in the constructor -/
theorem ev_putF {ci f a idx : Nat} {v : Value} {T : gk_S} (hs : gk_is S a ci) (hc : ci < 10) (hf : f < (gk_q ci).2.2) (hfin : ((gk_q ci).2.1 f).2.2.2 = true) (hin2 : M.y.name = "<init>") (hdecl : ((gk_q ci).2.1 f).1 = M.y.cls) (hn : narrow (gk_ty ci f) (gk_v X v) = gk_v X v) (hfit : fits (gk_ty ci f) (gk_v X v) = true) (hT : gk_ch X S T a (.inr (ci, (gk_fl X S ci a).set f (gk_v X v)))) (hw : Cond.fieldLink M.y.cls idx ((gk_q ci).2.1 f).1 ((gk_q ci).2.1 f).2.1 ((gk_q ci).2.1 f).2.2.1 ∈ gG) (hd : decode M.cc pc = .ok (.putfield idx, 3)) (kk : EvW X M d k j (pc + 3) L st T R) : EvW X M d k j pc L (v :: .ref a :: st) S R := by
  intro p e Rm s m args below meth c H locs cells slots mc ms ls C r hH hS hc9 hl
  have hts := C.2.2.2.2.2.1
  have hK := C.2.2.2.2.2.2.2.2.2.1
  have he : (gk_ws X S)[a]? = some (X.B + a, .inr (ci, gk_fl X S ci a)) := by rw [gk_ws_at X S hs.1, gk_en_obj hs.2 hc]
  have hap := va_apart (own := M.y.cls) hts (gk_in hc) (gk_ty ci) (gk_tyok hc) (gk_nm hc) hK (gk_cq hc)
  obtain ⟨r9, g1, cell, q1, q2, q3, q4⟩ := hH.1 a _ he
  have hr9 : r9 = gk_q ci := Option.some.inj (g1.symm.trans (gk_cq hc))
  subst hr9
  obtain ⟨hS9, hfc, kC, hkC, hkind⟩ := hK.1 ci _ (gk_cq hc)
  obtain ⟨cf, kf, fi, f9, hi, hsl⟩ := hS9 f hf
  have hlay := hts _ (gk_in hc _ (u_in_lay hf))
  unfold u_lay at hlay
  rw [if_pos hfin] at hlay
  have hst := (u_facts hfc hkC (u_lays hts (gk_in hc) hf) hi).1
  have hcf : m.cls = cf := by
    obtain ⟨_, _, c', _, _, _, -, -, hf', -, -, -, hown2, -⟩ := Cond.laysFinal_spec hlay
    have e1 : c' = cf := by have := hi.symm.trans hf'; simp at this; exact this.1.symm
    rw [hdecl] at hown2
    rw [← e1]; exact Option.some.inj (C.2.2.2.2.1.symm.trans hown2)
  have h6 := u_fits hfc hkC hkind (Or.inr hlay) hi (gk_tyok hc f hf) hn hfit
  refine W.putFinK C.1 C.2.1 C.2.2.2.2.1 (hts _ hw) hi hst hcf (C.2.2.2.2.2.2.2.2.1.trans hin2) (by rw [q2]; exact h6) q1 q3 (by rw [hsl]; exact k2_hasslot (q4 f hf)) rfl rfl hd fun H' e1 e2 e3 => ?_
  rw [hsl] at e1 ⊢
  exact kk p e Rm s m args below meth c H' _ cells slots mc ms ls C r (hH.set hT hs.1 ⟨_, gk_cq hc, t_OB.to (V := updV (vp_V (gk_fl X S ci a)) f (gk_v X v)) ⟨_, e1, q2, q3, t_set q4 hap hf (gk_v X v)⟩ (fun i9 _ => vp_updV_set (by rw [gk_fl_len]; exact hf) _ i9)⟩ e2 e3) (hS.put e2 e3 (Nat.le_add_right _ _)) hc9 hl
end EVM1
