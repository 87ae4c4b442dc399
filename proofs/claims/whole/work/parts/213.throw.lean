/-! WHAT IS THROWN, AND CAUGHT -/
abbrev gx_N : List String := ["java/lang/RuntimeException", "java/lang/Exception"]
/-- the words of a throw: the tables have them -/
def gx_ok (ic : Nat) (cls : String) : Prop := ∀ w ∈ vx_atS RX11 ic cls gx_N, (w ∈ lw_tbl ∧ goodWord w = true) ∨ w ∈ gN
set_option maxRecDepth 100000 in
theorem gx_okI : gx_ok 253 gx_I := by unfold gx_ok; decide +kernel
abbrev gx_atN : List Cond := (gx_atoms RX11 116 gx_E "java/lang/RuntimeException" ["java/lang/Exception"] 13 prog_24_method_4_code).filter vx_no
set_option maxRecDepth 100000 in
theorem gx_okN : ∀ w ∈ gx_atN, (w ∈ lw_tbl ∧ goodWord w = true) ∨ w ∈ gN := by decide +kernel
set_option maxRecDepth 100000 in
theorem gx_okA : gx_ok 147 gx_A := by unfold gx_ok; decide +kernel
theorem gN_ot : ∀ w ∈ gN, w.onTables = true := by decide +kernel
theorem gx_at {X : gk_X} {s : State} {args : Array Value} {ic : Nat} {cls : String} (h : gx_ok ic cls) (hts : ∀ w ∈ gG, w.before args s = true) (hSt : gk_St X s s.heap) : ∀ w ∈ vx_atS RX11 ic cls gx_N, w.before args s = true := by
  intro w hw
  rcases h w hw with h1 | h1
  · exact hts w (List.mem_filter.mpr h1)
  · obtain ⟨-, -, -, -, -, -, -, -, -, -, hN, -⟩ := hSt
    exact va_Nw.use (gN_ot w h1) (hN w h1)
theorem gx_good {ic ik : Nat} {cls : String} (h : gx_ok ic cls) (h1 : Cond.classLink RX11 ik cls ∈ gG) (h2 : Cond.initialized cls ∈ gG) : ∀ w ∈ Cond.classLink RX11 ik cls :: Cond.initialized cls :: vx_atS RX11 ic cls gx_N, vx_ot w = true := by
  intro w hw
  have hg : ∀ {z : Cond}, z ∈ gG → vx_ot z = true := fun hz => by unfold vx_ot; rw [gG_good hz]; simp
  rcases List.mem_cons.mp hw with rfl | hw
  · exact hg h1
  · rcases List.mem_cons.mp hw with rfl | hw
    · exact hg h2
    · rcases h w hw with h3 | h3
      · exact hg (List.mem_filter.mpr h3)
      · unfold vx_ot; rw [gN_ot w h3]; rfl
theorem gx_at2 {X : gk_X} {s : State} {args : Array Value} (hts : ∀ w ∈ gG, w.before args s = true) (hSt : gk_St X s s.heap) : ∀ w ∈ gx_atN, w.before args s = true := by
  intro w hw
  rcases gx_okN w hw with h1 | h1
  · exact hts w (List.mem_filter.mpr h1)
  · obtain ⟨-, -, -, -, -, -, -, -, -, -, hN, -⟩ := hSt
    exact va_Nw.use (gN_ot w h1) (hN w h1)
theorem gx_good2 {ik : Nat} (h1 : Cond.classLink RX11 ik gx_E ∈ gG) (h2 : Cond.initialized gx_E ∈ gG) : ∀ w ∈ Cond.classLink RX11 ik gx_E :: Cond.initialized gx_E :: gx_atN, vx_ot w = true := by
  intro w hw
  have hg : ∀ {z : Cond}, z ∈ gG → vx_ot z = true := fun hz => by unfold vx_ot; rw [gG_good hz]; simp
  rcases List.mem_cons.mp hw with rfl | hw
  · exact hg h1
  · rcases List.mem_cons.mp hw with rfl | hw
    · exact hg h2
    · rcases gx_okN w hw with h3 | h3
      · exact hg (List.mem_filter.mpr h3)
      · unfold vx_ot; rw [gN_ot w h3]; rfl
section EVT
variable {X : gk_X} {M N : gk_M} {d k j d' k' j' pc : Nat} {L : List (Option Value)} {st as : List Value} {S S' : gk_S} {R : gk_R}
theorem gk_H.closed {X : gk_X} {S : gk_S} {H H1 : Heap} (h : gk_H X S H) (oq : ∀ q : Nat, q < H.size → H1[q]? = H[q]?) : gk_H X (cS S) H1 :=
  ⟨va_P.kept (ws := gk_ws X S) h.1 fun k9 q hk => oq q.1 ((h.1 k9 q hk).lt), fun h9 => by cases h9⟩
/-- throw new E(text) in GateHouse -/
theorem ev_throwS {i ik is ic : Nat} {cls : String} (hi : i < 34) (hM : M.y.cls = RX11) (hh : M.hh = []) (g1 : (gk_s i).1 = M.y.cls) (g2 : (gk_s i).2.1 = is) (hx : gx_ok ic cls) (hfit : Bundle.fit cls = true) (hw1 : Cond.classLink RX11 ik cls ∈ gG) (hw2 : Cond.initialized cls ∈ gG) (hst : st.all gk_okv = true) (hsum : (st.map fun v => v.category).sum ≤ 8) (hd6 : 6 ≤ d) (hk1 : 1 ≤ k) (hj6 : 6 ≤ j) (hR : R = (.inr cls, cS S))
    (d0 : decode M.cc pc = .ok (.new ik, 3)) (d3 : decode M.cc (pc + 3) = .ok (.dup, 1)) (d4 : decode M.cc (pc + 4) = .ok (.ldc is, 2)) (d6 : decode M.cc (pc + 6) = .ok (.invokespecial ic, 3)) (d9 : decode M.cc (pc + 9) = .ok (.athrow, 1)) : EvW X M d k j pc L st S R := by
  subst hR
  intro p e Rm s m args below meth c H locs cells slots mc ms ls C r hH hS hc hl
  have hSt := C.2.2.2.2.2.2.2.2.2.2.1
  have hts := C.2.2.2.2.2.1
  obtain ⟨-, -, -, -, -, -, -, hs, ⟨hU, hN⟩, -⟩ := id hSt
  obtain ⟨a, v, -, -, hR1, -⟩ := hs i hi
  rw [g1, g2] at hR1
  have hown := C.2.2.2.2.1
  rw [hM] at hown hR1
  refine vx_throwS (names := gx_N) C.1 C.2.1 C.2.2.2.2.2.2.2.2.2.2.2.2 hown hfit (by decide +kernel) (hts _ hw1) (hts _ hw2) hR1 (gx_at hx hts hSt) (gx_good hx hw1 hw2) hU hN hS (by rw [C.2.2.2.1]; exact hl.1) d0 d3 d4 d6 d9 (by rw [C.2.2.2.2.2.2.2.1, hh]; exact fun x hx => nomatch hx) (by show 2 + 3 < _; omega) (by rw [gk_sum hSt hst]; show _ + (13 * (2 + 1) + 43) ≤ _; omega) (by omega) (by omega) C.2.2.2.2.2.2.1 (fun t hvm hz oq => ⟨rfl, hH.closed oq, Nat.le_trans hS.1 hz, fun q q1 q2 => (oq q (Nat.lt_of_lt_of_le q1 hS.1)).trans (hS.2.1 q q1 q2)⟩) hS.2.2 (by omega) (by omega)
theorem ev_throwSW {i ik is ic : Nat} {cls : String} (hi : i < 34) (hM : M.y.cls = RX11) (hh : M.hh = []) (g1 : (gk_s i).1 = M.y.cls) (g2 : (gk_s i).2.1 = is) (hx : gx_ok ic cls) (hfit : Bundle.fit cls = true) (hw1 : Cond.classLink RX11 ik cls ∈ gG) (hw2 : Cond.initialized cls ∈ gG) (hst : st.all gk_okv = true) (hsum : (st.map fun v => v.category).sum ≤ 8) (hd6 : 6 ≤ d) (hk1 : 1 ≤ k) (hj6 : 6 ≤ j) (hR : R = (.inr cls, cS S))
    (d0 : decode M.cc pc = .ok (.new ik, 3)) (d3 : decode M.cc (pc + 3) = .ok (.dup, 1)) (d4 : decode M.cc (pc + 4) = .ok (.ldc_w is, 3)) (d7 : decode M.cc (pc + 7) = .ok (.invokespecial ic, 3)) (d10 : decode M.cc (pc + 10) = .ok (.athrow, 1)) : EvW X M d k j pc L st S R := by
  subst hR
  intro p e Rm s m args below meth c H locs cells slots mc ms ls C r hH hS hc hl
  have hSt := C.2.2.2.2.2.2.2.2.2.2.1
  have hts := C.2.2.2.2.2.1
  obtain ⟨-, -, -, -, -, -, -, hs, ⟨hU, hN⟩, -⟩ := id hSt
  obtain ⟨a, v, -, -, hR1, -⟩ := hs i hi
  rw [g1, g2] at hR1
  have hown := C.2.2.2.2.1
  rw [hM] at hown hR1
  refine vx_throwSW (names := gx_N) C.1 C.2.1 C.2.2.2.2.2.2.2.2.2.2.2.2 hown hfit (by decide +kernel) (hts _ hw1) (hts _ hw2) hR1 (gx_at hx hts hSt) (gx_good hx hw1 hw2) hU hN hS (by rw [C.2.2.2.1]; exact hl.1) d0 d3 d4 d7 d10 (by rw [C.2.2.2.2.2.2.2.1, hh]; exact fun x hx => nomatch hx) (by show 2 + 3 < _; omega) (by rw [gk_sum hSt hst]; show _ + (13 * (2 + 1) + 43) ≤ _; omega) (by omega) (by omega) C.2.2.2.2.2.2.1 (fun t hvm hz oq => ⟨rfl, hH.closed oq, Nat.le_trans hS.1 hz, fun q q1 q2 => (oq q (Nat.lt_of_lt_of_le q1 hS.1)).trans (hS.2.1 q q1 q2)⟩) hS.2.2 (by omega) (by omega)
/-- throw new NoSuchElementException(text) -/
theorem ev_throwN {i ik is : Nat} (hi : i < 34) (hM : M.y.cls = RX11) (hh : M.hh = []) (g1 : (gk_s i).1 = M.y.cls) (g2 : (gk_s i).2.1 = is) (hw1 : Cond.classLink RX11 ik gx_E ∈ gG) (hw2 : Cond.initialized gx_E ∈ gG) (hst : st.all gk_okv = true) (hsum : (st.map fun v => v.category).sum ≤ 8) (hd6 : 6 ≤ d) (hk1 : 1 ≤ k) (hj6 : 6 ≤ j) (hR : R = (.inr gx_E, cS S))
    (d0 : decode M.cc pc = .ok (.new ik, 3)) (d3 : decode M.cc (pc + 3) = .ok (.dup, 1)) (d4 : decode M.cc (pc + 4) = .ok (.ldc is, 2)) (d6 : decode M.cc (pc + 6) = .ok (.invokespecial 116, 3)) (d9 : decode M.cc (pc + 9) = .ok (.athrow, 1)) : EvW X M d k j pc L st S R := by
  subst hR
  intro p e Rm s m args below meth c H locs cells slots mc ms ls C r hH hS hc hl
  have hSt := C.2.2.2.2.2.2.2.2.2.2.1
  have hts := C.2.2.2.2.2.1
  obtain ⟨-, -, -, -, -, -, -, hs, ⟨hU, hN⟩, -⟩ := id hSt
  obtain ⟨a, v, -, -, hR1, -⟩ := hs i hi
  rw [g1, g2] at hR1
  have hown := C.2.2.2.2.1
  rw [hM] at hown hR1
  refine gx_throwS (cls := gx_E) (Y1 := "java/lang/RuntimeException") (r1 := ["java/lang/Exception"]) (ix := 13) (bytes := prog_24_method_4_code) (ic := 116) C.1 C.2.1 C.2.2.2.2.2.2.2.2.2.2.2.2 (by decide +kernel) (by decide +kernel) (by decide +kernel) (by decide +kernel) hown (by decide +kernel) (by decide +kernel) (by decide +kernel) (hts _ hw1) (hts _ hw2) hR1 (gx_at2 hts hSt) (gx_good2 hw1 hw2) hU hN hS (by rw [C.2.2.2.1]; exact hl.1) d0 d3 d4 d6 d9 (by rw [C.2.2.2.2.2.2.2.1, hh]; exact fun x hx => nomatch hx) (by show 1 + 4 < _; omega) (by rw [gk_sum hSt hst]; show _ + (13 * (1 + 2) + 43) ≤ _; omega) (by omega) (by omega) C.2.2.2.2.2.2.1 (fun t hvm hz oq => ⟨rfl, hH.closed oq, Nat.le_trans hS.1 hz, fun q q1 q2 => (oq q (Nat.lt_of_lt_of_le q1 hS.1)).trans (hS.2.1 q q1 q2)⟩) hS.2.2 (by omega) (by omega)
theorem ev_throwNW {i ik is : Nat} (hi : i < 34) (hM : M.y.cls = RX11) (hh : M.hh = []) (g1 : (gk_s i).1 = M.y.cls) (g2 : (gk_s i).2.1 = is) (hw1 : Cond.classLink RX11 ik gx_E ∈ gG) (hw2 : Cond.initialized gx_E ∈ gG) (hst : st.all gk_okv = true) (hsum : (st.map fun v => v.category).sum ≤ 8) (hd6 : 6 ≤ d) (hk1 : 1 ≤ k) (hj6 : 6 ≤ j) (hR : R = (.inr gx_E, cS S))
    (d0 : decode M.cc pc = .ok (.new ik, 3)) (d3 : decode M.cc (pc + 3) = .ok (.dup, 1)) (d4 : decode M.cc (pc + 4) = .ok (.ldc_w is, 3)) (d7 : decode M.cc (pc + 7) = .ok (.invokespecial 116, 3)) (d10 : decode M.cc (pc + 10) = .ok (.athrow, 1)) : EvW X M d k j pc L st S R := by
  subst hR
  intro p e Rm s m args below meth c H locs cells slots mc ms ls C r hH hS hc hl
  have hSt := C.2.2.2.2.2.2.2.2.2.2.1
  have hts := C.2.2.2.2.2.1
  obtain ⟨-, -, -, -, -, -, -, hs, ⟨hU, hN⟩, -⟩ := id hSt
  obtain ⟨a, v, -, -, hR1, -⟩ := hs i hi
  rw [g1, g2] at hR1
  have hown := C.2.2.2.2.1
  rw [hM] at hown hR1
  refine gx_throwSW (cls := gx_E) (Y1 := "java/lang/RuntimeException") (r1 := ["java/lang/Exception"]) (ix := 13) (bytes := prog_24_method_4_code) (ic := 116) C.1 C.2.1 C.2.2.2.2.2.2.2.2.2.2.2.2 (by decide +kernel) (by decide +kernel) (by decide +kernel) (by decide +kernel) hown (by decide +kernel) (by decide +kernel) (by decide +kernel) (hts _ hw1) (hts _ hw2) hR1 (gx_at2 hts hSt) (gx_good2 hw1 hw2) hU hN hS (by rw [C.2.2.2.1]; exact hl.1) d0 d3 d4 d7 d10 (by rw [C.2.2.2.2.2.2.2.1, hh]; exact fun x hx => nomatch hx) (by show 1 + 4 < _; omega) (by rw [gk_sum hSt hst]; show _ + (13 * (1 + 2) + 43) ≤ _; omega) (by omega) (by omega) C.2.2.2.2.2.2.1 (fun t hvm hz oq => ⟨rfl, hH.closed oq, Nat.le_trans hS.1 hz, fun q q1 q2 => (oq q (Nat.lt_of_lt_of_le q1 hS.1)).trans (hS.2.1 q q1 q2)⟩) hS.2.2 (by omega) (by omega)
/-- behind a call that throws -/
theorem gk_backX {E : String} {p : Program} {e : Env} {Rm : Room} {s : State} {m : MethodId} {args : Array Value} {below : List Frame} {meth : Method} {c : Code} {H : Heap} {locs : List Loc} {cells slots mc ms : Nat} {ls : Array Slot} {st0 rest : List Value} {a : Array Value} {Q : State → Prop}
    (hr : vx_Run p X.l e Rm s m args below meth c H locs cells slots mc ms (F0 m pc ls st0) rest (gk_QR X (.inr E, S') a) (gk_XR X (.inr E, S')) X.A) (hS : va_S X.A s.heap H locs)
    (kk : ∀ (H1 : Heap) (locs1 : List Loc) (q9 : Addr) (ce : Cell), gk_H X S' H1 → va_S X.A s.heap H1 locs1 → H1[q9]? = some ce → ce.vm = .none → s.vm.findClass E = some ce.cls → vx_W p X.l e Rm s m args below meth c H1 locs1 (cells + mc) (slots + ms) Q (F0 m pc ls rest) q9) : W p X.l e Rm s m args below meth c H locs cells slots Q (F0 m pc ls st0) := by
  intro T hT X9
  rcases hr T hT X9 with ⟨v9, st₀, t, T', L9, h0, X', hL, e1, e2, ⟨w, hw, -⟩, st9⟩ | ⟨q, st₀, t, T', L9, E9, ce, h0, X', hL, e1, e2, ⟨hE, hH, hF⟩, hce, hcv, hcl, st9⟩
  · cases hw
  · cases hE
    obtain ⟨k1, k2, k3⟩ := vx_keep h0 e1 hS (fun _ _ h => h) (fun _ h => h) hL hF
    obtain ⟨t2, a1, b1⟩ := kk T'.heap (locs ++ L9) q ce (by rw [e1]; exact hH) k3 (by rw [e1]; exact hce) hcv hcl T' rfl X'
    exact ⟨t2, st9.trans a1, b1⟩
/-- a static call throws, and nothing catches it here -/
theorem ev_thrS {idx n : Nat} {E : String} (h : EvM X N d' k' j' as S (.inr E, S')) (hh : N.hh = []) (hhM : M.hh = []) (hR : R = (.inr E, S')) (hd' : d' + 1 ≤ d) (hk' : k' ≤ k) (hj' : j' ≤ j) (hnL : N.nL ≤ 45) (hst : st.all gk_okv = true) (hsum : (st.map fun v => v.category).sum ≤ 8) (hn : as.length = n)
    (hw1 : Cond.methodLink M.y.cls idx N.y ∈ gG) (hw2 : Cond.static N.y ∈ gG) (hw4 : Cond.initialized N.y.cls ∈ gG) (hw5 : Cond.code N.y N.cc N.nL N.rt ∈ gG)
    (hdesc : N.y.cls ≠ "java/lang/invoke/MethodHandle" ∧ N.y.cls ≠ "java/lang/invoke/VarHandle" ∧ (parseMethodDescriptor N.y.desc).map (fun d => d.parameters.length) = some n)
    (hd : decode M.cc pc = .ok (.invokestatic idx, 3)) : EvW X M d k j pc L (as.reverse ++ st) S R := by
  subst hR
  intro p e Rm s m args below meth c H locs cells slots mc ms ls C r hH hS hc9 hl
  have hts := C.2.2.2.2.2.1
  have hK := C.2.2.2.2.2.2.2.2.2.1
  have hSt := C.2.2.2.2.2.2.2.2.2.2.1
  have hw : gk_w N = Cond.code N.y N.cc N.nL N.rt :: gG := by unfold gk_w; rw [if_pos hh]
  have hG : GoodIn gG (gk_w N) := gk_GoodIn fun w h9 => by
    rw [hw] at h9
    rcases List.mem_cons.mp h9 with rfl | h9
    · exact hw5
    · exact h9
  have hstk : (as.reverse ++ st).map (gk_v X) = (as.map (gk_v X)).reverse ++ st.map (gk_v X) := by simp
  rw [hstk]
  refine gk_backX (vx_runS (As := as.map (gk_v X)) (rest := st.map (gk_v X)) (n := n) ⟨C.1, C.2.1, C.2.2.2.1, C.2.2.2.2.1, hts⟩ h ⟨callB_of n hts hG hw rfl rfl (hts _ hw4) (hts _ hw1) hdesc ⟨by show d' + 1 ≤ Rm.frames; omega, by show 8 + (N.nL + 11) + 64 * d' ≤ Rm.locals; omega⟩, hts _ hw2⟩ ⟨gk_blind X S _, fun U hU hW => ⟨rfl, by rw [hU]; exact hH, va_K.moved hW.alike hK, by rw [hU]; exact (hSt.kept C.2.2.2.2.2.2.2.2.2.2.2.1 hS.2.1).warm hW, by rw [hU]; exact Nat.le_trans C.2.2.2.2.2.2.2.2.2.2.2.1 hS.1, C.2.2.2.2.2.2.2.2.2.2.2.2⟩⟩ rfl (by rw [List.length_map]; exact hn) hl.1 rfl (lv_room (by rw [gk_sum hSt hst]; exact hsum)) hd ⟨by omega, by omega⟩) hS fun H1 locs1 q9 ce hH1 hS1 hce hcv hcl => ?_
  exact vx_out (by rw [C.2.2.2.2.2.2.2.1, hhM]; exact fun x hx => nomatch hx) C.2.2.2.2.2.2.1 hce hcv hcl (fun t ht hvm => ⟨rfl, by rw [ht]; exact hH1, hS1.F ht⟩) hS1.2.2 (by omega) (by omega)
/-- a virtual call throws, a handler takes it, and its first instruction puts it away -/
theorem ev_catV {ci b idx n : Nat} {E name : String} {pre suf : List (Nat × Nat × Nat × Nat)} {x : Nat × Nat × Nat × Nat} {i9 len9 : Nat} {ins : Instr} (h : EvM X N d' k' j' (.ref b :: as) S (.inr E, S')) (hb : gk_is S b ci) (hc : ci < 10) (hcl : N.y.cls = (gk_q ci).1) (hh : N.hh = [])
    (hM : M.hh = pre ++ x :: suf) (hpre : ∀ z ∈ pre, z.2.2.2 ≠ 0 ∧ ∃ nm : String, Cond.classLink M.y.cls z.2.2.2 nm ∈ gG ∧ (E, nm) ∈ gk_nc) (hx1 : x.1 ≤ pc) (hx2 : pc < x.2.1) (hx0 : x.2.2.2 ≠ 0) (hlink : Cond.classLink M.y.cls x.2.2.2 name ∈ gG) (hcast : Cond.castable E name ∈ gN)
    (hins : (ins = .astore i9 ∧ len9 = 2) ∨ (∃ f9 : Fin 4, ins = .astore_n f9 ∧ (f9 : Nat) = i9 ∧ len9 = 1)) (hi9 : i9 < M.nL) (hokL : gk_okL L = true) (hL9 : ∀ q : Nat, L[q]? = some none ∨ L[q]? = none ∨ q < i9)
    (hd' : d' + 1 ≤ d) (hnL : N.nL ≤ 45) (hst : st.all gk_okv = true) (hsum : (st.map fun v => v.category).sum ≤ 8) (hn : as.length = n)
    (hw1 : Cond.methodLink M.y.cls idx N.y ∈ gG) (hw2 : Cond.instanceMethod N.y ∈ gG) (hw3 : Cond.selects N.y.cls N.y N.y ∈ gG) (hw4 : Cond.initialized N.y.cls ∈ gG) (hw5 : Cond.code N.y N.cc N.nL N.rt ∈ gG)
    (hdesc : N.y.cls ≠ "java/lang/invoke/MethodHandle" ∧ N.y.cls ≠ "java/lang/invoke/VarHandle" ∧ (parseMethodDescriptor N.y.desc).map (fun d => d.parameters.length) = some n)
    (hd : decode M.cc pc = .ok (.invokevirtual idx, 3)) (hdh : decode M.cc x.2.2.1 = .ok (ins, len9)) (kk : EvW X M d k j (x.2.2.1 + len9) [] [] S' R) : EvW X M d (k' + k) (j' + j) pc L (as.reverse ++ .ref b :: st) S R := by
  intro p e Rm s m args below meth c H locs cells slots mc ms ls C r hH hS hc9 hl
  have hts := C.2.2.2.2.2.1
  have hK := C.2.2.2.2.2.2.2.2.2.1
  have hSt := C.2.2.2.2.2.2.2.2.2.2.1
  have hw : gk_w N = Cond.code N.y N.cc N.nL N.rt :: gG := by unfold gk_w; rw [if_pos hh]
  have hG : GoodIn gG (wsV M.y.cls idx N.y.cls N.y (gk_w N)) := gk_GoodIn fun w h9 => by
    unfold wsV at h9
    rw [hw] at h9
    simp only [List.mem_append, List.mem_cons, List.not_mem_nil, or_false] at h9
    rcases h9 with (rfl | rfl | rfl | rfl) | rfl | h9
    · exact hw1
    · exact hw2
    · exact hw3
    · exact hw4
    · exact hw5
    · exact h9
  have hstk : (as.reverse ++ .ref b :: st).map (gk_v X) = (as.map (gk_v X)).reverse ++ .ref (X.B + b) :: st.map (gk_v X) := by simp [gk_v]
  have he : (gk_ws X S)[b]? = some (X.B + b, .inr (ci, gk_fl X S ci b)) := by rw [gk_ws_at X S hb.1, gk_en_obj hb.2 hc]
  obtain ⟨-, -, -, -, -, -, -, -, -, -, hN, hnc⟩ := id hSt
  rw [hstk]
  refine gk_backX (vx_runV (As := as.map (gk_v X)) (rest := st.map (gk_v X)) (n := n) ⟨C.1, C.2.1, C.2.2.2.1, C.2.2.2.2.1, hts⟩ h (cwV n hts hG hw rfl rfl ⟨rfl, hdesc⟩ ⟨by show d' + 1 ≤ Rm.frames; omega, by show 8 + (N.nL + 11) + 64 * d' ≤ Rm.locals; omega⟩) ⟨gk_blind X S _, by rw [hcl]; exact va_recv hK hH.1 (gk_cq hc) he, fun U hU hW => ⟨rfl, by rw [hU]; exact hH, va_K.moved hW.alike hK, by rw [hU]; exact (hSt.kept C.2.2.2.2.2.2.2.2.2.2.2.1 hS.2.1).warm hW, by rw [hU]; exact Nat.le_trans C.2.2.2.2.2.2.2.2.2.2.2.1 hS.1, C.2.2.2.2.2.2.2.2.2.2.2.2⟩⟩ rfl (by rw [List.length_map]; exact hn) hl.1 rfl (lv_room (by rw [gk_sum hSt hst]; exact hsum)) hd ⟨by omega, by omega⟩) hS fun H1 locs1 q9 ce hH1 hS1 hce hcv hcl9 => ?_
  refine vx_catch (own := M.y.cls) (name := name) (E := E) (ce := ce) C.2.2.2.2.1 (tableOf pre) ⟨x.1, x.2.1, x.2.2.1, x.2.2.2⟩ (tableOf suf) (by rw [C.2.2.2.2.2.2.2.1, hM]; simp [tableOf]) ?_ (by simp [covers, hx1, hx2]) hx0 (hts _ hlink) (va_Nw.use rfl (hN _ hcast)) hce hcv hcl9 ?_
  · intro z hz
    obtain ⟨y, hy, rfl⟩ := List.mem_map.mp hz
    obtain ⟨h1, nm, h2, h3⟩ := hpre y hy
    exact Or.inr ⟨h1, nm, hts _ h2, hnc _ h3⟩
  · have hnil : ∀ (ls' : Array Slot) (v : Value), lv_has ls' M.nL ((i9, v) :: (gk_la X L).filter (fun q => !(q.1 == i9) && !(q.1 + 1 == i9 && q.2.category == 2))) → lv_has ls' M.nL (gk_la X []) := fun ls' v h9 => lv_mono h9 fun q hq => by simp [gk_la] at hq
    rcases hins with ⟨rfl, rfl⟩ | ⟨f9, rfl, hf9, rfl⟩
    · exact lv_astore C.1 C.2.1 hdh hl hi9 rfl fun ls' hl' => kk p e Rm s m args below meth c H1 locs1 (cells + k') (slots + j') mc ms ls' C r hH1 hS1 ⟨by omega, by omega, hc9.2.2⟩ (hnil ls' _ hl')
    · exact lv_astore_n C.1 C.2.1 hdh hf9 hl hi9 rfl fun ls' hl' => kk p e Rm s m args below meth c H1 locs1 (cells + k') (slots + j') mc ms ls' C r hH1 hS1 ⟨by omega, by omega, hc9.2.2⟩ (hnil ls' _ hl')
/-- a static call of a method with handlers, which returns -/
theorem ev_callSW {v : Option Value} {idx n : Nat} (h : EvM X N d' k' j' as S (.inl v, S')) (hh : N.hh ≠ []) (hd' : d' + 1 ≤ d) (hnL : N.nL ≤ 45) (hst : st.all gk_okv = true) (hsum : (st.map fun v => v.category).sum ≤ 8) (hn : as.length = n)
    (hw1 : Cond.methodLink M.y.cls idx N.y ∈ gG) (hw2 : Cond.static N.y ∈ gG) (hw4 : Cond.initialized N.y.cls ∈ gG) (hw5 : Cond.codeWith N.y N.cc N.nL N.rt N.hh ∈ gG)
    (hdesc : N.y.cls ≠ "java/lang/invoke/MethodHandle" ∧ N.y.cls ≠ "java/lang/invoke/VarHandle" ∧ (parseMethodDescriptor N.y.desc).map (fun d => d.parameters.length) = some n)
    (hd : decode M.cc pc = .ok (.invokestatic idx, 3)) (kk : EvW X M d k j (pc + 3) L (v.toList ++ st) S' R) : EvW X M d (k' + k) (j' + j) pc L (as.reverse ++ st) S R := by
  intro p e Rm s m args below meth c H locs cells slots mc ms ls C r hH hS hc9 hl
  have hts := C.2.2.2.2.2.1
  have hK := C.2.2.2.2.2.2.2.2.2.1
  have hSt := C.2.2.2.2.2.2.2.2.2.2.1
  have hw : gk_w N = Cond.codeWith N.y N.cc N.nL N.rt N.hh :: gG := by unfold gk_w; rw [if_neg hh]
  have hG : GoodIn gG (va_wsS M.y.cls idx N.y (gk_w N)) := gk_GoodIn fun w h9 => by
    unfold va_wsS at h9
    rw [hw] at h9
    simp only [List.mem_append, List.mem_cons, List.not_mem_nil, or_false] at h9
    rcases h9 with (rfl | rfl | rfl) | rfl | h9
    · exact hw1
    · exact hw2
    · exact hw4
    · exact hw5
    · exact h9
  have hstk : (as.reverse ++ st).map (gk_v X) = (as.map (gk_v X)).reverse ++ st.map (gk_v X) := by simp
  rw [hstk]
  refine gk_back (vx_runSW (As := as.map (gk_v X)) (rest := st.map (gk_v X)) (n := n) ⟨C.1, C.2.1, C.2.2.2.1, C.2.2.2.2.1, hts⟩ h.met (vx_cwSW n hts hG hw rfl rfl hdesc ⟨by show d' + 1 ≤ Rm.frames; omega, by show 8 + (N.nL + 11) + 64 * d' ≤ Rm.locals; omega⟩) ⟨gk_blind X S _, fun U hU hW => ⟨rfl, by rw [hU]; exact hH, va_K.moved hW.alike hK, by rw [hU]; exact (hSt.kept C.2.2.2.2.2.2.2.2.2.2.2.1 hS.2.1).warm hW, by rw [hU]; exact Nat.le_trans C.2.2.2.2.2.2.2.2.2.2.2.1 hS.1, C.2.2.2.2.2.2.2.2.2.2.2.2⟩⟩ rfl (by rw [List.length_map]; exact hn) hl.1 rfl (lv_room (by rw [gk_sum hSt hst]; exact hsum)) hd ⟨by omega, by omega⟩) hS fun H1 locs1 hH1 hS1 => ?_
  exact kk p e Rm s m args below meth c H1 locs1 (cells + k') (slots + j') mc ms ls C r hH1 hS1 ⟨by omega, by omega, hc9.2.2⟩ hl
end EVT
