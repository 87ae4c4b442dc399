/-! ROWS ON CONSTANTS: statics, the script, texts -/
section EVC
variable {X : gk_X} {M : gk_M} {d k j pc : Nat} {L : List (Option Value)} {st : List Value} {S : gk_S} {R : gk_R}
theorem ev_getsT {idx : Nat} (hw : Cond.fieldLink M.y.cls idx "GateHouse" "TOPS" "[J" ∈ gG) (hd : decode M.cc pc = .ok (.getstatic idx, 3)) (kk : EvW X M d k j (pc + 3) L (.retAddr 1 :: st) S R) : EvW X M d k j pc L st S R := by
  intro p e Rm s m args below meth c H locs cells slots mc ms ls C r hH hS hc hl
  obtain ⟨-, ⟨t, e1, h1, -⟩, -⟩ := C.2.2.2.2.2.2.2.2.2.2.1
  have h2 := kk p e Rm s m args below meth c H locs cells slots mc ms ls C r hH hS hc hl
  have e2 : gk_v X (.retAddr 1) = .ref t := e1
  rw [List.map_cons, e2] at h2
  exact va_gets C.1 C.2.1 h1 hS C.2.2.2.2.1 (C.2.2.2.2.2.1 _ hw) (fun _ h => h) hd h2
theorem ev_getsB {idx : Nat} (hw : Cond.fieldLink M.y.cls idx "GateHouse$Phases" "BEHIND" "[I" ∈ gG) (hd : decode M.cc pc = .ok (.getstatic idx, 3)) (kk : EvW X M d k j (pc + 3) L (.retAddr 2 :: st) S R) : EvW X M d k j pc L st S R := by
  intro p e Rm s m args below meth c H locs cells slots mc ms ls C r hH hS hc hl
  obtain ⟨-, -, ⟨t, e1, h1, -⟩, -⟩ := C.2.2.2.2.2.2.2.2.2.2.1
  have h2 := kk p e Rm s m args below meth c H locs cells slots mc ms ls C r hH hS hc hl
  have e2 : gk_v X (.retAddr 2) = .ref t := e1
  rw [List.map_cons, e2] at h2
  exact va_gets C.1 C.2.1 h1 hS C.2.2.2.2.1 (C.2.2.2.2.2.1 _ hw) (fun _ h => h) hd h2
theorem ev_getsY {idx : Nat} (hw : Cond.fieldLink M.y.cls idx "GateHouse$Phases" "LIFETIMES" "[I" ∈ gG) (hd : decode M.cc pc = .ok (.getstatic idx, 3)) (kk : EvW X M d k j (pc + 3) L (.retAddr 3 :: st) S R) : EvW X M d k j pc L st S R := by
  intro p e Rm s m args below meth c H locs cells slots mc ms ls C r hH hS hc hl
  obtain ⟨-, -, -, ⟨t, e1, h1, -⟩, -⟩ := C.2.2.2.2.2.2.2.2.2.2.1
  have h2 := kk p e Rm s m args below meth c H locs cells slots mc ms ls C r hH hS hc hl
  have e2 : gk_v X (.retAddr 3) = .ref t := e1
  rw [List.map_cons, e2] at h2
  exact va_gets C.1 C.2.1 h1 hS C.2.2.2.2.1 (C.2.2.2.2.2.1 _ hw) (fun _ h => h) hd h2
theorem ev_getsTN {idx : Nat} (hw : Cond.fieldLinkNest M.y.cls idx "GateHouse" "TOPS" "[J" "GateHouse" ∈ gN) (hd : decode M.cc pc = .ok (.getstatic idx, 3)) (kk : EvW X M d k j (pc + 3) L (.retAddr 1 :: st) S R) : EvW X M d k j pc L st S R := by
  intro p e Rm s m args below meth c H locs cells slots mc ms ls C r hH hS hc hl
  obtain ⟨-, ⟨t, e1, h1, -⟩, -, -, -, -, -, -, -, -, hN, -⟩ := C.2.2.2.2.2.2.2.2.2.2.1
  have h2 := kk p e Rm s m args below meth c H locs cells slots mc ms ls C r hH hS hc hl
  have e2 : gk_v X (.retAddr 1) = .ref t := e1
  rw [List.map_cons, e2] at h2
  exact va_getsN C.1 C.2.1 h1 hS C.2.2.2.2.1 (va_Nw.use rfl (hN _ hw)) (fun _ h => h) hd h2
theorem ev_getsC {idx : Nat} (hw : Cond.fieldLink M.y.cls idx "java/lang/String" "COMPACT_STRINGS" "Z" ∈ gG) (hd : decode M.cc pc = .ok (.getstatic idx, 3)) (kk : EvW X M d k j (pc + 3) L (.int 1 :: st) S R) : EvW X M d k j pc L st S R := by
  intro p e Rm s m args below meth c H locs cells slots mc ms ls C r hH hS hc hl
  obtain ⟨-, -, -, -, h1, -⟩ := C.2.2.2.2.2.2.2.2.2.2.1
  exact va_gets C.1 C.2.1 h1 hS C.2.2.2.2.1 (C.2.2.2.2.2.1 _ hw) (fun _ h => h) hd (kk p e Rm s m args below meth c H locs cells slots mc ms ls C r hH hS hc hl)
theorem ev_getsF {idx : Nat} (hw : Cond.fieldLink M.y.cls idx "jdk/internal/util/Preconditions" "SIOOBE_FORMATTER" "Ljava/util/function/BiFunction;" ∈ gG) (hd : decode M.cc pc = .ok (.getstatic idx, 3)) (kk : EvW X M d k j (pc + 3) L (.retAddr 4 :: st) S R) : EvW X M d k j pc L st S R := by
  intro p e Rm s m args below meth c H locs cells slots mc ms ls C r hH hS hc hl
  obtain ⟨-, -, -, -, -, h1, -⟩ := C.2.2.2.2.2.2.2.2.2.2.1
  exact va_gets C.1 C.2.1 h1 hS C.2.2.2.2.1 (C.2.2.2.2.2.1 _ hw) (fun _ h => h) hd (kk p e Rm s m args below meth c H locs cells slots mc ms ls C r hH hS hc hl)
theorem ev_caldT {i : Int32} (hin : vp_in i 7) (hd : decode M.cc pc = .ok (.laload, 1)) (kk : EvW X M d k j (pc + 1) L (.long (gk_tops i.toNatClampNeg) :: st) S R) : EvW X M d k j pc L (.int i :: .retAddr 1 :: st) S R := by
  intro p e Rm s m args below meth c H locs cells slots mc ms ls C r hH hS hc hl
  obtain ⟨-, ⟨t, e1, -, h1⟩, -⟩ := C.2.2.2.2.2.2.2.2.2.2.1
  have e2 : gk_v X (.retAddr 1) = .ref t := e1
  rw [List.map_cons, List.map_cons, e2]
  exact va_tl C.1 C.2.1 h1 hS hin rfl hd (kk p e Rm s m args below meth c H locs cells slots mc ms ls C r hH hS hc hl)
theorem ev_caldB {i : Int32} (hin : vp_in i 84) (hd : decode M.cc pc = .ok (.iaload, 1)) (kk : EvW X M d k j (pc + 1) L (.int (gk_beh i.toNatClampNeg) :: st) S R) : EvW X M d k j pc L (.int i :: .retAddr 2 :: st) S R := by
  intro p e Rm s m args below meth c H locs cells slots mc ms ls C r hH hS hc hl
  obtain ⟨-, -, ⟨t, e1, -, h1⟩, -⟩ := C.2.2.2.2.2.2.2.2.2.2.1
  have e2 : gk_v X (.retAddr 2) = .ref t := e1
  rw [List.map_cons, List.map_cons, e2]
  exact va_ti C.1 C.2.1 h1 hS hin rfl hd (kk p e Rm s m args below meth c H locs cells slots mc ms ls C r hH hS hc hl)
theorem ev_caldY {i : Int32} (hin : vp_in i 7) (hd : decode M.cc pc = .ok (.iaload, 1)) (kk : EvW X M d k j (pc + 1) L (.int (gk_life i.toNatClampNeg) :: st) S R) : EvW X M d k j pc L (.int i :: .retAddr 3 :: st) S R := by
  intro p e Rm s m args below meth c H locs cells slots mc ms ls C r hH hS hc hl
  obtain ⟨-, -, -, ⟨t, e1, -, h1⟩, -⟩ := C.2.2.2.2.2.2.2.2.2.2.1
  have e2 : gk_v X (.retAddr 3) = .ref t := e1
  rw [List.map_cons, List.map_cons, e2]
  exact va_ti C.1 C.2.1 h1 hS hin rfl hd (kk p e Rm s m args below meth c H locs cells slots mc ms ls C r hH hS hc hl)
theorem ev_sld {i : Int32} (hin : vp_in i X.sl) (hd : decode M.cc pc = .ok (.iaload, 1)) (kk : EvW X M d k j (pc + 1) L (.int (X.xs i.toNatClampNeg) :: st) S R) : EvW X M d k j pc L (.int i :: .retAddr 0 :: st) S R := by
  intro p e Rm s m args below meth c H locs cells slots mc ms ls C r hH hS hc hl
  obtain ⟨⟨b, e1, h1, h2⟩, -⟩ := C.2.2.2.2.2.2.2.2.2.2.1
  have e2 : gk_v X (.retAddr 0) = .ref b := e1
  rw [List.map_cons, List.map_cons, e2]
  exact va_sld C.1 C.2.1 h1 (Nat.lt_of_lt_of_le h2 C.2.2.2.2.2.2.2.2.2.2.2.1) (Nat.not_le.mpr h2) hS hin hd (kk p e Rm s m args below meth c H locs cells slots mc ms ls C r hH hS hc hl)
theorem ev_slen (hd : decode M.cc pc = .ok (.arraylength, 1)) (kk : EvW X M d k j (pc + 1) L (.int (Int32.ofNat X.sl) :: st) S R) : EvW X M d k j pc L (.retAddr 0 :: st) S R := by
  intro p e Rm s m args below meth c H locs cells slots mc ms ls C r hH hS hc hl
  obtain ⟨⟨b, e1, h1, h2⟩, -⟩ := C.2.2.2.2.2.2.2.2.2.2.1
  have e2 : gk_v X (.retAddr 0) = .ref b := e1
  rw [List.map_cons, e2]
  exact va_slen C.1 C.2.1 h1 (Nat.lt_of_lt_of_le h2 C.2.2.2.2.2.2.2.2.2.2.2.1) (Nat.not_le.mpr h2) hS hd (kk p e Rm s m args below meth c H locs cells slots mc ms ls C r hH hS hc hl)
theorem ev_ldcS {i idx : Nat} (hi : i < 34) (h1 : (gk_s i).1 = M.y.cls) (h2 : (gk_s i).2.1 = idx) (hd : decode M.cc pc = .ok (.ldc idx, 2)) (kk : EvW X M d k j (pc + 2) L (.retAddr (10 + i) :: st) S R) : EvW X M d k j pc L st S R := by
  intro p e Rm s m args below meth c H locs cells slots mc ms ls C r hH hS hc hl
  obtain ⟨-, -, -, -, -, -, -, hs, -⟩ := C.2.2.2.2.2.2.2.2.2.2.1
  obtain ⟨a, v, e1, -, g1, -⟩ := hs i hi
  have h3 := kk p e Rm s m args below meth c H locs cells slots mc ms ls C r hH hS hc hl
  have e2 : gk_v X (.retAddr (10 + i)) = .ref a := e1
  rw [List.map_cons, e2] at h3
  rw [h1, h2] at g1
  exact va_ldcS C.1 C.2.1 C.2.2.2.2.1 g1 hd h3
theorem va_ldcSW {p : Program} {l : Launch} {e : Env} {R : Room} {s : State} {m : MethodId} {args : Array Value} {below : List Frame} {meth : Method} {c : Code} {H : Heap} {locs : List Loc} {cells slots : Nat} {Q : State → Prop} {cc : ByteArray} {pc : Nat} {ls : Array Slot} {rest : List Value} (hexec : p.tables.exec = Jvm.exec) (hb : c.code = cc) {own tx : String} {index q : Nat} (hown : s.vm.findClass own = some m.cls) (hZ : vk_R own index tx q s) (hdg : decode cc pc = .ok (.ldc_w index, 3))
    (k : W p l e R s m args below meth c H locs cells slots Q (F0 m (pc + 3) ls (.ref q :: rest))) : W p l e R s m args below meth c H locs cells slots Q (F0 m pc ls rest) := by
  intro T hT X
  obtain ⟨t, a1, b1⟩ := k T hT X
  exact ⟨t, X.ldcStringW hexec hown (text := tx) (a := q) hZ.1 hZ.2 (g := F0 m pc ls rest) rfl (by rw [hb]; exact hdg) t a1, b1⟩
theorem ev_ldcSW {i idx : Nat} (hi : i < 34) (h1 : (gk_s i).1 = M.y.cls) (h2 : (gk_s i).2.1 = idx) (hd : decode M.cc pc = .ok (.ldc_w idx, 3)) (kk : EvW X M d k j (pc + 3) L (.retAddr (10 + i) :: st) S R) : EvW X M d k j pc L st S R := by
  intro p e Rm s m args below meth c H locs cells slots mc ms ls C r hH hS hc hl
  obtain ⟨-, -, -, -, -, -, -, hs, -⟩ := C.2.2.2.2.2.2.2.2.2.2.1
  obtain ⟨a, v, e1, -, g1, -⟩ := hs i hi
  have h3 := kk p e Rm s m args below meth c H locs cells slots mc ms ls C r hH hS hc hl
  have e2 : gk_v X (.retAddr (10 + i)) = .ref a := e1
  rw [List.map_cons, e2] at h3
  rw [h1, h2] at g1
  exact va_ldcSW C.1 C.2.1 C.2.2.2.2.1 g1 hd h3
/-- a text's bytes, its coder -/
theorem ev_sval {i idx : Nat} (hi : i < 34) (hw : Cond.fieldLink M.y.cls idx "java/lang/String" "value" "[B" ∈ gG) (hd : decode M.cc pc = .ok (.getfield idx, 3)) (kk : EvW X M d k j (pc + 3) L (.retAddr (60 + i) :: st) S R) : EvW X M d k j pc L (.retAddr (10 + i) :: st) S R := by
  intro p e Rm s m args below meth c H locs cells slots mc ms ls C r hH hS hc hl
  obtain ⟨-, -, -, -, -, -, -, hs, -⟩ := C.2.2.2.2.2.2.2.2.2.2.1
  obtain ⟨a, v, e1, e3, -, -, -, g1, -⟩ := hs i hi
  have h3 := kk p e Rm s m args below meth c H locs cells slots mc ms ls C r hH hS hc hl
  have e2 : gk_v X (.retAddr (10 + i)) = .ref a := e1
  have e4 : gk_v X (.retAddr (60 + i)) = .ref v := e3
  rw [List.map_cons, e4] at h3
  rw [List.map_cons, e2]
  exact vk_getf C.1 C.2.1 g1 hS C.2.2.2.2.1 (C.2.2.2.2.2.1 _ hw) (fun _ h => h) hd h3
theorem ev_scod {i idx : Nat} (hi : i < 34) (hw : Cond.fieldLink M.y.cls idx "java/lang/String" "coder" "B" ∈ gG) (hd : decode M.cc pc = .ok (.getfield idx, 3)) (kk : EvW X M d k j (pc + 3) L (.int 0 :: st) S R) : EvW X M d k j pc L (.retAddr (10 + i) :: st) S R := by
  intro p e Rm s m args below meth c H locs cells slots mc ms ls C r hH hS hc hl
  obtain ⟨-, -, -, -, -, -, -, hs, -⟩ := C.2.2.2.2.2.2.2.2.2.2.1
  obtain ⟨a, v, e1, e3, -, -, g1, -, -⟩ := hs i hi
  have e2 : gk_v X (.retAddr (10 + i)) = .ref a := e1
  rw [List.map_cons, e2]
  exact vk_getf C.1 C.2.1 g1 hS C.2.2.2.2.1 (C.2.2.2.2.2.1 _ hw) (fun _ h => h) hd (kk p e Rm s m args below meth c H locs cells slots mc ms ls C r hH hS hc hl)
theorem ev_sbal {i : Nat} {x : Int32} (hi : i < 34) (hin : vp_in x (gk_s i).2.2.2.length) (hd : decode M.cc pc = .ok (.baload, 1)) (kk : EvW X M d k j (pc + 1) L (.int ((gk_s i).2.2.2.getD x.toNatClampNeg 0) :: st) S R) : EvW X M d k j pc L (.int x :: .retAddr (60 + i) :: st) S R := by
  intro p e Rm s m args below meth c H locs cells slots mc ms ls C r hH hS hc hl
  obtain ⟨-, -, -, -, -, -, -, hs, -⟩ := C.2.2.2.2.2.2.2.2.2.2.1
  obtain ⟨a, v, e1, e3, -, -, -, -, g1⟩ := hs i hi
  have e4 : gk_v X (.retAddr (60 + i)) = .ref v := e3
  rw [List.map_cons, List.map_cons, e4]
  exact va_tb C.1 C.2.1 g1 hS hin rfl hd (kk p e Rm s m args below meth c H locs cells slots mc ms ls C r hH hS hc hl)
theorem ev_sbln {i : Nat} (hi : i < 34) (hd : decode M.cc pc = .ok (.arraylength, 1)) (kk : EvW X M d k j (pc + 1) L (.int (Int32.ofNat (gk_s i).2.2.2.length) :: st) S R) : EvW X M d k j pc L (.retAddr (60 + i) :: st) S R := by
  intro p e Rm s m args below meth c H locs cells slots mc ms ls C r hH hS hc hl
  obtain ⟨-, -, -, -, -, -, -, hs, -⟩ := C.2.2.2.2.2.2.2.2.2.2.1
  obtain ⟨a, v, e1, e3, -, -, -, -, g1⟩ := hs i hi
  have e4 : gk_v X (.retAddr (60 + i)) = .ref v := e3
  rw [List.map_cons, e4]
  exact va_tlen C.1 C.2.1 g1 hS rfl hd (kk p e Rm s m args below meth c H locs cells slots mc ms ls C r hH hS hc hl)
end EVC
