section STA
variable {s : State} {b : Nat} {args : Array Value}
theorem gz_arr1 {ty : FieldType} (h : (Cond.arrayClass ty).before args s = true) (hn : ∀ C, ty ≠ .object C) : ∃ c, ArrOfT s c ty ∧ va_RA s c ty := by
  obtain ⟨c, k, comp, f1, f2, f3⟩ := Cond.arrayClass_spec (args := args) (first := s) (o := none) (s := s) (idx := []) h
  refine ⟨c, fun N z => ⟨(fun k h => by cases h), k, f2, comp, f3⟩, ?_⟩
  cases ty <;> first | exact f1 | exact absurd rfl (hn _)
theorem gz_arr2 {C : String} (h : (Cond.arrayOver (.object C)).before args s = true) : ∃ c, ArrOfT s c (.object C) ∧ va_RA s c (.object C) := by
  obtain ⟨comp, c, k, f0, -, f2, f3, f4⟩ := Cond.arrayOver_spec (args := args) (first := s) (o := none) (s := s) (idx := []) h
  exact ⟨c, fun N z => ⟨(fun k h => by cases h), k, f2, comp, f3⟩, k, comp, f2, f3, f0, f4⟩
theorem gz_arr3 {t : FieldType} (h : (Cond.arrayOver (.array t)).before args s = true) : ∃ c, ArrOfT s c (.array t) ∧ va_RA s c (.array t) := by
  obtain ⟨comp, c, k, f0, -, f2, f3, f4⟩ := arrayOverA_spec (args := args) (first := s) (o := none) (s := s) (idx := []) h
  exact ⟨c, fun N z => ⟨(fun k h => by cases h), k, f2, comp, f3⟩, f4⟩
/-- a text at the start -/
theorem gz_txt (hts : ∀ w ∈ lw_tbl, w.before args s = true) (hz : ∀ w ∈ gz, w.before args s = true) {A : Nat → Prop} (hA : ∀ a : Nat, a < s.heap.size → ¬ A a) {i : Nat} (hi : i < 34) : ∃ a v, vk_R (gk_s i).1 (gk_s i).2.1 (gk_s i).2.2.1 a s ∧ va_O "java/lang/String" a A s s.heap ∧ va_OF "java/lang/String" "coder" "B" (.int 0) a A s s.heap ∧ va_OF "java/lang/String" "value" "[B" (.ref v) a A s s.heap ∧ va_T .byte v (gk_s i).2.2.2.length (fun j => .int ((gk_s i).2.2.2.getD j 0)) A s s.heap := by
  have hm : ∀ w ∈ gz_one i, w.before args s = true := fun w hw => hz w (gz_sub gz_str (List.mem_flatMap.mpr ⟨i, List.mem_range.mpr hi, hw⟩))
  have h1 := hm (.exactly (gz_t i) "java/lang/String") (by simp [gz_one])
  have h2 := hm (.eq (.field (gz_t i) "java/lang/String" "coder" "B") (.int 0)) (by simp [gz_one])
  have h3 := hm (.arrayOf (gz_v i) .byte) (by simp [gz_one])
  have h4 := hm (.eq (.length (gz_v i)) (.int (Int32.ofNat (gk_s i).2.2.2.length))) (by simp [gz_one])
  have h5 : ∀ j, j < (gk_s i).2.2.2.length → (Cond.eq (.elem (gz_v i) (.int (Int32.ofNat j))) (.int ((gk_s i).2.2.2.getD j 0))).before args s = true := fun j hj => hm _ (List.mem_append_right _ (List.mem_map.mpr ⟨j, List.mem_range.mpr hj, rfl⟩))
  have hlen : ∀ i, i < 34 → (gk_s i).2.2.2.length < 2 ^ 31 := by decide +kernel
  obtain ⟨a, c, cA, kA, q1, q2, q3, q4, q5, q6, -⟩ := Cond.exactly_spec (args := args) (first := s) (o := none) (s := s) (idx := []) (t := gz_t i) (cls := "java/lang/String") h1
  obtain ⟨t, ht, hT⟩ := va_Tof (f := fun j => .int ((gk_s i).2.2.2.getD j 0)) (A := A) (hlen i hi) h3 (va_eqt h4) (fun j hj => va_eqt (h5 j hj)) hA
  have hr := hts _ (gz_ref i hi)
  exact ⟨a, t, vk_R.of hr q1, ⟨cA, q3, q5, by rw [q6]; exact q2, hA a (Array.getElem?_eq_some_iff.mp q3).1⟩, vk_OFof q1 (va_eqt h2) hA, vk_OFof q1 ht hA, hT⟩
theorem gz_isref {t : Term} (h : (Cond.isRef t).before args s = true) : t.eval args s none [] s = some .null ∨ ∃ a, t.eval args s none [] s = some (.ref a) := by
  simp only [Cond.before, Cond.holds, Cond.value] at h
  cases hv : t.eval args s none [] s with
  | none => rw [hv] at h; simp at h
  | some v => cases v <;> simp [hv] at h ⊢
/-- all at once -/
theorem gz_start (l : Launch) (hts : ∀ w ∈ lw_tbl, w.before args s = true) (hz : ∀ w ∈ gz, w.before args s = true) {L : Nat} {xs : Nat → Int32} (hX : va_X b L xs s s.heap) (hb : b < s.heap.size) : ∃ X : gk_X, X.l = l ∧ X.B = s.heap.size ∧ X.kc 0 = .ref b ∧ X.sl = L ∧ X.xs = xs ∧ va_K X.D vwCl (gk_tys X) s ∧ gk_St X s s.heap := by
  have hA : ∀ a : Nat, a < s.heap.size → ¬ (fun q : Nat => s.heap.size ≤ q) a := fun a ha => Nat.not_le.mpr ha
  have hlay : ∀ w, w ∈ lw_tbl → w.before args s = true := hts
  -- classes
  have hk : ∀ i : Nat, ∃ q : ClassId × (Nat → Nat), i < 10 → u_Kn s (gk_q i).1 (gk_q i).2.1 (gk_q i).2.2 q.1 q.2 := by
    intro i
    by_cases hi : i < 10
    · obtain ⟨cC, iS, h⟩ := u_known (args := args) (ws := gG) (n := (gk_q i).2.2) (fun w hw => hts w (List.mem_filter.mp hw).1) (gk_in hi) (hts _ (gz_inst i hi))
      exact ⟨(cC, iS), fun _ => h⟩
    · exact ⟨(0, fun _ => 0), fun h => absurd h hi⟩
  obtain ⟨kk, hkk⟩ := Classical.axiomOfChoice hk
  -- arrays
  obtain ⟨a0, ha0⟩ := gz_arr1 (hts _ (gz_lay (.arrayClass .byte) (by decide))) (by intro C h; cases h)
  obtain ⟨a1, ha1⟩ := gz_arr1 (hts _ (gz_lay (.arrayClass .int) (by decide))) (by intro C h; cases h)
  obtain ⟨a2, ha2⟩ := gz_arr1 (hts _ (gz_lay (.arrayClass .long) (by decide))) (by intro C h; cases h)
  obtain ⟨a3, ha3⟩ := gz_arr1 (hts _ (gz_lay (.arrayClass .boolean) (by decide))) (by intro C h; cases h)
  obtain ⟨a4, ha4⟩ := gz_arr2 (hts _ (gz_lay (.arrayOver (.object "GateHouse$Connection")) (by decide)))
  obtain ⟨a5, ha5⟩ := gz_arr2 (hts _ (gz_lay (.arrayOver (.object "GateHouse$Rule")) (by decide)))
  obtain ⟨a6, ha6⟩ := gz_arr2 (hts _ (gz_lay (.arrayOver (.object "GateHouse$RuleList")) (by decide)))
  obtain ⟨a7, ha7⟩ := gz_arr3 (hts _ (gz_lay (.arrayOver (.array .int)) (by decide)))
  obtain ⟨a8, ha8⟩ := gz_arr3 (hts _ (gz_lay (.arrayOver (.array .long)) (by decide)))
  -- texts
  have ht : ∀ i : Nat, ∃ q : Nat × Nat, i < 34 → vk_R (gk_s i).1 (gk_s i).2.1 (gk_s i).2.2.1 q.1 s ∧ va_O "java/lang/String" q.1 (fun q : Nat => s.heap.size ≤ q) s s.heap ∧ va_OF "java/lang/String" "coder" "B" (.int 0) q.1 (fun q : Nat => s.heap.size ≤ q) s s.heap ∧ va_OF "java/lang/String" "value" "[B" (.ref q.2) q.1 (fun q : Nat => s.heap.size ≤ q) s s.heap ∧ va_T .byte q.2 (gk_s i).2.2.2.length (fun j => .int ((gk_s i).2.2.2.getD j 0)) (fun q : Nat => s.heap.size ≤ q) s s.heap := by
    intro i
    by_cases hi : i < 34
    · obtain ⟨a, v, h⟩ := gz_txt hts hz hA hi
      exact ⟨(a, v), fun _ => h⟩
    · exact ⟨(0, 0), fun h => absurd h hi⟩
  obtain ⟨tt, htt⟩ := Classical.axiomOfChoice ht
  -- statics
  have z1 : ∀ w ∈ ([.arrayOf gz_T .long, .eq (.length gz_T) (.int (Int32.ofNat 7))] ++ (List.range 7).map fun j => .eq (.elem gz_T (.int (Int32.ofNat j))) (.long (gk_tops j)) : List Cond), w.before args s = true := fun w hw => hz w (gz_sub gz_tops hw)
  have z2 : ∀ w ∈ ([.arrayOf gz_B .int, .eq (.length gz_B) (.int (Int32.ofNat 84))] ++ (List.range 84).map fun j => .eq (.elem gz_B (.int (Int32.ofNat j))) (.int (gk_beh j)) : List Cond), w.before args s = true := fun w hw => hz w (gz_sub gz_beh hw)
  have z3 : ∀ w ∈ ([.arrayOf gz_Y .int, .eq (.length gz_Y) (.int (Int32.ofNat 7))] ++ (List.range 7).map fun j => .eq (.elem gz_Y (.int (Int32.ofNat j))) (.int (gk_life j)) : List Cond), w.before args s = true := fun w hw => hz w (gz_sub gz_life hw)
  obtain ⟨t1, e1, T1⟩ := va_Tof (A := fun q : Nat => s.heap.size ≤ q) (f := fun j => .long (gk_tops j)) (N := 7) (by decide) (z1 _ (List.mem_cons_self)) (va_eqt (z1 _ (List.mem_cons_of_mem _ List.mem_cons_self))) (fun j hj => va_eqtl (z1 _ (List.mem_append_right _ (List.mem_map.mpr ⟨j, List.mem_range.mpr hj, rfl⟩)))) hA
  obtain ⟨t2, e2, T2⟩ := va_Tof (A := fun q : Nat => s.heap.size ≤ q) (f := fun j => .int (gk_beh j)) (N := 84) (by decide) (z2 _ (List.mem_cons_self)) (va_eqt (z2 _ (List.mem_cons_of_mem _ List.mem_cons_self))) (fun j hj => va_eqt (z2 _ (List.mem_append_right _ (List.mem_map.mpr ⟨j, List.mem_range.mpr hj, rfl⟩)))) hA
  obtain ⟨t3, e3, T3⟩ := va_Tof (A := fun q : Nat => s.heap.size ≤ q) (f := fun j => .int (gk_life j)) (N := 7) (by decide) (z3 _ (List.mem_cons_self)) (va_eqt (z3 _ (List.mem_cons_of_mem _ List.mem_cons_self))) (fun j hj => va_eqt (z3 _ (List.mem_append_right _ (List.mem_map.mpr ⟨j, List.mem_range.mpr hj, rfl⟩)))) hA
  have y1 := hts _ (gz_lay (.laysStatic "GateHouse" "TOPS" "[J") (by decide))
  have y2 := hts _ (gz_lay (.laysStatic "GateHouse$Phases" "BEHIND" "[I") (by decide))
  have y3 := hts _ (gz_lay (.laysStatic "GateHouse$Phases" "LIFETIMES" "[I") (by decide))
  have y4 := hts _ (gz_lay (.laysStatic "java/lang/String" "COMPACT_STRINGS" "Z") (by decide))
  have y5 := hts _ (gz_lay (.laysStatic "java/lang/Throwable" "SUPPRESSED_SENTINEL" "Ljava/util/List;") (by decide))
  have y6 := hts _ (gz_lay (.laysStatic "java/lang/Throwable" "UNASSIGNED_STACK" "[Ljava/lang/StackTraceElement;") (by decide))
  have y7 := hts _ (gz_lay (.laysStatic "jdk/internal/util/Preconditions" "SIOOBE_FORMATTER" "Ljava/util/function/BiFunction;") (by decide))
  have i1 := hts _ (gz_lay (.initialized "GateHouse") (by decide))
  have i2 := hts _ (gz_lay (.initialized "GateHouse$Phases") (by decide))
  have i4 := hts _ (gz_lay (.initialized "java/lang/String") (by decide))
  have i5 := hts _ (gz_lay (.initialized "java/lang/Throwable") (by decide))
  have i7 := hts _ (gz_lay (.initialized "jdk/internal/util/Preconditions") (by decide))
  have m1 := hz _ (List.mem_of_mem_take (gz_misc (.isRef (.static "java/lang/Throwable" "UNASSIGNED_STACK" "[Ljava/lang/StackTraceElement;")) (by decide)))
  have m2 := hz _ (List.mem_of_mem_take (gz_misc (.isRef (.static "java/lang/Throwable" "SUPPRESSED_SENTINEL" "Ljava/util/List;")) (by decide)))
  have m3 := hz _ (List.mem_of_mem_take (gz_misc (.eq (.static "java/lang/String" "COMPACT_STRINGS" "Z") (.int 1)) (by decide)))
  have m4 := hz _ (List.mem_of_mem_take (gz_misc (.isRef (.static "jdk/internal/util/Preconditions" "SIOOBE_FORMATTER" "Ljava/util/function/BiFunction;")) (by decide)))
  obtain ⟨vF, hF1, hF2⟩ : ∃ vF : Value, (Term.static "jdk/internal/util/Preconditions" "SIOOBE_FORMATTER" "Ljava/util/function/BiFunction;").eval args s none [] s = some vF ∧ (vF = .null ∨ ∃ a, vF = .ref a) := by
    rcases gz_isref m4 with h | ⟨a, h⟩
    · exact ⟨_, h, Or.inl rfl⟩
    · exact ⟨_, h, Or.inr ⟨a, rfl⟩⟩
  refine ⟨(l, (fun i => (kk i).1, fun i => (kk i).2), s.heap.size, (fun k => if k = 10 then a0 else if k = 11 then a1 else if k = 12 then a2 else if k = 13 then a3 else if k = 14 then a4 else if k = 15 then a5 else if k = 16 then a6 else if k = 17 then a7 else a8), (fun c => if c = 0 then .ref b else if c = 1 then .ref t1 else if c = 2 then .ref t2 else if c = 3 then .ref t3 else if c = 4 then vF else if c < 60 then .ref (tt (c - 10)).1 else .ref (tt (c - 60)).2), L, xs), rfl, rfl, rfl, rfl, rfl, ⟨?_, ?_⟩, ⟨b, rfl, hX, hb⟩, ⟨t1, rfl, va_Zref y1 i1 e1 hA, T1⟩, ⟨t2, rfl, va_Zref y2 i2 e2 hA, T2⟩, ⟨t3, rfl, va_Zref y3 i2 e3 hA, T3⟩, va_Zof y4 i4 (va_eqt m3) hA, va_Zof y7 i7 hF1 hA, hF2, ?_, ⟨vx_Zqof y6 i5 m1 hA, vx_Zqof y5 i5 m2 hA⟩, ⟨va_AO.of (hts _ (gz_lay (.arrayOver (.object "GateHouse$Connection")) (by decide))), va_AO.of (hts _ (gz_lay (.arrayOver (.object "GateHouse$Rule")) (by decide))), va_AO.of (hts _ (gz_lay (.arrayOver (.object "GateHouse$RuleList")) (by decide))), hts _ (gz_lay (.arrayOver (.array .int)) (by decide)), hts _ (gz_lay (.arrayOver (.array .long)) (by decide))⟩, fun w hw => va_Nw.of (gN_ot w hw) (hts w (gN_tbl w hw)), fun q hq => va_Nc.of (hz _ (List.mem_of_mem_drop (List.mem_of_mem_take (gz_nc q hq))))⟩
  · intro c q hq
    have hc : c < 10 := (List.getElem?_eq_some_iff.mp hq).1
    have e := gk_cq hc
    cases Option.some.inj (hq.symm.trans e)
    exact hkk c hc
  · intro k q hq
    match k, hq with
    | 0, hq => cases hq; exact ha0
    | 1, hq => cases hq; exact ha1
    | 2, hq => cases hq; exact ha2
    | 3, hq => cases hq; exact ha3
    | 4, hq => cases hq; exact ha4
    | 5, hq => cases hq; exact ha5
    | 6, hq => cases hq; exact ha6
    | 7, hq => cases hq; exact ha7
    | 8, hq => cases hq; exact ha8
    | k + 9, hq => simp [gk_tys] at hq
  · intro i hi
    have h := htt i hi
    refine ⟨(tt i).1, (tt i).2, ?_, ?_, h.1, h.2.1, h.2.2.1, h.2.2.2.1, h.2.2.2.2⟩
    · show (if 10 + i = 0 then _ else _) = _
      rw [if_neg (by omega), if_neg (by omega), if_neg (by omega), if_neg (by omega), if_neg (by omega), if_pos (by omega), show 10 + i - 10 = i by omega]
    · show (if 60 + i = 0 then _ else _) = _
      rw [if_neg (by omega), if_neg (by omega), if_neg (by omega), if_neg (by omega), if_neg (by omega), if_neg (by omega), show 60 + i - 60 = i by omega]
end STA
