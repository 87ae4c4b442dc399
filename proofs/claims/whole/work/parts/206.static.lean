/-! WHAT STANDS AHEAD OF THE LAW: constants, statics, words of the tables that no word list carries -/
/-- words of the tables that are no good ones, but stay -/
def gN : List Cond := [.methodLinkNest "GateHouse$TextReader" 151 ⟨"GateHouse", "actionWord", "(I)Ljava/lang/String;"⟩ "GateHouse", .methodLinkNest "GateHouse$TextReader" 155 ⟨"GateHouse", "partWord", "(I)Ljava/lang/String;"⟩ "GateHouse", .methodLinkNest "GateHouse$TextReader" 158 ⟨"GateHouse", "stateWord", "(I)Ljava/lang/String;"⟩ "GateHouse", .methodLinkNest "GateHouse$ListWriter" 23 ⟨"GateHouse", "actionWord", "(I)Ljava/lang/String;"⟩ "GateHouse", .methodLinkNest "GateHouse$ListWriter" 57 ⟨"GateHouse", "partWord", "(I)Ljava/lang/String;"⟩ "GateHouse", .methodLinkNest "GateHouse$ListWriter" 86 ⟨"GateHouse", "stateWord", "(I)Ljava/lang/String;"⟩ "GateHouse",
  .fieldLinkNest "GateHouse$Rule" 28 "GateHouse" "TOPS" "[J" "GateHouse", .fieldLinkNest "GateHouse$TextReader" 147 "GateHouse" "TOPS" "[J" "GateHouse", .fieldLinkNest "GateHouse$Packet" 19 "GateHouse" "TOPS" "[J" "GateHouse", .fieldLinkNest "GateHouse$Search" 105 "GateHouse" "TOPS" "[J" "GateHouse",
  .castable "java/lang/IndexOutOfBoundsException" "java/lang/IndexOutOfBoundsException", .castable "java/util/NoSuchElementException" "java/util/NoSuchElementException", .castable "java/lang/IllegalArgumentException" "java/lang/IllegalArgumentException",
  .declares ⟨"java/lang/RuntimeException", "<init>", "(Ljava/lang/String;)V"⟩, .declares ⟨"java/lang/Exception", "<init>", "(Ljava/lang/String;)V"⟩, .declares ⟨"java/lang/Throwable", "<init>", "(Ljava/lang/String;)V"⟩]
def gk_isN : Cond → Bool
  | .methodLinkNest .. => true
  | .fieldLinkNest .. => true
  | .castable .. => true
  | .declares _ => true
  | _ => false
theorem gN_is : ∀ w ∈ gN, gk_isN w = true := by decide +kernel
theorem gk_warm {w : Cond} (hw : gk_isN w = true) {s U : State} (hW : s.WarmedH U.vm) (h : va_Nw w s) : va_Nw w U := by
  cases w <;> first | exact va_Nw.warmM hW h | exact va_Nw.warmF hW h | exact va_Nw.warmC hW h | exact va_Nw.warmD hW h | cases hw
theorem gk_sameN {w : Cond} (hw : gk_isN w = true) {s U : State} (hv : s.vm = U.vm) (h : va_Nw w s) : va_Nw w U := by
  cases w <;> first | exact va_Nw.same rfl hv h | cases hw
/-- pairs of classes the first of which is none of the second -/
def gk_nc : List (String × String) := [("java/util/NoSuchElementException", "java/lang/IndexOutOfBoundsException"), ("java/lang/IllegalArgumentException", "java/lang/IndexOutOfBoundsException"), ("java/lang/IndexOutOfBoundsException", "java/util/NoSuchElementException"), ("java/lang/IllegalArgumentException", "java/util/NoSuchElementException"), ("java/lang/IndexOutOfBoundsException", "java/lang/IllegalArgumentException"), ("java/util/NoSuchElementException", "java/lang/IllegalArgumentException")]
theorem gk_bare {u U : State} (hvm : u.vm.Alike U.vm) (comp : ClassId) : (U.vm.classes.findIdx? fun (x : Class) => match x.kind with | .array component _ => component == comp | _ => false) = (u.vm.classes.findIdx? fun (x : Class) => match x.kind with | .array component _ => component == comp | _ => false) := by
  refine (va_idx_bare U.vm comp).symm.trans (Eq.trans ?_ (va_idx_bare u.vm comp))
  first | rw [hvm.bare_eq] | rw [← hvm.bare_eq]
theorem va_AOA.moved {t : FieldType} {u U : State} (hvm : u.vm.Alike U.vm) (h : va_AOA t u) : va_AOA t U := by
  unfold va_AOA Cond.before Cond.holds at h ⊢
  simp only [Cond.value, beq_iff_eq] at h ⊢
  cases hc : u.vm.findClass (FieldType.array t).toString with
  | none => simp [hc] at h
  | some comp =>
    simp only [hc, Option.bind_some, Option.bind_eq_some_iff, Option.map_eq_some_iff] at h
    obtain ⟨c, hi, k, hk, hb⟩ := h
    obtain ⟨k', hk', he⟩ := hvm.2.2 _ _ hk
    have f1 : U.vm.findClass (FieldType.array t).toString = some comp := by rw [hvm.findClass]; exact hc
    rw [f1, Option.bind_some]
    refine Option.bind_eq_some_iff.mpr ⟨c, (gk_bare hvm comp).trans hi, Option.map_eq_some_iff.mpr ⟨k', hk', ?_⟩⟩
    have hkk : k'.kind = k.kind := by rw [he]
    rw [hkk, hvm.findClass]
    exact hb
/-- what stands ahead, at a state and in a heap -/
def gk_St (X : gk_X) (U : State) (H : Heap) : Prop :=
  (∃ b, X.kc 0 = .ref b ∧ va_X b X.sl X.xs U H ∧ b < X.B) ∧
  (∃ t, X.kc 1 = .ref t ∧ va_Z "GateHouse" "TOPS" "[J" (.ref t) X.A U H ∧ va_T .long t 7 (fun j => .long (gk_tops j)) X.A U H) ∧
  (∃ t, X.kc 2 = .ref t ∧ va_Z "GateHouse$Phases" "BEHIND" "[I" (.ref t) X.A U H ∧ va_T .int t 84 (fun j => .int (gk_beh j)) X.A U H) ∧
  (∃ t, X.kc 3 = .ref t ∧ va_Z "GateHouse$Phases" "LIFETIMES" "[I" (.ref t) X.A U H ∧ va_T .int t 7 (fun j => .int (gk_life j)) X.A U H) ∧
  va_Z "java/lang/String" "COMPACT_STRINGS" "Z" (.int 1) X.A U H ∧
  va_Z "jdk/internal/util/Preconditions" "SIOOBE_FORMATTER" "Ljava/util/function/BiFunction;" (X.kc 4) X.A U H ∧ (X.kc 4 = .null ∨ ∃ a, X.kc 4 = .ref a) ∧
  (∀ i : Nat, i < 34 → ∃ a v, X.kc (10 + i) = .ref a ∧ X.kc (60 + i) = .ref v ∧ vk_R (gk_s i).1 (gk_s i).2.1 (gk_s i).2.2.1 a U ∧ va_O "java/lang/String" a X.A U H ∧ va_OF "java/lang/String" "coder" "B" (.int 0) a X.A U H ∧ va_OF "java/lang/String" "value" "[B" (.ref v) a X.A U H ∧ va_T .byte v (gk_s i).2.2.2.length (fun j => .int ((gk_s i).2.2.2.getD j 0)) X.A U H) ∧
  (vx_Zq Bundle.tN "UNASSIGNED_STACK" Bundle.steD X.A U H ∧ vx_Zq Bundle.tN "SUPPRESSED_SENTINEL" Bundle.listD X.A U H) ∧
  (va_AO RX0 U ∧ va_AO RX5 U ∧ va_AO RX6 U ∧ va_AOA .int U ∧ va_AOA .long U) ∧
  (∀ w ∈ gN, va_Nw w U) ∧ (∀ q ∈ gk_nc, va_Nc q.1 q.2 U)
theorem gk_St.kept {X : gk_X} {U : State} {H H1 : Heap} (h : gk_St X U H) (hB : X.B ≤ H.size) (hq : ∀ a : Nat, a < H.size → ¬ X.A a → H1[a]? = H[a]?) : gk_St X U H1 := by
  obtain ⟨⟨b, b1, b2, b3⟩, ⟨t1, p1, p2, p3⟩, ⟨t2, q1, q2, q3⟩, ⟨t3, r1, r2, r3⟩, hc, hf, hf4, hs, ⟨hu, hn⟩, ha, hw, hx⟩ := h
  refine ⟨⟨b, b1, b2.kept (hq b (Nat.lt_of_lt_of_le b3 hB) (Nat.not_le.mpr b3)), b3⟩, ⟨t1, p1, p2.kept hq, p3.kept hq⟩, ⟨t2, q1, q2.kept hq, q3.kept hq⟩, ⟨t3, r1, r2.kept hq, r3.kept hq⟩, hc.kept hq, hf.kept hq, hf4, fun i hi => ?_, ⟨hu.kept hq, hn.kept hq⟩, ha, hw, hx⟩
  obtain ⟨a, v, s1, s2, s3, s4, s5, s6, s7⟩ := hs i hi
  exact ⟨a, v, s1, s2, s3, s4.kept hq, s5.kept hq, s6.kept hq, s7.kept hq⟩
theorem gk_St.warm {X : gk_X} {s U : State} {H : Heap} (hW : s.WarmedH U.vm) (h : gk_St X s H) : gk_St X U H := by
  have hv := hW.alike
  obtain ⟨⟨b, b1, b2, b3⟩, ⟨t1, p1, p2, p3⟩, ⟨t2, q1, q2, q3⟩, ⟨t3, r1, r2, r3⟩, hc, hf, hf4, hs, ⟨hu, hn⟩, ⟨a1, a2, a3, a4, a5⟩, hw, hx⟩ := h
  refine ⟨⟨b, b1, b2.moved hv, b3⟩, ⟨t1, p1, p2.moved hv, p3.moved hv⟩, ⟨t2, q1, q2.moved hv, q3.moved hv⟩, ⟨t3, r1, r2.moved hv, r3.moved hv⟩, hc.moved hv, hf.moved hv, hf4, fun i hi => ?_, ⟨hu.moved hv, hn.moved hv⟩, ⟨a1.moved hv, a2.moved hv, a3.moved hv, a4.moved hv, a5.moved hv⟩, fun w hw' => gk_warm (gN_is w hw') hW (hw w hw'), fun q hq => (hx q hq).moved hv⟩
  obtain ⟨a, v, s1, s2, s3, s4, s5, s6, s7⟩ := hs i hi
  exact ⟨a, v, s1, s2, s3.warm hW, s4.moved hv, s5.moved hv, s6.moved hv, s7.moved hv⟩
theorem gk_St.same {X : gk_X} {s U : State} {H : Heap} (hv : s.vm = U.vm) (h : gk_St X s H) : gk_St X U H := by
  have hW : s.WarmedH U.vm := by rw [← hv]; exact State.WarmedH.refl s
  exact h.warm hW
/-- a reference: a cell of the world, or a constant -/
def gk_isR : Value → Bool
  | .ref _ => true
  | .null => true
  | .retAddr c => decide (c ≤ 4) || (decide (10 ≤ c) && decide (c < 44)) || (decide (60 ≤ c) && decide (c < 94))
  | _ => false
theorem gk_isR_spec {X : gk_X} {s : State} {H : Heap} (h : gk_St X s H) {v : Value} (hv : gk_isR v = true) : gk_v X v = .null ∨ ∃ a, gk_v X v = .ref a := by
  cases v with
  | ref k => exact Or.inr ⟨_, rfl⟩
  | null => exact Or.inl rfl
  | retAddr c =>
    show X.kc c = .null ∨ ∃ a, X.kc c = .ref a
    obtain ⟨⟨b, b1, -⟩, ⟨t1, p1, -⟩, ⟨t2, q1, -⟩, ⟨t3, r1, -⟩, -, -, h4, hs, -⟩ := h
    simp only [gk_isR, Bool.or_eq_true, Bool.and_eq_true, decide_eq_true_eq] at hv
    rcases hv with (hv | ⟨h1, h2⟩) | ⟨h1, h2⟩
    · have : c = 0 ∨ c = 1 ∨ c = 2 ∨ c = 3 ∨ c = 4 := by omega
      rcases this with rfl | rfl | rfl | rfl | rfl
      · exact Or.inr ⟨_, b1⟩
      · exact Or.inr ⟨_, p1⟩
      · exact Or.inr ⟨_, q1⟩
      · exact Or.inr ⟨_, r1⟩
      · exact h4
    · obtain ⟨a, v, s1, -⟩ := hs (c - 10) (by omega)
      rw [show 10 + (c - 10) = c by omega] at s1
      exact Or.inr ⟨a, s1⟩
    · obtain ⟨a, v, -, s2, -⟩ := hs (c - 60) (by omega)
      rw [show 60 + (c - 60) = c by omega] at s2
      exact Or.inr ⟨v, s2⟩
  | int x => cases hv
  | long x => cases hv
  | float x => cases hv
  | double x => cases hv
