/-! THE START: what the Statement gives of it -/
def gz : List Cond := flatC (Jvm.Cond.and given_1 narrow_1)
def gz_t (i : Nat) : Term := .string (gk_s i).1 (gk_s i).2.1
def gz_v (i : Nat) : Term := .field (gz_t i) "java/lang/String" "value" "[B"
def gz_one (i : Nat) : List Cond := [.exactly (gz_t i) "java/lang/String", .eq (.field (gz_t i) "java/lang/String" "coder" "B") (.int 0), .arrayOf (gz_v i) .byte, .eq (.length (gz_v i)) (.int (Int32.ofNat (gk_s i).2.2.2.length))] ++ (List.range (gk_s i).2.2.2.length).map fun j => .eq (.elem (gz_v i) (.int (Int32.ofNat j))) (.int ((gk_s i).2.2.2.getD j 0))
set_option maxRecDepth 100000 in
theorem gz_str : (gz.drop 154).take 675 = (List.range 34).flatMap gz_one := by decide +kernel
def gz_T : Term := .static "GateHouse" "TOPS" "[J"
def gz_B : Term := .static "GateHouse$Phases" "BEHIND" "[I"
def gz_Y : Term := .static "GateHouse$Phases" "LIFETIMES" "[I"
set_option maxRecDepth 100000 in
theorem gz_tops : (gz.drop 12).take 9 = [.arrayOf gz_T .long, .eq (.length gz_T) (.int (Int32.ofNat 7))] ++ (List.range 7).map fun j => .eq (.elem gz_T (.int (Int32.ofNat j))) (.long (gk_tops j)) := by decide +kernel
set_option maxRecDepth 100000 in
theorem gz_beh : (gz.drop 22).take 86 = [.arrayOf gz_B .int, .eq (.length gz_B) (.int (Int32.ofNat 84))] ++ (List.range 84).map fun j => .eq (.elem gz_B (.int (Int32.ofNat j))) (.int (gk_beh j)) := by decide +kernel
set_option maxRecDepth 100000 in
theorem gz_life : (gz.drop 109).take 9 = [.arrayOf gz_Y .int, .eq (.length gz_Y) (.int (Int32.ofNat 7))] ++ (List.range 7).map fun j => .eq (.elem gz_Y (.int (Int32.ofNat j))) (.int (gk_life j)) := by decide +kernel
theorem gz_sub {w : Cond} {a b : Nat} {l : List Cond} (e : (gz.drop a).take b = l) (h : w ∈ l) : w ∈ gz := List.mem_of_mem_drop (List.mem_of_mem_take (e ▸ h))
set_option maxRecDepth 100000 in
theorem gz_misc : ∀ w ∈ ([.isRef (.static "java/lang/Throwable" "UNASSIGNED_STACK" "[Ljava/lang/StackTraceElement;"), .isRef (.static "java/lang/Throwable" "SUPPRESSED_SENTINEL" "Ljava/util/List;"), .eq (.static "java/lang/String" "COMPACT_STRINGS" "Z") (.int 1), .isRef (.static "jdk/internal/util/Preconditions" "SIOOBE_FORMATTER" "Ljava/util/function/BiFunction;")] : List Cond), w ∈ gz.take 8 := by decide +kernel
set_option maxRecDepth 100000 in
theorem gz_nc : ∀ q ∈ gk_nc, Cond.not (.castable q.1 q.2) ∈ (gz.drop 118).take 36 := by decide +kernel
set_option maxRecDepth 100000 in
theorem gN_tbl : ∀ w ∈ gN, w ∈ lw_tbl := by decide +kernel
set_option maxRecDepth 100000 in
theorem gz_lay : ∀ w ∈ ([.laysStatic "GateHouse" "TOPS" "[J", .laysStatic "GateHouse$Phases" "BEHIND" "[I", .laysStatic "GateHouse$Phases" "LIFETIMES" "[I", .laysStatic "java/lang/String" "COMPACT_STRINGS" "Z", .laysStatic "java/lang/Throwable" "SUPPRESSED_SENTINEL" "Ljava/util/List;", .laysStatic "java/lang/Throwable" "UNASSIGNED_STACK" "[Ljava/lang/StackTraceElement;", .laysStatic "jdk/internal/util/Preconditions" "SIOOBE_FORMATTER" "Ljava/util/function/BiFunction;", .initialized "GateHouse", .initialized "GateHouse$Phases", .initialized "java/lang/String", .initialized "java/lang/Throwable", .initialized "jdk/internal/util/Preconditions", .arrayClass .byte, .arrayClass .int, .arrayClass .long, .arrayClass .boolean, .arrayOver (.object "GateHouse$Connection"), .arrayOver (.object "GateHouse$Rule"), .arrayOver (.object "GateHouse$RuleList"), .arrayOver (.array .int), .arrayOver (.array .long)] : List Cond), w ∈ lw_tbl := by decide +kernel
set_option maxRecDepth 100000 in
theorem gz_ref : ∀ i, i < 34 → Cond.stringRef (gk_s i).1 (gk_s i).2.1 (gk_s i).2.2.1 ∈ lw_tbl := by decide +kernel
set_option maxRecDepth 100000 in
theorem gz_inst : ∀ i, i < 10 → Cond.instantiable (gk_q i).1 (gk_q i).2.2 ∈ lw_tbl := by decide +kernel
