/-! what the law's start gives -/
def lVk : List Cond := [.instantiable RX0 6, .instantiable RX1 5, .instantiable RX2 3, .instantiable RX3 16, .instantiable RX4 11, .instantiable RX5 8, .instantiable RX6 3, .instantiable RX7 4, .instantiable RX8 2, .instantiable RX9 4, .instantiable RX10 4, .instantiable RX11 7, .instantiable RX12 32, .arrayClass .int, .arrayClass .long, .arrayClass .boolean, .arrayOver (.object "BreathOnLoan$Text"), flN, .castable "[I" "java/lang/Cloneable", .stringRef RX3 168 "smoke cost brittle share begin blow wait by give if end or and not hour blower lungs voice beads kind want worth breaths quarrels many", .stringRef RX3 188 "<>=#+-*/();?:", .laysStatic RJ0 "COMPACT_STRINGS" "Z", .laysStatic RX11 "NAMES_OF_LAW" "[I", .laysStatic RJ3 "SIOOBE_FORMATTER" "Ljava/util/function/BiFunction;", .initialized RJ0, .initialized RX11, .initialized RJ3]
set_option maxRecDepth 20000 in
theorem lVk_in : ∀ w ∈ lVk, w ∈ lw_tbl := by decide +kernel
set_option maxRecDepth 20000 in
theorem nestX_in : ∀ w ∈ nestX, w ∈ lw_tbl := by decide +kernel
set_option maxRecDepth 20000 in
theorem nestI_in : ∀ w ∈ nestI, w ∈ lw_tbl := by decide +kernel
set_option maxRecDepth 20000 in
theorem flW : ∀ j, j < 134 → Cond.eq (.elem (.field (.string "BreathOnLoan$Parser" 168) "java/lang/String" "value" "[B") (.int (Int32.ofNat j))) (.int (eW.getD j 0)) ∈ flatC (Jvm.Cond.and given_1 narrow_1) := by decide +kernel
set_option maxRecDepth 20000 in
theorem flG : ∀ j, j < 13 → Cond.eq (.elem (.field (.string "BreathOnLoan$Parser" 188) "java/lang/String" "value" "[B") (.int (Int32.ofNat j))) (.int (eG.getD j 0)) ∈ flatC (Jvm.Cond.and given_1 narrow_1) := by decide +kernel
set_option maxRecDepth 20000 in
theorem flNm : ∀ j, j < 4 → Cond.eq (.elem (.static "BreathOnLoan" "NAMES_OF_LAW" "[I") (.int (Int32.ofNat j))) (.int (eN.getD j 0)) ∈ flatC (Jvm.Cond.and given_1 narrow_1) := by decide +kernel
def lTm (i : Nat) : Term := if i = 0 then .string "BreathOnLoan$Parser" 168 else .string "BreathOnLoan$Parser" 188
def lFl : List Cond := [.exactly (.string "BreathOnLoan$Parser" 168) "java/lang/String", .exactly (.string "BreathOnLoan$Parser" 188) "java/lang/String", .eq (.field (.string "BreathOnLoan$Parser" 168) "java/lang/String" "coder" "B") (.int 0), .eq (.field (.string "BreathOnLoan$Parser" 188) "java/lang/String" "coder" "B") (.int 0), .arrayOf (.field (.string "BreathOnLoan$Parser" 168) "java/lang/String" "value" "[B") .byte, .arrayOf (.field (.string "BreathOnLoan$Parser" 188) "java/lang/String" "value" "[B") .byte, .eq (.length (.field (.string "BreathOnLoan$Parser" 168) "java/lang/String" "value" "[B")) (.int 134), .eq (.length (.field (.string "BreathOnLoan$Parser" 188) "java/lang/String" "value" "[B")) (.int 13), .not (.eq (.string "BreathOnLoan$Parser" 168) (.string "BreathOnLoan$Parser" 188)), .eq (.static "java/lang/String" "COMPACT_STRINGS" "Z") (.int 1), .isRef (.static "jdk/internal/util/Preconditions" "SIOOBE_FORMATTER" "Ljava/util/function/BiFunction;"), .arrayOf (.static "BreathOnLoan" "NAMES_OF_LAW" "[I") .int, .eq (.length (.static "BreathOnLoan" "NAMES_OF_LAW" "[I")) (.int 4)]
set_option maxRecDepth 20000 in
theorem lFl_in : ∀ w ∈ lFl, w ∈ flatC (Jvm.Cond.and given_1 narrow_1) := by decide +kernel
