/-! The environment at the law's entry. -/
def FLq : List Cond := flatC (Jvm.Cond.and given_1 narrow_1)
set_option maxRecDepth 100000 in
theorem fl_arr : ∀ j, j < 4 → (Cond.arrayOf (.static RX8 (stN j) "[I") .int ∈ FLq ∧ Cond.eq (.length (.static RX8 (stN j) "[I")) (.int (Int32.ofNat 7)) ∈ FLq) ∧ ∀ i, i < 7 → Cond.eq (.elem (.static RX8 (stN j) "[I") (.int (Int32.ofNat i))) (.int ((stV j).getD i 0)) ∈ FLq := by decide +kernel
set_option maxRecDepth 100000 in
theorem fl_str : ∀ i, i < 5 → (Cond.exactly (.string RX6 (skK i)) "java/lang/String" ∈ FLq ∧ Cond.eq (.field (.string RX6 (skK i)) "java/lang/String" "coder" "B") (.int 0) ∈ FLq) ∧ Cond.arrayOf (.field (.string RX6 (skK i)) "java/lang/String" "value" "[B") .byte ∈ FLq := by decide +kernel
set_option maxRecDepth 100000 in
theorem fl_stl : ∀ i, i < 5 → Cond.eq (.length (.field (.string RX6 (skK i)) "java/lang/String" "value" "[B")) (.int (Int32.ofNat (skL.getD i 0))) ∈ FLq := by decide +kernel
set_option maxRecDepth 100000 in
theorem fl_ste : ∀ i, i < 5 → ∀ j, j < skL.getD i 0 → Cond.eq (.elem (.field (.string RX6 (skK i)) "java/lang/String" "value" "[B") (.int (Int32.ofNat j))) (.int ((skB.getD i []).getD j 0)) ∈ FLq := by decide +kernel
set_option maxRecDepth 100000 in
theorem fl_ne : ∀ i, i < 5 → ∀ j, j < 5 → i ≠ j → Cond.not (Cond.eq (.string RX6 (skK i)) (.string RX6 (skK j))) ∈ FLq ∨ Cond.not (Cond.eq (.string RX6 (skK j)) (.string RX6 (skK i))) ∈ FLq := by decide +kernel
set_option maxRecDepth 100000 in
theorem fl_one : Cond.eq (.static "java/lang/String" "COMPACT_STRINGS" "Z") (.int 1) ∈ FLq ∧ Cond.isRef (.static "jdk/internal/util/Preconditions" "SIOOBE_FORMATTER" "Ljava/util/function/BiFunction;") ∈ FLq := by decide +kernel
set_option maxRecDepth 100000 in
theorem tb_sta : ∀ j, j < 4 → Cond.laysStatic RX8 (stN j) "[I" ∈ lw_tbl := by decide +kernel
set_option maxRecDepth 100000 in
theorem tb_str : ∀ i, i < 5 → Cond.stringRef RX6 (skK i) (skT i) ∈ lw_tbl := by decide +kernel
set_option maxRecDepth 100000 in
theorem tb_one : (Cond.laysStatic "java/lang/String" "COMPACT_STRINGS" "Z" ∈ lw_tbl ∧ Cond.laysStatic "jdk/internal/util/Preconditions" "SIOOBE_FORMATTER" "Ljava/util/function/BiFunction;" ∈ lw_tbl) ∧ Cond.initialized "java/lang/String" ∈ lw_tbl ∧ Cond.initialized "jdk/internal/util/Preconditions" ∈ lw_tbl ∧ Cond.initialized RX8 ∈ lw_tbl := by decide +kernel
set_option maxRecDepth 100000 in
theorem tb_arr : (Cond.arrayOver (.object RX1) ∈ lw_tbl ∧ Cond.arrayOver (.object RX7) ∈ lw_tbl ∧ Cond.arrayOver (.object RX5) ∈ lw_tbl) ∧ (Cond.arrayClass .int ∈ lw_tbl ∧ Cond.arrayClass .byte ∈ lw_tbl) ∧ Cond.arrayClass .long ∈ lw_tbl ∧ Cond.arrayClass .boolean ∈ lw_tbl := by decide +kernel
set_option maxRecDepth 100000 in
theorem tb_nst : ∀ j, j < 3 → Cond.fieldLinkNest RX0 (nfK j) RX8 (stN j) "[I" RX8 ∈ lw_tbl := by decide +kernel
set_option maxRecDepth 100000 in
theorem tb_new : ∀ c, c < 10 → Cond.instantiable (clsN c) (nF c) ∈ lw_tbl := by decide +kernel
