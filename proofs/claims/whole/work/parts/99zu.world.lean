/-! The world at the law's entry. -/
def yk_ts (i : Nat) : Term := .string (g_on (g_ss.getD i (0, 0)).1) (g_ss.getD i (0, 0)).2
def yk_ln (i : Nat) : Nat := (g_csh.getD (11 + 2 * i) (0, 0)).2
def yk_by (i j : Nat) : Int32 := (g_cin.getD (11 + 2 * i) []).getD j 0
def yk_fl : List Cond := flatC (Jvm.Cond.and given_1 narrow_1)
def yk_bs : List Nat := [328, 345, 367, 280, 288, 297, 305, 313, 321, 60, 68, 75, 48, 88, 98, 107, 115, 122, 132, 141, 151, 161, 168, 174, 183, 191, 200, 206, 215, 244, 252, 260, 271, 224, 231, 238]
theorem yk_in {c : Cond} (h : Nat) (e : yk_fl[h]? = some c) : c ∈ yk_fl := List.mem_of_getElem? e
theorem yk_ln31 : ∀ i : Fin 36, yk_ln i.val < 2 ^ 31 := by decide +kernel
theorem yk_fs1 : ∀ i : Fin 36, yk_fl[yk_bs.getD i.val 0]? = some (Cond.exactly (yk_ts i.val) "java/lang/String") := by decide +kernel
theorem yk_fs2 : ∀ i : Fin 36, yk_fl[yk_bs.getD i.val 0 + 1]? = some (Cond.eq (.field (yk_ts i.val) "java/lang/String" "coder" "B") (.int 0)) := by decide +kernel
theorem yk_fs3 : ∀ i : Fin 36, yk_fl[yk_bs.getD i.val 0 + 2]? = some (Cond.arrayOf (.field (yk_ts i.val) "java/lang/String" "value" "[B") .byte) := by decide +kernel
theorem yk_fs4 : ∀ i : Fin 36, yk_fl[yk_bs.getD i.val 0 + 3]? = some (Cond.eq (.length (.field (yk_ts i.val) "java/lang/String" "value" "[B")) (.int (Int32.ofNat (yk_ln i.val)))) := by decide +kernel
theorem yk_fs5 : ∀ i : Fin 36, ∀ j : Fin (yk_ln i.val), yk_fl[yk_bs.getD i.val 0 + 4 + j.val]? = some (Cond.eq (.elem (.field (yk_ts i.val) "java/lang/String" "value" "[B") (.int (Int32.ofNat j.val))) (.int (yk_by i.val j.val))) := by decide +kernel
def yk_sd (d : Bool) : Term := .static "GutterNine" (if d then "SLIP_DOWN" else "SLIP_ASIDE") "[I"
def yk_sv (d : Bool) (j : Nat) : Int32 := (g_cin.getD (if d then 1 else 0) []).getD j 0
theorem yk_fd1 : ∀ d : Bool, yk_fl[if d then 22 else 10]? = some (Cond.arrayOf (yk_sd d) .int) ∧ yk_fl[if d then 23 else 11]? = some (Cond.eq (.length (yk_sd d)) (.int (Int32.ofNat 9))) := by decide +kernel
theorem yk_fd2 : ∀ d : Bool, ∀ j : Fin 9, yk_fl[(if d then 24 else 12) + j.val]? = some (Cond.eq (.elem (yk_sd d) (.int (Int32.ofNat j.val))) (.int (yk_sv d j.val))) := by decide +kernel
theorem yk_fd3 : ∀ d : Bool, Cond.laysStatic "GutterNine" (if d then "SLIP_DOWN" else "SLIP_ASIDE") "[I" ∈ lw_tbl := by decide +kernel
theorem yk_fo : yk_fl[4]? = some (Cond.eq (.static "java/lang/String" "COMPACT_STRINGS" "Z") (.int 1)) ∧ yk_fl[5]? = some (Cond.isRef (.static "jdk/internal/util/Preconditions" "SIOOBE_FORMATTER" "Ljava/util/function/BiFunction;")) ∧ yk_fl[33]? = some (Cond.isRef (.static "java/lang/Throwable" "UNASSIGNED_STACK" "[Ljava/lang/StackTraceElement;")) ∧ yk_fl[34]? = some (Cond.isRef (.static "java/lang/Throwable" "SUPPRESSED_SENTINEL" "Ljava/util/List;")) := by decide +kernel
theorem yk_fw : Cond.laysStatic "java/lang/String" "COMPACT_STRINGS" "Z" ∈ lw_tbl ∧ Cond.initialized "java/lang/String" ∈ lw_tbl ∧ Cond.laysStatic "jdk/internal/util/Preconditions" "SIOOBE_FORMATTER" "Ljava/util/function/BiFunction;" ∈ lw_tbl ∧ Cond.initialized "jdk/internal/util/Preconditions" ∈ lw_tbl ∧ Cond.laysStatic "java/lang/Throwable" "UNASSIGNED_STACK" "[Ljava/lang/StackTraceElement;" ∈ lw_tbl ∧ Cond.laysStatic "java/lang/Throwable" "SUPPRESSED_SENTINEL" "Ljava/util/List;" ∈ lw_tbl ∧ Cond.initialized "java/lang/Throwable" ∈ lw_tbl ∧ Cond.initialized "GutterNine" ∈ lw_tbl := by decide +kernel
theorem yk_fr : ∀ i : Fin 36, Cond.stringRef (g_on (g_ss.getD i.val (0, 0)).1) (g_ss.getD i.val (0, 0)).2 (g_sx.getD i.val "") ∈ lw_tbl := by decide +kernel
theorem yk_fi : ∀ c : Fin 13, Cond.instantiable (g_on c.val) (g_nf c.val) ∈ lw_tbl := by decide +kernel
def yk_ty (t : Nat) : FieldType := if t = 1 then .int else if t = 2 then .long else if t = 3 then .char else .boolean
theorem yk_fa : ∀ t : Fin 4, Cond.arrayClass (yk_ty (t.val + 1)) ∈ lw_tbl := by decide +kernel
theorem yk_cs : (∀ k : Fin 10, g_csh[k.val]? = some (11, 9)) ∧ (∀ i : Fin 36, g_csh[10 + 2 * i.val]? = some (10, 17) ∧ g_csh[11 + 2 * i.val]? = some (13, yk_ln i.val)) ∧ g_csh.length = 82 := by decide +kernel
theorem yk_ci0 : ∀ k : Fin 10, ∀ j : Fin 9, (g_C 0).2.1 (1000 + k.val) j.val = yk_sv (decide (k.val = 1)) j.val := by decide +kernel
theorem yk_cr : ∀ i : Fin 36, (g_C 0).2.1 (1000 + (10 + 2 * i.val)) 1 = 0 ∧ (g_C 0).2.2.1 (1000 + (10 + 2 * i.val)) 0 = 1011 + 2 * i.val + 1 := by decide +kernel
theorem yk_cb : ∀ i : Fin 36, ∀ j : Fin (yk_ln i.val), (g_C 0).2.1 (1000 + (11 + 2 * i.val)) j.val = yk_by i.val j.val := by decide +kernel
theorem yk_sl : g_ss.length = 36 := by decide +kernel
