/-! What the throw of gain, next and await stands on: words. -/
def zl_at : List Cond := (zl_atoms "GutterNine" 208 "java/util/NoSuchElementException" "java/lang/RuntimeException" 13 prog_31_method_4_code ["java/lang/Exception"]).filter vx_no
/-- those that aren't good: they hold wherever the classes are the same -/
def zl_bad : List Cond := [.castable "java/util/NoSuchElementException" "java/util/NoSuchElementException", .declares (Bundle.initS "java/lang/RuntimeException"), .declares (Bundle.initS "java/lang/Exception"), .declares (Bundle.initS "java/lang/Throwable")]
theorem zl_w1 : ∀ w ∈ zl_at.filter goodWord, w ∈ lw_tbl := by decide +kernel
theorem zl_w2 : ∀ w ∈ zl_at.filter (fun w => !goodWord w), w ∈ zl_bad := by decide +kernel
theorem zl_w3 : ∀ w ∈ zl_bad, w ∈ lw_tbl := by decide +kernel
theorem zl_w4 : ∀ w ∈ Cond.classLink "GutterNine" 204 "java/util/NoSuchElementException" :: Cond.initialized "java/util/NoSuchElementException" :: zl_at, vx_ot w = true := by decide +kernel
theorem zl_w5 : Cond.classLink "GutterNine" 204 "java/util/NoSuchElementException" ∈ g_tw ∧ Cond.initialized "java/util/NoSuchElementException" ∈ g_tw := by decide +kernel
theorem zl_w6 : Bundle.fit "java/util/NoSuchElementException" = true ∧ Bundle.fit "java/lang/RuntimeException" = true ∧ ∀ n ∈ ["java/lang/Exception"], Bundle.fit n = true := by decide +kernel
theorem zl_i0 : decode prog_31_method_4_code 0 = .ok (.aload_n 0, 1) ∧ decode prog_31_method_4_code 1 = .ok (.aload_n 1, 1) ∧ decode prog_31_method_4_code 2 = .ok (.invokespecial 13, 3) ∧ decode prog_31_method_4_code 5 = .ok (.return_, 1) := by decide +kernel
theorem zl_d149 : decode prog_1_method_17_code 12 = .ok (.new 204, 3) ∧ decode prog_1_method_17_code 15 = .ok (.dup, 1) ∧ decode prog_1_method_17_code 16 = .ok (.ldc 206, 2) ∧ decode prog_1_method_17_code 18 = .ok (.invokespecial 208, 3) ∧ decode prog_1_method_17_code 21 = .ok (.athrow, 1) := by decide +kernel
theorem zl_d150 : decode prog_1_method_18_code 16 = .ok (.new 204, 3) ∧ decode prog_1_method_18_code 19 = .ok (.dup, 1) ∧ decode prog_1_method_18_code 20 = .ok (.ldc 217, 2) ∧ decode prog_1_method_18_code 22 = .ok (.invokespecial 208, 3) ∧ decode prog_1_method_18_code 25 = .ok (.athrow, 1) := by decide +kernel
theorem zl_d155 : decode prog_1_method_23_code 9 = .ok (.new 204, 3) ∧ decode prog_1_method_23_code 12 = .ok (.dup, 1) ∧ decode prog_1_method_23_code 13 = .ok (.ldc_w 256, 3) ∧ decode prog_1_method_23_code 16 = .ok (.invokespecial 208, 3) ∧ decode prog_1_method_23_code 19 = .ok (.athrow, 1) := by decide +kernel
