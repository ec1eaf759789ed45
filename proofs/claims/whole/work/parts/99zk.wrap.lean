/-! The law's wrappers: rows and words. -/
def zl_k324 : List gCE := (0, .aload 5, 2, 0, 0, 0) :: (2, .iconst 0, 1, 0, 0, 0) :: (3, .aload_n 0, 1, 0, 0, 0) :: (4, .iload_n 1, 1, 0, 0, 0) :: (5, .iload_n 2, 1, 0, 0, 0) :: (6, .iload_n 3, 1, 0, 0, 0) :: (7, .iload 4, 2, 0, 0, 0) :: []
def zl_k325 : List gCE := (0, .aload_n 2, 1, 0, 0, 0) :: (1, .iconst 0, 1, 0, 0, 0) :: (2, .aload_n 0, 1, 0, 0, 0) :: (3, .iload_n 1, 1, 0, 0, 0) :: []
theorem zl_ok324 : g_okC 13 false method_3_code (some .int) zl_k324 = true := by decide +kernel
theorem zl_ok325 : g_okC 13 false method_4_code (some .int) zl_k325 = true := by decide +kernel
theorem zl_ok326 : g_okC 13 false method_5_code (some .int) zl_k325 = true := by decide +kernel
theorem zl_oe324 : g_okC 13 false method_3_code (some .int) [(21, .iconst 0, 1, 0, 0, 0)] = true := by decide +kernel
theorem zl_oe325 : g_okC 13 false method_4_code (some .int) [(15, .iconst 0, 1, 0, 0, 0)] = true := by decide +kernel
theorem zl_oe326 : g_okC 13 false method_5_code (some .int) [(15, .iconst 0, 1, 0, 0, 0)] = true := by decide +kernel
theorem zl_dec324 : decode method_3_code 9 = .ok (.invokevirtual 7, 3) ∧ decode method_3_code 17 = .ok (.astore 6, 2) ∧ decode method_3_code 19 = .ok (.iconst 1, 1) ∧ decode method_3_code 20 = .ok (.ireturn, 1) ∧ decode method_3_code 22 = .ok (.ireturn, 1) := by decide +kernel
theorem zl_dec325 : decode method_4_code 4 = .ok (.invokevirtual 15, 3) ∧ decode method_4_code 12 = .ok (.astore_n 3, 1) ∧ decode method_4_code 13 = .ok (.iconst 1, 1) ∧ decode method_4_code 14 = .ok (.ireturn, 1) ∧ decode method_4_code 16 = .ok (.ireturn, 1) := by decide +kernel
theorem zl_dec326 : decode method_5_code 4 = .ok (.invokevirtual 19, 3) ∧ decode method_5_code 12 = .ok (.astore_n 3, 1) ∧ decode method_5_code 13 = .ok (.iconst 1, 1) ∧ decode method_5_code 14 = .ok (.ireturn, 1) ∧ decode method_5_code 16 = .ok (.ireturn, 1) := by decide +kernel
theorem zl_v324 : Cond.methodLink "GutterNineLaw" 7 (g_y 149) ∈ g_tw ∧ Cond.instanceMethod (g_y 149) ∈ g_tw ∧ Cond.selects "GutterNine" (g_y 149) (g_y 149) ∈ g_tw ∧ Cond.initialized "GutterNine" ∈ g_tw := by decide +kernel
theorem zl_v325 : Cond.methodLink "GutterNineLaw" 15 (g_y 150) ∈ g_tw ∧ Cond.instanceMethod (g_y 150) ∈ g_tw ∧ Cond.selects "GutterNine" (g_y 150) (g_y 150) ∈ g_tw := by decide +kernel
theorem zl_v326 : Cond.methodLink "GutterNineLaw" 19 (g_y 155) ∈ g_tw ∧ Cond.instanceMethod (g_y 155) ∈ g_tw ∧ Cond.selects "GutterNine" (g_y 155) (g_y 155) ∈ g_tw := by decide +kernel
theorem zl_c324 : Cond.codeWith (g_y 324) method_3_code 7 (some .int) [(0, 14, 17, 13)] ∈ g_tw ∧ Cond.codeWith (g_y 325) method_4_code 4 (some .int) [(0, 9, 12, 13)] ∈ g_tw ∧ Cond.codeWith (g_y 326) method_5_code 4 (some .int) [(0, 9, 12, 13)] ∈ g_tw := by decide +kernel
theorem zl_l13 : Cond.classLink "GutterNineLaw" 13 "java/util/NoSuchElementException" ∈ g_tw := by decide +kernel
theorem zl_s324 : Cond.methodLink "GutterNineLaw" 94 (g_y 324) ∈ g_tw ∧ Cond.static (g_y 324) ∈ g_tw ∧ Cond.methodLink "GutterNineLaw" 103 (g_y 325) ∈ g_tw ∧ Cond.static (g_y 325) ∈ g_tw ∧ Cond.methodLink "GutterNineLaw" 123 (g_y 326) ∈ g_tw ∧ Cond.static (g_y 326) ∈ g_tw ∧ Cond.initialized "GutterNineLaw" ∈ g_tw := by decide +kernel
def zl_n324 : List gCE := (12, .i2l, 1, 0, 0, 0) :: (13, .lastore, 1, 0, 0, 0) :: (14, .goto 7, 3, 21, 0, 0) :: []
def zl_n325 : List gCE := (7, .i2l, 1, 0, 0, 0) :: (8, .lastore, 1, 0, 0, 0) :: (9, .goto 6, 3, 15, 0, 0) :: []
theorem zl_on324 : g_okC 13 false method_3_code (some .int) zl_n324 = true := by decide +kernel
theorem zl_on325 : g_okC 13 false method_4_code (some .int) zl_n325 = true := by decide +kernel
theorem zl_on326 : g_okC 13 false method_5_code (some .int) zl_n325 = true := by decide +kernel
theorem zl_m3 : ((g_y 149).cls ≠ "java/lang/invoke/MethodHandle" ∧ (g_y 149).cls ≠ "java/lang/invoke/VarHandle") ∧ ((g_y 150).cls ≠ "java/lang/invoke/MethodHandle" ∧ (g_y 150).cls ≠ "java/lang/invoke/VarHandle") ∧ ((g_y 155).cls ≠ "java/lang/invoke/MethodHandle" ∧ (g_y 155).cls ≠ "java/lang/invoke/VarHandle") := by decide +kernel
theorem zl_p3 : (parseMethodDescriptor (g_y 149).desc).map (fun d => d.parameters.length) = some 4 ∧ (parseMethodDescriptor (g_y 150).desc).map (fun d => d.parameters.length) = some 1 ∧ (parseMethodDescriptor (g_y 155).desc).map (fun d => d.parameters.length) = some 1 := by decide +kernel
