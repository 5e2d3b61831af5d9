/-! WORDS of the machine's own methods -/
theorem wp_acn : Cond.native arraycopyName ∈ lw_g := lw_g_of (inT_mem (p := (2, 121)) (by decide +kernel)) rfl
theorem wp_acs : Cond.static arraycopyName ∈ lw_g := lw_g_of (inT_mem (p := (2, 120)) (by decide +kernel)) rfl
theorem wp_sys : Cond.initialized "java/lang/System" ∈ lw_g := lw_g_of (inT_mem (p := (0, 17)) (by decide +kernel)) rfl
theorem wp_math : Cond.initialized "java/lang/Math" ∈ lw_g := lw_g_of (inT_mem (p := (0, 12)) (by decide +kernel)) rfl
theorem wp_maxs : Cond.static Lib.Math.max.name ∈ lw_g := lw_g_of (inT_mem (p := (3, 135)) (by decide +kernel)) rfl
theorem wp_mins : Cond.static Lib.Math.min.name ∈ lw_g := lw_g_of (inT_mem (p := (1, 178)) (by decide +kernel)) rfl
theorem wp_maxc : Cond.code Lib.Math.max.name Lib.Math.max.code 2 (some .int) ∈ lw_g := lw_g_of (inT_r 3 136 rfl) rfl
theorem wp_minc : Cond.code Lib.Math.min.name Lib.Math.min.code 2 (some .int) ∈ lw_g := lw_g_of (inT_r 1 179 rfl) rfl
theorem wp_oii : Cond.instanceMethod objectInit ∈ lw_g := lw_g_of (inT_mem (p := (0, 26)) (by decide +kernel)) rfl
theorem wp_oic : Cond.code objectInit ⟨#[0xb1]⟩ 1 none ∈ lw_g := lw_g_of (inT_r 0 27 rfl) rfl
def pkName : MethodName := ⟨"jdk/internal/util/Preconditions", "checkIndex", "(IILjava/util/function/BiFunction;)I"⟩
theorem wp_ckc : Cond.code ciName prog_16_method_155_code 2 none ∈ lw_g := lw_g_of (inT_r 2 14 rfl) rfl
theorem wp_pkc : Cond.code pkName prog_20_method_11_code 3 (some .int) ∈ lw_g := lw_g_of (inT_r 2 19 rfl) rfl
theorem wp_cks : Cond.static ciName ∈ lw_g := lw_g_of (inT_mem (p := (2, 13)) (by decide +kernel)) rfl
theorem wp_pks : Cond.static pkName ∈ lw_g := lw_g_of (inT_mem (p := (2, 18)) (by decide +kernel)) rfl
theorem wp_str : Cond.initialized "java/lang/String" ∈ lw_g := lw_g_of (inT_mem (p := (0, 13)) (by decide +kernel)) rfl
theorem wp_pre : Cond.initialized "jdk/internal/util/Preconditions" ∈ lw_g := lw_g_of (inT_mem (p := (0, 15)) (by decide +kernel)) rfl
theorem wp_pkl : Cond.methodLink "java/lang/String" 1059 pkName ∈ lw_g := lw_g_of (inT_mem (p := (2, 17)) (by decide +kernel)) rfl
theorem wp_sio : Cond.fieldLink "java/lang/String" 1053 "jdk/internal/util/Preconditions" "SIOOBE_FORMATTER" "Ljava/util/function/BiFunction;" ∈ lw_g := lw_g_of (inT_mem (p := (2, 15)) (by decide +kernel)) rfl
theorem dck_0 : decode prog_16_method_155_code 0 = .ok (.iload_n 0, 1) := by decide +kernel
theorem dck_1 : decode prog_16_method_155_code 1 = .ok (.iload_n 1, 1) := by decide +kernel
theorem dck_2 : decode prog_16_method_155_code 2 = .ok (.getstatic 1053, 3) := by decide +kernel
theorem dck_5 : decode prog_16_method_155_code 5 = .ok (.invokestatic 1059, 3) := by decide +kernel
theorem dck_8 : decode prog_16_method_155_code 8 = .ok (.pop, 1) := by decide +kernel
theorem dck_9 : decode prog_16_method_155_code 9 = .ok (.return_, 1) := by decide +kernel
theorem dpk_0 : decode prog_20_method_11_code 0 = .ok (.iload_n 0, 1) := by decide +kernel
theorem dpk_1 : decode prog_20_method_11_code 1 = .ok (.ifCond .lt 8, 3) := by decide +kernel
theorem dpk_4 : decode prog_20_method_11_code 4 = .ok (.iload_n 0, 1) := by decide +kernel
theorem dpk_5 : decode prog_20_method_11_code 5 = .ok (.iload_n 1, 1) := by decide +kernel
theorem dpk_6 : decode prog_20_method_11_code 6 = .ok (.if_icmp .lt 10, 3) := by decide +kernel
theorem dpk_9 : decode prog_20_method_11_code 9 = .ok (.aload_n 2, 1) := by decide +kernel
theorem dpk_10 : decode prog_20_method_11_code 10 = .ok (.iload_n 0, 1) := by decide +kernel
theorem dpk_11 : decode prog_20_method_11_code 11 = .ok (.iload_n 1, 1) := by decide +kernel
theorem dpk_12 : decode prog_20_method_11_code 12 = .ok (.invokestatic 95, 3) := by decide +kernel
theorem dpk_15 : decode prog_20_method_11_code 15 = .ok (.athrow, 1) := by decide +kernel
theorem dpk_16 : decode prog_20_method_11_code 16 = .ok (.iload_n 0, 1) := by decide +kernel
theorem dpk_17 : decode prog_20_method_11_code 17 = .ok (.ireturn, 1) := by decide +kernel
theorem wp_arr_int : Cond.arrayClass .int ∈ lw_g := lw_g_of (inT_mem (p := (0, 112)) (by decide +kernel)) rfl
theorem wp_arr_byte : Cond.arrayClass .byte ∈ lw_g := lw_g_of (inT_mem (p := (2, 137)) (by decide +kernel)) rfl
theorem wp_arr_boolean : Cond.arrayClass .boolean ∈ lw_g := lw_g_of (inT_mem (p := (5, 79)) (by decide +kernel)) rfl
