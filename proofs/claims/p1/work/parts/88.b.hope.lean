def hc_Z_HopeBank : List Value := [.null, .null, .null, .int 0, .null, .null, .null, .null, .null, .null, .null, .null]
theorem hc_Zok_HopeBank : ∀ j, j < 12 → defaultValue (tyX11 j) = vp_V hc_Z_HopeBank j := by decide +kernel
theorem hc_w120 : Cond.methodLink "HopeBank" 1 Lib.objectInit ∈ hb_G.2.1.1 := hb_wm (i := 137) (by decide +kernel)
theorem hc_w121 : Cond.classLink "HopeBank" 7 "HopeBank$Reader" ∈ hb_G.2.1.1 := hb_wm (i := 140) (by decide +kernel)
theorem hc_w122 : Cond.instantiable "HopeBank$Reader" 10 ∈ hb_G.2.1.1 := hb_wm (i := 141) (by decide +kernel)
theorem hc_w123 : Cond.initialized "HopeBank$Reader" ∈ hb_G.2.1.1 := hb_wm (i := 112) (by decide +kernel)
theorem hc_w124 : Cond.instanceMethod ⟨"HopeBank$Reader", "<init>", "()V"⟩ ∈ hb_G.2.1.1 := hb_wm (i := 143) (by decide +kernel)
theorem hc_w125 : Cond.fieldLink "HopeBank" 10 "HopeBank" "reader" "LHopeBank$Reader;" ∈ hb_G.2.1.1 := hb_wm (i := 523) (by decide +kernel)
theorem hc_w126 : Cond.classLink "HopeBank" 16 "HopeBank$Town" ∈ hb_G.2.1.1 := hb_wm (i := 272) (by decide +kernel)
theorem hc_w127 : Cond.fieldLink "HopeBank" 19 "HopeBank" "current" "LHopeBank$Town;" ∈ hb_G.2.1.1 := hb_wm (i := 524) (by decide +kernel)
theorem hc_w128 : Cond.fieldLink "HopeBank" 23 "HopeBank" "images" "[LHopeBank$Town;" ∈ hb_G.2.1.1 := hb_wm (i := 525) (by decide +kernel)
theorem hc_w129 : Cond.fieldLink "HopeBank" 27 "HopeBank" "kept" "I" ∈ hb_G.2.1.1 := hb_wm (i := 526) (by decide +kernel)
theorem hc_w130 : Cond.classLink "HopeBank" 31 "HopeBank$Play" ∈ hb_G.2.1.1 := hb_wm (i := 275) (by decide +kernel)
theorem hc_w131 : Cond.methodLink "HopeBank" 33 ⟨"HopeBank$Play", "<init>", "(LHopeBank$Town;)V"⟩ ∈ hb_G.2.1.1 := hb_wm (i := 277) (by decide +kernel)
theorem hc_w132 : Cond.fieldLink "HopeBank" 36 "HopeBank" "play" "LHopeBank$Play;" ∈ hb_G.2.1.1 := hb_wm (i := 527) (by decide +kernel)
theorem hc_w133 : Cond.classLink "HopeBank" 40 "HopeBank$Look" ∈ hb_G.2.1.1 := hb_wm (i := 358) (by decide +kernel)
theorem hc_w134 : Cond.methodLink "HopeBank" 42 ⟨"HopeBank$Look", "<init>", "(LHopeBank$Town;LHopeBank$Play;)V"⟩ ∈ hb_G.2.1.1 := hb_wm (i := 360) (by decide +kernel)
theorem hc_w135 : Cond.fieldLink "HopeBank" 45 "HopeBank" "look" "LHopeBank$Look;" ∈ hb_G.2.1.1 := hb_wm (i := 528) (by decide +kernel)
theorem hc_w136 : Cond.classLink "HopeBank" 49 "HopeBank$Trials" ∈ hb_G.2.1.1 := hb_wm (i := 371) (by decide +kernel)
theorem hc_w137 : Cond.instantiable "HopeBank$Trials" 5 ∈ hb_G.2.1.1 := hb_wm (i := 372) (by decide +kernel)
theorem hc_w138 : Cond.initialized "HopeBank$Trials" ∈ hb_G.2.1.1 := hb_wm (i := 119) (by decide +kernel)
theorem hc_w139 : Cond.methodLink "HopeBank" 51 ⟨"HopeBank$Trials", "<init>", "(LHopeBank$Town;)V"⟩ ∈ hb_G.2.1.1 := hb_wm (i := 373) (by decide +kernel)
theorem hc_w140 : Cond.instanceMethod ⟨"HopeBank$Trials", "<init>", "(LHopeBank$Town;)V"⟩ ∈ hb_G.2.1.1 := hb_wm (i := 374) (by decide +kernel)
theorem hc_w141 : Cond.fieldLink "HopeBank" 52 "HopeBank" "trials" "LHopeBank$Trials;" ∈ hb_G.2.1.1 := hb_wm (i := 529) (by decide +kernel)
theorem hc_w142 : Cond.classLink "HopeBank" 56 "HopeBank$Sets" ∈ hb_G.2.1.1 := hb_wm (i := 397) (by decide +kernel)
theorem hc_w143 : Cond.instantiable "HopeBank$Sets" 4 ∈ hb_G.2.1.1 := hb_wm (i := 398) (by decide +kernel)
theorem hc_w144 : Cond.initialized "HopeBank$Sets" ∈ hb_G.2.1.1 := hb_wm (i := 120) (by decide +kernel)
theorem hc_w145 : Cond.methodLink "HopeBank" 58 ⟨"HopeBank$Sets", "<init>", "(LHopeBank$Town;)V"⟩ ∈ hb_G.2.1.1 := hb_wm (i := 399) (by decide +kernel)
theorem hc_w146 : Cond.instanceMethod ⟨"HopeBank$Sets", "<init>", "(LHopeBank$Town;)V"⟩ ∈ hb_G.2.1.1 := hb_wm (i := 400) (by decide +kernel)
theorem hc_w147 : Cond.fieldLink "HopeBank" 59 "HopeBank" "sets" "LHopeBank$Sets;" ∈ hb_G.2.1.1 := hb_wm (i := 530) (by decide +kernel)
theorem hc_w148 : Cond.classLink "HopeBank" 63 "HopeBank$Packing" ∈ hb_G.2.1.1 := hb_wm (i := 419) (by decide +kernel)
theorem hc_w149 : Cond.instantiable "HopeBank$Packing" 8 ∈ hb_G.2.1.1 := hb_wm (i := 420) (by decide +kernel)
theorem hc_w150 : Cond.initialized "HopeBank$Packing" ∈ hb_G.2.1.1 := hb_wm (i := 121) (by decide +kernel)
theorem hc_w151 : Cond.methodLink "HopeBank" 65 ⟨"HopeBank$Packing", "<init>", "(LHopeBank$Town;LHopeBank$Sets;)V"⟩ ∈ hb_G.2.1.1 := hb_wm (i := 421) (by decide +kernel)
theorem hc_w152 : Cond.instanceMethod ⟨"HopeBank$Packing", "<init>", "(LHopeBank$Town;LHopeBank$Sets;)V"⟩ ∈ hb_G.2.1.1 := hb_wm (i := 422) (by decide +kernel)
theorem hc_w153 : Cond.fieldLink "HopeBank" 68 "HopeBank" "packing" "LHopeBank$Packing;" ∈ hb_G.2.1.1 := hb_wm (i := 531) (by decide +kernel)
theorem hc_w154 : Cond.classLink "HopeBank" 72 "HopeBank$Hush" ∈ hb_G.2.1.1 := hb_wm (i := 453) (by decide +kernel)
theorem hc_w155 : Cond.instantiable "HopeBank$Hush" 5 ∈ hb_G.2.1.1 := hb_wm (i := 454) (by decide +kernel)
theorem hc_w156 : Cond.initialized "HopeBank$Hush" ∈ hb_G.2.1.1 := hb_wm (i := 122) (by decide +kernel)
theorem hc_w157 : Cond.methodLink "HopeBank" 74 ⟨"HopeBank$Hush", "<init>", "(LHopeBank$Town;LHopeBank$Sets;)V"⟩ ∈ hb_G.2.1.1 := hb_wm (i := 455) (by decide +kernel)
theorem hc_w158 : Cond.instanceMethod ⟨"HopeBank$Hush", "<init>", "(LHopeBank$Town;LHopeBank$Sets;)V"⟩ ∈ hb_G.2.1.1 := hb_wm (i := 456) (by decide +kernel)
theorem hc_w159 : Cond.fieldLink "HopeBank" 75 "HopeBank" "hush" "LHopeBank$Hush;" ∈ hb_G.2.1.1 := hb_wm (i := 532) (by decide +kernel)
theorem hc_w160 : Cond.classLink "HopeBank" 79 "HopeBank$Slots" ∈ hb_G.2.1.1 := hb_wm (i := 477) (by decide +kernel)
theorem hc_w161 : Cond.instantiable "HopeBank$Slots" 3 ∈ hb_G.2.1.1 := hb_wm (i := 478) (by decide +kernel)
theorem hc_w162 : Cond.initialized "HopeBank$Slots" ∈ hb_G.2.1.1 := hb_wm (i := 123) (by decide +kernel)
theorem hc_w163 : Cond.methodLink "HopeBank" 81 ⟨"HopeBank$Slots", "<init>", "()V"⟩ ∈ hb_G.2.1.1 := hb_wm (i := 479) (by decide +kernel)
theorem hc_w164 : Cond.instanceMethod ⟨"HopeBank$Slots", "<init>", "()V"⟩ ∈ hb_G.2.1.1 := hb_wm (i := 480) (by decide +kernel)
theorem hc_w165 : Cond.fieldLink "HopeBank" 82 "HopeBank" "slots" "LHopeBank$Slots;" ∈ hb_G.2.1.1 := hb_wm (i := 533) (by decide +kernel)
theorem hc_w166 : Cond.classLink "HopeBank" 86 "HopeBank$Tilting" ∈ hb_G.2.1.1 := hb_wm (i := 497) (by decide +kernel)
theorem hc_w167 : Cond.instantiable "HopeBank$Tilting" 6 ∈ hb_G.2.1.1 := hb_wm (i := 498) (by decide +kernel)
theorem hc_w168 : Cond.initialized "HopeBank$Tilting" ∈ hb_G.2.1.1 := hb_wm (i := 124) (by decide +kernel)
theorem hc_w169 : Cond.methodLink "HopeBank" 88 ⟨"HopeBank$Tilting", "<init>", "(LHopeBank$Town;LHopeBank$Sets;LHopeBank$Slots;)V"⟩ ∈ hb_G.2.1.1 := hb_wm (i := 499) (by decide +kernel)
theorem hc_w170 : Cond.instanceMethod ⟨"HopeBank$Tilting", "<init>", "(LHopeBank$Town;LHopeBank$Sets;LHopeBank$Slots;)V"⟩ ∈ hb_G.2.1.1 := hb_wm (i := 500) (by decide +kernel)
theorem hc_w171 : Cond.fieldLink "HopeBank" 91 "HopeBank" "tilting" "LHopeBank$Tilting;" ∈ hb_G.2.1.1 := hb_wm (i := 534) (by decide +kernel)
theorem hc_d_HopeBank_0 : decode prog_1_method_1_code 0 = .ok (.aload_n 0, 1) := by decide +kernel
theorem hc_d_HopeBank_1 : decode prog_1_method_1_code 1 = .ok (.invokespecial 1, 3) := by decide +kernel
theorem hc_d_HopeBank_4 : decode prog_1_method_1_code 4 = .ok (.aload_n 0, 1) := by decide +kernel
theorem hc_d_HopeBank_5 : decode prog_1_method_1_code 5 = .ok (.new 7, 3) := by decide +kernel
theorem hc_d_HopeBank_8 : decode prog_1_method_1_code 8 = .ok (.dup, 1) := by decide +kernel
theorem hc_d_HopeBank_9 : decode prog_1_method_1_code 9 = .ok (.invokespecial 9, 3) := by decide +kernel
theorem hc_d_HopeBank_12 : decode prog_1_method_1_code 12 = .ok (.putfield 10, 3) := by decide +kernel
theorem hc_d_HopeBank_15 : decode prog_1_method_1_code 15 = .ok (.aload_n 0, 1) := by decide +kernel
theorem hc_d_HopeBank_16 : decode prog_1_method_1_code 16 = .ok (.new 16, 3) := by decide +kernel
theorem hc_d_HopeBank_19 : decode prog_1_method_1_code 19 = .ok (.dup, 1) := by decide +kernel
theorem hc_d_HopeBank_20 : decode prog_1_method_1_code 20 = .ok (.invokespecial 18, 3) := by decide +kernel
theorem hc_d_HopeBank_23 : decode prog_1_method_1_code 23 = .ok (.putfield 19, 3) := by decide +kernel
theorem hc_d_HopeBank_26 : decode prog_1_method_1_code 26 = .ok (.aload_n 0, 1) := by decide +kernel
theorem hc_d_HopeBank_27 : decode prog_1_method_1_code 27 = .ok (.iconst 3, 1) := by decide +kernel
theorem hc_d_HopeBank_28 : decode prog_1_method_1_code 28 = .ok (.anewarray 16, 3) := by decide +kernel
theorem hc_d_HopeBank_31 : decode prog_1_method_1_code 31 = .ok (.putfield 23, 3) := by decide +kernel
theorem hc_d_HopeBank_34 : decode prog_1_method_1_code 34 = .ok (.iconst 0, 1) := by decide +kernel
theorem hc_d_HopeBank_35 : decode prog_1_method_1_code 35 = .ok (.istore_n 1, 1) := by decide +kernel
theorem hc_d_HopeBank_36 : decode prog_1_method_1_code 36 = .ok (.iload_n 1, 1) := by decide +kernel
theorem hc_d_HopeBank_37 : decode prog_1_method_1_code 37 = .ok (.aload_n 0, 1) := by decide +kernel
theorem hc_d_HopeBank_38 : decode prog_1_method_1_code 38 = .ok (.getfield 23, 3) := by decide +kernel
theorem hc_d_HopeBank_41 : decode prog_1_method_1_code 41 = .ok (.arraylength, 1) := by decide +kernel
theorem hc_d_HopeBank_42 : decode prog_1_method_1_code 42 = .ok (.if_icmp .ge 22, 3) := by decide +kernel
theorem hc_d_HopeBank_45 : decode prog_1_method_1_code 45 = .ok (.aload_n 0, 1) := by decide +kernel
theorem hc_d_HopeBank_46 : decode prog_1_method_1_code 46 = .ok (.getfield 23, 3) := by decide +kernel
theorem hc_d_HopeBank_49 : decode prog_1_method_1_code 49 = .ok (.iload_n 1, 1) := by decide +kernel
theorem hc_d_HopeBank_50 : decode prog_1_method_1_code 50 = .ok (.new 16, 3) := by decide +kernel
theorem hc_d_HopeBank_53 : decode prog_1_method_1_code 53 = .ok (.dup, 1) := by decide +kernel
theorem hc_d_HopeBank_54 : decode prog_1_method_1_code 54 = .ok (.invokespecial 18, 3) := by decide +kernel
theorem hc_d_HopeBank_57 : decode prog_1_method_1_code 57 = .ok (.aastore, 1) := by decide +kernel
theorem hc_d_HopeBank_58 : decode prog_1_method_1_code 58 = .ok (.iinc 1 1, 3) := by decide +kernel
theorem hc_d_HopeBank_61 : decode prog_1_method_1_code 61 = .ok (.goto (-25), 3) := by decide +kernel
theorem hc_d_HopeBank_64 : decode prog_1_method_1_code 64 = .ok (.aload_n 0, 1) := by decide +kernel
theorem hc_d_HopeBank_65 : decode prog_1_method_1_code 65 = .ok (.iconst 0, 1) := by decide +kernel
theorem hc_d_HopeBank_66 : decode prog_1_method_1_code 66 = .ok (.putfield 27, 3) := by decide +kernel
theorem hc_d_HopeBank_69 : decode prog_1_method_1_code 69 = .ok (.aload_n 0, 1) := by decide +kernel
theorem hc_d_HopeBank_70 : decode prog_1_method_1_code 70 = .ok (.new 31, 3) := by decide +kernel
theorem hc_d_HopeBank_73 : decode prog_1_method_1_code 73 = .ok (.dup, 1) := by decide +kernel
theorem hc_d_HopeBank_74 : decode prog_1_method_1_code 74 = .ok (.aload_n 0, 1) := by decide +kernel
theorem hc_d_HopeBank_75 : decode prog_1_method_1_code 75 = .ok (.getfield 19, 3) := by decide +kernel
theorem hc_d_HopeBank_78 : decode prog_1_method_1_code 78 = .ok (.invokespecial 33, 3) := by decide +kernel
theorem hc_d_HopeBank_81 : decode prog_1_method_1_code 81 = .ok (.putfield 36, 3) := by decide +kernel
theorem hc_d_HopeBank_84 : decode prog_1_method_1_code 84 = .ok (.aload_n 0, 1) := by decide +kernel
theorem hc_d_HopeBank_85 : decode prog_1_method_1_code 85 = .ok (.new 40, 3) := by decide +kernel
theorem hc_d_HopeBank_88 : decode prog_1_method_1_code 88 = .ok (.dup, 1) := by decide +kernel
theorem hc_d_HopeBank_89 : decode prog_1_method_1_code 89 = .ok (.aload_n 0, 1) := by decide +kernel
theorem hc_d_HopeBank_90 : decode prog_1_method_1_code 90 = .ok (.getfield 19, 3) := by decide +kernel
theorem hc_d_HopeBank_93 : decode prog_1_method_1_code 93 = .ok (.aload_n 0, 1) := by decide +kernel
theorem hc_d_HopeBank_94 : decode prog_1_method_1_code 94 = .ok (.getfield 36, 3) := by decide +kernel
theorem hc_d_HopeBank_97 : decode prog_1_method_1_code 97 = .ok (.invokespecial 42, 3) := by decide +kernel
theorem hc_d_HopeBank_100 : decode prog_1_method_1_code 100 = .ok (.putfield 45, 3) := by decide +kernel
theorem hc_d_HopeBank_103 : decode prog_1_method_1_code 103 = .ok (.aload_n 0, 1) := by decide +kernel
theorem hc_d_HopeBank_104 : decode prog_1_method_1_code 104 = .ok (.new 49, 3) := by decide +kernel
theorem hc_d_HopeBank_107 : decode prog_1_method_1_code 107 = .ok (.dup, 1) := by decide +kernel
theorem hc_d_HopeBank_108 : decode prog_1_method_1_code 108 = .ok (.aload_n 0, 1) := by decide +kernel
theorem hc_d_HopeBank_109 : decode prog_1_method_1_code 109 = .ok (.getfield 19, 3) := by decide +kernel
theorem hc_d_HopeBank_112 : decode prog_1_method_1_code 112 = .ok (.invokespecial 51, 3) := by decide +kernel
theorem hc_d_HopeBank_115 : decode prog_1_method_1_code 115 = .ok (.putfield 52, 3) := by decide +kernel
theorem hc_d_HopeBank_118 : decode prog_1_method_1_code 118 = .ok (.aload_n 0, 1) := by decide +kernel
theorem hc_d_HopeBank_119 : decode prog_1_method_1_code 119 = .ok (.new 56, 3) := by decide +kernel
theorem hc_d_HopeBank_122 : decode prog_1_method_1_code 122 = .ok (.dup, 1) := by decide +kernel
theorem hc_d_HopeBank_123 : decode prog_1_method_1_code 123 = .ok (.aload_n 0, 1) := by decide +kernel
theorem hc_d_HopeBank_124 : decode prog_1_method_1_code 124 = .ok (.getfield 19, 3) := by decide +kernel
theorem hc_d_HopeBank_127 : decode prog_1_method_1_code 127 = .ok (.invokespecial 58, 3) := by decide +kernel
theorem hc_d_HopeBank_130 : decode prog_1_method_1_code 130 = .ok (.putfield 59, 3) := by decide +kernel
theorem hc_d_HopeBank_133 : decode prog_1_method_1_code 133 = .ok (.aload_n 0, 1) := by decide +kernel
theorem hc_d_HopeBank_134 : decode prog_1_method_1_code 134 = .ok (.new 63, 3) := by decide +kernel
theorem hc_d_HopeBank_137 : decode prog_1_method_1_code 137 = .ok (.dup, 1) := by decide +kernel
theorem hc_d_HopeBank_138 : decode prog_1_method_1_code 138 = .ok (.aload_n 0, 1) := by decide +kernel
theorem hc_d_HopeBank_139 : decode prog_1_method_1_code 139 = .ok (.getfield 19, 3) := by decide +kernel
theorem hc_d_HopeBank_142 : decode prog_1_method_1_code 142 = .ok (.aload_n 0, 1) := by decide +kernel
theorem hc_d_HopeBank_143 : decode prog_1_method_1_code 143 = .ok (.getfield 59, 3) := by decide +kernel
theorem hc_d_HopeBank_146 : decode prog_1_method_1_code 146 = .ok (.invokespecial 65, 3) := by decide +kernel
theorem hc_d_HopeBank_149 : decode prog_1_method_1_code 149 = .ok (.putfield 68, 3) := by decide +kernel
theorem hc_d_HopeBank_152 : decode prog_1_method_1_code 152 = .ok (.aload_n 0, 1) := by decide +kernel
theorem hc_d_HopeBank_153 : decode prog_1_method_1_code 153 = .ok (.new 72, 3) := by decide +kernel
theorem hc_d_HopeBank_156 : decode prog_1_method_1_code 156 = .ok (.dup, 1) := by decide +kernel
theorem hc_d_HopeBank_157 : decode prog_1_method_1_code 157 = .ok (.aload_n 0, 1) := by decide +kernel
theorem hc_d_HopeBank_158 : decode prog_1_method_1_code 158 = .ok (.getfield 19, 3) := by decide +kernel
theorem hc_d_HopeBank_161 : decode prog_1_method_1_code 161 = .ok (.aload_n 0, 1) := by decide +kernel
theorem hc_d_HopeBank_162 : decode prog_1_method_1_code 162 = .ok (.getfield 59, 3) := by decide +kernel
theorem hc_d_HopeBank_165 : decode prog_1_method_1_code 165 = .ok (.invokespecial 74, 3) := by decide +kernel
theorem hc_d_HopeBank_168 : decode prog_1_method_1_code 168 = .ok (.putfield 75, 3) := by decide +kernel
theorem hc_d_HopeBank_171 : decode prog_1_method_1_code 171 = .ok (.aload_n 0, 1) := by decide +kernel
theorem hc_d_HopeBank_172 : decode prog_1_method_1_code 172 = .ok (.new 79, 3) := by decide +kernel
theorem hc_d_HopeBank_175 : decode prog_1_method_1_code 175 = .ok (.dup, 1) := by decide +kernel
theorem hc_d_HopeBank_176 : decode prog_1_method_1_code 176 = .ok (.invokespecial 81, 3) := by decide +kernel
theorem hc_d_HopeBank_179 : decode prog_1_method_1_code 179 = .ok (.putfield 82, 3) := by decide +kernel
theorem hc_d_HopeBank_182 : decode prog_1_method_1_code 182 = .ok (.aload_n 0, 1) := by decide +kernel
theorem hc_d_HopeBank_183 : decode prog_1_method_1_code 183 = .ok (.new 86, 3) := by decide +kernel
theorem hc_d_HopeBank_186 : decode prog_1_method_1_code 186 = .ok (.dup, 1) := by decide +kernel
theorem hc_d_HopeBank_187 : decode prog_1_method_1_code 187 = .ok (.aload_n 0, 1) := by decide +kernel
theorem hc_d_HopeBank_188 : decode prog_1_method_1_code 188 = .ok (.getfield 19, 3) := by decide +kernel
theorem hc_d_HopeBank_191 : decode prog_1_method_1_code 191 = .ok (.aload_n 0, 1) := by decide +kernel
theorem hc_d_HopeBank_192 : decode prog_1_method_1_code 192 = .ok (.getfield 59, 3) := by decide +kernel
theorem hc_d_HopeBank_195 : decode prog_1_method_1_code 195 = .ok (.aload_n 0, 1) := by decide +kernel
theorem hc_d_HopeBank_196 : decode prog_1_method_1_code 196 = .ok (.getfield 82, 3) := by decide +kernel
theorem hc_d_HopeBank_199 : decode prog_1_method_1_code 199 = .ok (.invokespecial 88, 3) := by decide +kernel
theorem hc_d_HopeBank_202 : decode prog_1_method_1_code 202 = .ok (.putfield 91, 3) := by decide +kernel
theorem hc_d_HopeBank_205 : decode prog_1_method_1_code 205 = .ok (.return_, 1) := by decide +kernel
abbrev hc_y_HopeBank : hbY := (⟨"HopeBank", "<init>", "()V"⟩, prog_1_method_1_code, 2, none)
set_option maxRecDepth 100000 in
theorem hc_cd_HopeBank : Cond.code ⟨"HopeBank", "<init>", "()V"⟩ prog_1_method_1_code 2 none ∈ hb_G.2.1.1 := List.mem_filter.mpr ⟨List.mem_of_getElem? (i := 136) rfl, rfl⟩
set_option maxHeartbeats 16000000 in
theorem hc_HopeBank {l : Launch} {D : va_G} {S : Nat → Nat} {wd : va_W} {a : Nat} (hn : wd.length = 1) (hk : wd[0]? = some (a, .inr (11, hc_Z_HopeBank))) : hc_Met l hc_y_HopeBank 4 95 123 4681 D (hc_ad wd) S wd [] [.ref a] (fun t w' => hc_PT wd 0 124 [0, 1, 2, 3, 4, 5, 6, 7, 8, 9, 10, 11, 12, 13, 14, 15, 16, 17, 18, 19, 20, 21, 22, 23, 24, 25, 26, 27, 28, 29, 30, 31, 32, 33, 34, 35, 36, 37, 38, 39, 40, 41, 42, 43, 44, 45, 46, 47, 48, 49, 50, 51, 52, 53, 54, 55, 56, 57, 58, 59, 60, 61, 62, 63, 64, 65, 66, 67, 68, 69, 70, 71, 72, 73, 74, 75, 76, 77, 78, 79, 80, 81, 82, 83, 84, 85, 86, 87, 88, 89, 90, 91, 92, 93, 94, 95, 96, 97, 98, 99, 100, 101, 102, 103, 104, 105, 106, 107, 108, 109, 110, 111, 112, 113, 114, 115, 116, 117, 118, 119, 120, 121, 122, 123] t w' ∧ hp_all (hc_ad w') w' hp_FC) := by
  have hwl : wd.length = 1 := hn
  refine hc_enter (by decide) (Nat.le_of_ble_eq_true rfl) ?_
  intro p e s m below meth c ls hBd hin hh hwd hGs hX hl
  obtain ⟨hx, hb, hml, hown, hlocks, hret, hTw⟩ := id hBd
  obtain ⟨k, hk0⟩ := hc_Kof hTw
  have hB := hc_B0 hn (show wd[0]? = some (a, .inr (11, [.null, .null, .null, .int 0, .null, .null, .null, .null, .null, .null, .null, .null])) from hk) hwd
  refine lv_aload_n hx hb hc_d_HopeBank_0 rfl (lv_at hl 0 rfl) ?_
  refine hc_obj (own := "HopeBank") hx hb (by rw [hml, hl.1]) hown hTw hc_w120 hc_oi hc_oc hc_d_HopeBank_1 (Nat.le_of_ble_eq_true rfl) (Nat.le_of_ble_eq_true rfl) ?_
  refine lv_aload_n hx hb hc_d_HopeBank_4 rfl (lv_at hl 0 rfl) ?_
  refine hc_new (ci := 4) (fs := hc_Z_Reader) (own := "HopeBank") (C := RX4) (T := TX4) (N := 10) (ty := tyX4) hx hb hown hTw hGs.1 hh rfl tyX4_ok hc_Zok_Reader hc_w121 hc_w122 hc_w123 (Nat.le_of_ble_eq_true rfl) (Nat.le_of_ble_eq_true rfl) hc_d_HopeBank_5 (fun q243 Hhh244 hh244 => ?_)
  have hh244 : hc_H D s wd (wd ++ [(q243, .inr (4, hc_Z_Reader))]) _ _ := hh244
  refine lv_dup hx hb hc_d_HopeBank_8 rfl ?_
  refine hc_cIN (nm := ⟨"HopeBank$Reader", "<init>", "()V"⟩) (bc := prog_6_method_1_code) (mL := 1) (b := q243) (As := []) (rest := [.ref q243, .ref a]) (fp := []) (U := hc_ad wd) hBd hGs hX hh244 hc_nofp (hc_Reader (U := hc_ad wd) (n0 := 2) (ki := 1) (by rw [List.length_append, hB.1]; rfl) ((hc_gr (n := 1) (i := 0) hB.1).trans rfl)) hc_cd_Reader hc_w123 hX.2.2.1 hc_w124 rfl (by decide) ⟨(Nat.le_of_ble_eq_true rfl), (Nat.le_of_ble_eq_true rfl)⟩ (fun sig h => by cases h; rfl) hl.1 rfl (Nat.le_of_ble_eq_true rfl) ⟨(Nat.le_of_ble_eq_true rfl), (Nat.le_of_ble_eq_true rfl)⟩ hc_d_HopeBank_9 (fun t245 w245 H245 locs245 hv245 hp245 hh245 => ?_)
  obtain ⟨b245, hb245⟩ := hp245 k (hk0.moved hv245)
  rw [hc_sR (n := 1) (i := 0) hB.1, List.append_assoc] at hb245
  subst hb245
  have hh245 : hc_H D s wd (wd ++ [(q243, .inr (4, hc_F_Reader b245)), (b245 0, .inl (k.2.1, 900, .inl (fun _ => 0))), (b245 1, .inr (9, hc_F_Town (fun i => b245 (2 + i)))), ((fun i => b245 (2 + i)) 0, .inr (7, hc_F_Table 1 4 (fun i => (fun i => b245 (2 + i)) (1 + i)))), ((fun i => (fun i => b245 (2 + i)) (1 + i)) 0, .inl (k.1, 1 * 4, .inl (fun _ => 0))), ((fun i => b245 (2 + i)) 2, .inr (7, hc_F_Table 5 2 (fun i => (fun i => b245 (2 + i)) (3 + i)))), ((fun i => (fun i => b245 (2 + i)) (3 + i)) 0, .inl (k.1, 5 * 2, .inl (fun _ => 0))), ((fun i => b245 (2 + i)) 4, .inr (7, hc_F_Table 8 3 (fun i => (fun i => b245 (2 + i)) (5 + i)))), ((fun i => (fun i => b245 (2 + i)) (5 + i)) 0, .inl (k.1, 8 * 3, .inl (fun _ => 0))), ((fun i => b245 (2 + i)) 6, .inr (7, hc_F_Table 10 3 (fun i => (fun i => b245 (2 + i)) (7 + i)))), ((fun i => (fun i => b245 (2 + i)) (7 + i)) 0, .inl (k.1, 10 * 3, .inl (fun _ => 0))), ((fun i => b245 (2 + i)) 8, .inr (7, hc_F_Table 6 3 (fun i => (fun i => b245 (2 + i)) (9 + i)))), ((fun i => (fun i => b245 (2 + i)) (9 + i)) 0, .inl (k.1, 6 * 3, .inl (fun _ => 0))), ((fun i => b245 (2 + i)) 10, .inr (7, hc_F_Table 30 3 (fun i => (fun i => b245 (2 + i)) (11 + i)))), ((fun i => (fun i => b245 (2 + i)) (11 + i)) 0, .inl (k.1, 30 * 3, .inl (fun _ => 0))), ((fun i => b245 (2 + i)) 12, .inr (7, hc_F_Table 46 3 (fun i => (fun i => b245 (2 + i)) (13 + i)))), ((fun i => (fun i => b245 (2 + i)) (13 + i)) 0, .inl (k.1, 46 * 3, .inl (fun _ => 0))), (b245 16, .inl (k.1, 4, .inl (fun _ => 0)))]) _ _ := hh245
  obtain ⟨W246, eW246⟩ : ∃ B : va_W, B = wd ++ [(q243, .inr (4, hc_F_Reader b245)), (b245 0, .inl (k.2.1, 900, .inl (fun _ => 0))), (b245 1, .inr (9, hc_F_Town (fun i => b245 (2 + i)))), ((fun i => b245 (2 + i)) 0, .inr (7, hc_F_Table 1 4 (fun i => (fun i => b245 (2 + i)) (1 + i)))), ((fun i => (fun i => b245 (2 + i)) (1 + i)) 0, .inl (k.1, 1 * 4, .inl (fun _ => 0))), ((fun i => b245 (2 + i)) 2, .inr (7, hc_F_Table 5 2 (fun i => (fun i => b245 (2 + i)) (3 + i)))), ((fun i => (fun i => b245 (2 + i)) (3 + i)) 0, .inl (k.1, 5 * 2, .inl (fun _ => 0))), ((fun i => b245 (2 + i)) 4, .inr (7, hc_F_Table 8 3 (fun i => (fun i => b245 (2 + i)) (5 + i)))), ((fun i => (fun i => b245 (2 + i)) (5 + i)) 0, .inl (k.1, 8 * 3, .inl (fun _ => 0))), ((fun i => b245 (2 + i)) 6, .inr (7, hc_F_Table 10 3 (fun i => (fun i => b245 (2 + i)) (7 + i)))), ((fun i => (fun i => b245 (2 + i)) (7 + i)) 0, .inl (k.1, 10 * 3, .inl (fun _ => 0))), ((fun i => b245 (2 + i)) 8, .inr (7, hc_F_Table 6 3 (fun i => (fun i => b245 (2 + i)) (9 + i)))), ((fun i => (fun i => b245 (2 + i)) (9 + i)) 0, .inl (k.1, 6 * 3, .inl (fun _ => 0))), ((fun i => b245 (2 + i)) 10, .inr (7, hc_F_Table 30 3 (fun i => (fun i => b245 (2 + i)) (11 + i)))), ((fun i => (fun i => b245 (2 + i)) (11 + i)) 0, .inl (k.1, 30 * 3, .inl (fun _ => 0))), ((fun i => b245 (2 + i)) 12, .inr (7, hc_F_Table 46 3 (fun i => (fun i => b245 (2 + i)) (13 + i)))), ((fun i => (fun i => b245 (2 + i)) (13 + i)) 0, .inl (k.1, 46 * 3, .inl (fun _ => 0))), (b245 16, .inl (k.1, 4, .inl (fun _ => 0)))] := ⟨_, rfl⟩
  have g246_1 : W246[1]? = some (q243, .inr (4, hc_F_Reader b245)) := by rw [eW246]; exact (hc_gr (n := 1) (i := 0) hB.1).trans rfl
  have d246_1 : hc_ad W246 1 = q243 := by unfold hc_ad; rw [g246_1]; rfl
  have g246_2 : W246[2]? = some (b245 0, .inl (k.2.1, 900, .inl (fun _ => 0))) := by rw [eW246]; exact (hc_gr (n := 1) (i := 1) hB.1).trans rfl
  have d246_2 : hc_ad W246 2 = b245 0 := by unfold hc_ad; rw [g246_2]; rfl
  have g246_3 : W246[3]? = some (b245 1, .inr (9, hc_F_Town (fun i => b245 (2 + i)))) := by rw [eW246]; exact (hc_gr (n := 1) (i := 2) hB.1).trans rfl
  have d246_3 : hc_ad W246 3 = b245 1 := by unfold hc_ad; rw [g246_3]; rfl
  have g246_4 : W246[4]? = some ((fun i => b245 (2 + i)) 0, .inr (7, hc_F_Table 1 4 (fun i => (fun i => b245 (2 + i)) (1 + i)))) := by rw [eW246]; exact (hc_gr (n := 1) (i := 3) hB.1).trans rfl
  have d246_4 : hc_ad W246 4 = (fun i => b245 (2 + i)) 0 := by unfold hc_ad; rw [g246_4]; rfl
  have g246_5 : W246[5]? = some ((fun i => (fun i => b245 (2 + i)) (1 + i)) 0, .inl (k.1, 1 * 4, .inl (fun _ => 0))) := by rw [eW246]; exact (hc_gr (n := 1) (i := 4) hB.1).trans rfl
  have d246_5 : hc_ad W246 5 = (fun i => (fun i => b245 (2 + i)) (1 + i)) 0 := by unfold hc_ad; rw [g246_5]; rfl
  have g246_6 : W246[6]? = some ((fun i => b245 (2 + i)) 2, .inr (7, hc_F_Table 5 2 (fun i => (fun i => b245 (2 + i)) (3 + i)))) := by rw [eW246]; exact (hc_gr (n := 1) (i := 5) hB.1).trans rfl
  have d246_6 : hc_ad W246 6 = (fun i => b245 (2 + i)) 2 := by unfold hc_ad; rw [g246_6]; rfl
  have g246_7 : W246[7]? = some ((fun i => (fun i => b245 (2 + i)) (3 + i)) 0, .inl (k.1, 5 * 2, .inl (fun _ => 0))) := by rw [eW246]; exact (hc_gr (n := 1) (i := 6) hB.1).trans rfl
  have d246_7 : hc_ad W246 7 = (fun i => (fun i => b245 (2 + i)) (3 + i)) 0 := by unfold hc_ad; rw [g246_7]; rfl
  have g246_8 : W246[8]? = some ((fun i => b245 (2 + i)) 4, .inr (7, hc_F_Table 8 3 (fun i => (fun i => b245 (2 + i)) (5 + i)))) := by rw [eW246]; exact (hc_gr (n := 1) (i := 7) hB.1).trans rfl
  have d246_8 : hc_ad W246 8 = (fun i => b245 (2 + i)) 4 := by unfold hc_ad; rw [g246_8]; rfl
  have g246_9 : W246[9]? = some ((fun i => (fun i => b245 (2 + i)) (5 + i)) 0, .inl (k.1, 8 * 3, .inl (fun _ => 0))) := by rw [eW246]; exact (hc_gr (n := 1) (i := 8) hB.1).trans rfl
  have d246_9 : hc_ad W246 9 = (fun i => (fun i => b245 (2 + i)) (5 + i)) 0 := by unfold hc_ad; rw [g246_9]; rfl
  have g246_10 : W246[10]? = some ((fun i => b245 (2 + i)) 6, .inr (7, hc_F_Table 10 3 (fun i => (fun i => b245 (2 + i)) (7 + i)))) := by rw [eW246]; exact (hc_gr (n := 1) (i := 9) hB.1).trans rfl
  have d246_10 : hc_ad W246 10 = (fun i => b245 (2 + i)) 6 := by unfold hc_ad; rw [g246_10]; rfl
  have g246_11 : W246[11]? = some ((fun i => (fun i => b245 (2 + i)) (7 + i)) 0, .inl (k.1, 10 * 3, .inl (fun _ => 0))) := by rw [eW246]; exact (hc_gr (n := 1) (i := 10) hB.1).trans rfl
  have d246_11 : hc_ad W246 11 = (fun i => (fun i => b245 (2 + i)) (7 + i)) 0 := by unfold hc_ad; rw [g246_11]; rfl
  have g246_12 : W246[12]? = some ((fun i => b245 (2 + i)) 8, .inr (7, hc_F_Table 6 3 (fun i => (fun i => b245 (2 + i)) (9 + i)))) := by rw [eW246]; exact (hc_gr (n := 1) (i := 11) hB.1).trans rfl
  have d246_12 : hc_ad W246 12 = (fun i => b245 (2 + i)) 8 := by unfold hc_ad; rw [g246_12]; rfl
  have g246_13 : W246[13]? = some ((fun i => (fun i => b245 (2 + i)) (9 + i)) 0, .inl (k.1, 6 * 3, .inl (fun _ => 0))) := by rw [eW246]; exact (hc_gr (n := 1) (i := 12) hB.1).trans rfl
  have d246_13 : hc_ad W246 13 = (fun i => (fun i => b245 (2 + i)) (9 + i)) 0 := by unfold hc_ad; rw [g246_13]; rfl
  have g246_14 : W246[14]? = some ((fun i => b245 (2 + i)) 10, .inr (7, hc_F_Table 30 3 (fun i => (fun i => b245 (2 + i)) (11 + i)))) := by rw [eW246]; exact (hc_gr (n := 1) (i := 13) hB.1).trans rfl
  have d246_14 : hc_ad W246 14 = (fun i => b245 (2 + i)) 10 := by unfold hc_ad; rw [g246_14]; rfl
  have g246_15 : W246[15]? = some ((fun i => (fun i => b245 (2 + i)) (11 + i)) 0, .inl (k.1, 30 * 3, .inl (fun _ => 0))) := by rw [eW246]; exact (hc_gr (n := 1) (i := 14) hB.1).trans rfl
  have d246_15 : hc_ad W246 15 = (fun i => (fun i => b245 (2 + i)) (11 + i)) 0 := by unfold hc_ad; rw [g246_15]; rfl
  have g246_16 : W246[16]? = some ((fun i => b245 (2 + i)) 12, .inr (7, hc_F_Table 46 3 (fun i => (fun i => b245 (2 + i)) (13 + i)))) := by rw [eW246]; exact (hc_gr (n := 1) (i := 15) hB.1).trans rfl
  have d246_16 : hc_ad W246 16 = (fun i => b245 (2 + i)) 12 := by unfold hc_ad; rw [g246_16]; rfl
  have g246_17 : W246[17]? = some ((fun i => (fun i => b245 (2 + i)) (13 + i)) 0, .inl (k.1, 46 * 3, .inl (fun _ => 0))) := by rw [eW246]; exact (hc_gr (n := 1) (i := 16) hB.1).trans rfl
  have d246_17 : hc_ad W246 17 = (fun i => (fun i => b245 (2 + i)) (13 + i)) 0 := by unfold hc_ad; rw [g246_17]; rfl
  have g246_18 : W246[18]? = some (b245 16, .inl (k.1, 4, .inl (fun _ => 0))) := by rw [eW246]; exact (hc_gr (n := 1) (i := 17) hB.1).trans rfl
  have d246_18 : hc_ad W246 18 = b245 16 := by unfold hc_ad; rw [g246_18]; rfl
  have t246_18 : hb_wd hb_KT s (hc_ad W246) W246 [18] := hc_wdc (c := 18) (kd := (1, 0, 4, [(0, (-2147483648), 2147483647)])) rfl (hc_at g246_18) (hc_cellI hk0.1 (fun _ _ => ⟨by decide, by decide⟩)) (by decide) hc_wdn
  have t246_17 : hb_wd hb_KT s (hc_ad W246) W246 [17, 18] := hc_wdc (c := 17) (kd := (1, 0, 138, [(0, (-2147483648), 2147483647)])) rfl (hc_at g246_17) (hc_cellI hk0.1 (fun _ _ => ⟨by decide, by decide⟩)) (by decide) t246_18
  have t246_16 : hb_wd hb_KT s (hc_ad W246) W246 [16, 17, 18] := hc_wdc (c := 16) (kd := (0, 7, 3, [(0, 3, 3), (2, 17, 0), (0, 0, 46)])) rfl (hc_at g246_16) (hc_cellO rfl ⟨⟨(nI 3), rfl, by decide, by decide⟩, congrArg Value.ref (d246_17).symm, ⟨(nI 0), rfl, by decide, by decide⟩, trivial⟩) (by decide) t246_17
  have t246_15 : hb_wd hb_KT s (hc_ad W246) W246 [15, 16, 17, 18] := hc_wdc (c := 15) (kd := (1, 0, 90, [(0, (-2147483648), 2147483647)])) rfl (hc_at g246_15) (hc_cellI hk0.1 (fun _ _ => ⟨by decide, by decide⟩)) (by decide) t246_16
  have t246_14 : hb_wd hb_KT s (hc_ad W246) W246 [14, 15, 16, 17, 18] := hc_wdc (c := 14) (kd := (0, 7, 3, [(0, 3, 3), (2, 15, 0), (0, 0, 30)])) rfl (hc_at g246_14) (hc_cellO rfl ⟨⟨(nI 3), rfl, by decide, by decide⟩, congrArg Value.ref (d246_15).symm, ⟨(nI 0), rfl, by decide, by decide⟩, trivial⟩) (by decide) t246_15
  have t246_13 : hb_wd hb_KT s (hc_ad W246) W246 [13, 14, 15, 16, 17, 18] := hc_wdc (c := 13) (kd := (1, 0, 18, [(0, (-2147483648), 2147483647)])) rfl (hc_at g246_13) (hc_cellI hk0.1 (fun _ _ => ⟨by decide, by decide⟩)) (by decide) t246_14
  have t246_12 : hb_wd hb_KT s (hc_ad W246) W246 [12, 13, 14, 15, 16, 17, 18] := hc_wdc (c := 12) (kd := (0, 7, 3, [(0, 3, 3), (2, 13, 0), (0, 0, 6)])) rfl (hc_at g246_12) (hc_cellO rfl ⟨⟨(nI 3), rfl, by decide, by decide⟩, congrArg Value.ref (d246_13).symm, ⟨(nI 0), rfl, by decide, by decide⟩, trivial⟩) (by decide) t246_13
  have t246_11 : hb_wd hb_KT s (hc_ad W246) W246 [11, 12, 13, 14, 15, 16, 17, 18] := hc_wdc (c := 11) (kd := (1, 0, 30, [(0, (-2147483648), 2147483647)])) rfl (hc_at g246_11) (hc_cellI hk0.1 (fun _ _ => ⟨by decide, by decide⟩)) (by decide) t246_12
  have t246_10 : hb_wd hb_KT s (hc_ad W246) W246 [10, 11, 12, 13, 14, 15, 16, 17, 18] := hc_wdc (c := 10) (kd := (0, 7, 3, [(0, 3, 3), (2, 11, 0), (0, 0, 10)])) rfl (hc_at g246_10) (hc_cellO rfl ⟨⟨(nI 3), rfl, by decide, by decide⟩, congrArg Value.ref (d246_11).symm, ⟨(nI 0), rfl, by decide, by decide⟩, trivial⟩) (by decide) t246_11
  have t246_9 : hb_wd hb_KT s (hc_ad W246) W246 [9, 10, 11, 12, 13, 14, 15, 16, 17, 18] := hc_wdc (c := 9) (kd := (1, 0, 24, [(0, (-2147483648), 2147483647)])) rfl (hc_at g246_9) (hc_cellI hk0.1 (fun _ _ => ⟨by decide, by decide⟩)) (by decide) t246_10
  have t246_8 : hb_wd hb_KT s (hc_ad W246) W246 [8, 9, 10, 11, 12, 13, 14, 15, 16, 17, 18] := hc_wdc (c := 8) (kd := (0, 7, 3, [(0, 3, 3), (2, 9, 0), (0, 0, 8)])) rfl (hc_at g246_8) (hc_cellO rfl ⟨⟨(nI 3), rfl, by decide, by decide⟩, congrArg Value.ref (d246_9).symm, ⟨(nI 0), rfl, by decide, by decide⟩, trivial⟩) (by decide) t246_9
  have t246_7 : hb_wd hb_KT s (hc_ad W246) W246 [7, 8, 9, 10, 11, 12, 13, 14, 15, 16, 17, 18] := hc_wdc (c := 7) (kd := (1, 0, 10, [(0, (-2147483648), 2147483647)])) rfl (hc_at g246_7) (hc_cellI hk0.1 (fun _ _ => ⟨by decide, by decide⟩)) (by decide) t246_8
  have t246_6 : hb_wd hb_KT s (hc_ad W246) W246 [6, 7, 8, 9, 10, 11, 12, 13, 14, 15, 16, 17, 18] := hc_wdc (c := 6) (kd := (0, 7, 3, [(0, 2, 2), (2, 7, 0), (0, 0, 5)])) rfl (hc_at g246_6) (hc_cellO rfl ⟨⟨(nI 2), rfl, by decide, by decide⟩, congrArg Value.ref (d246_7).symm, ⟨(nI 0), rfl, by decide, by decide⟩, trivial⟩) (by decide) t246_7
  have t246_5 : hb_wd hb_KT s (hc_ad W246) W246 [5, 6, 7, 8, 9, 10, 11, 12, 13, 14, 15, 16, 17, 18] := hc_wdc (c := 5) (kd := (1, 0, 4, [(0, (-2147483648), 2147483647)])) rfl (hc_at g246_5) (hc_cellI hk0.1 (fun _ _ => ⟨by decide, by decide⟩)) (by decide) t246_6
  have t246_4 : hb_wd hb_KT s (hc_ad W246) W246 [4, 5, 6, 7, 8, 9, 10, 11, 12, 13, 14, 15, 16, 17, 18] := hc_wdc (c := 4) (kd := (0, 7, 3, [(0, 4, 4), (2, 5, 0), (0, 0, 1)])) rfl (hc_at g246_4) (hc_cellO rfl ⟨⟨(nI 4), rfl, by decide, by decide⟩, congrArg Value.ref (d246_5).symm, ⟨(nI 0), rfl, by decide, by decide⟩, trivial⟩) (by decide) t246_5
  have t246_3 : hb_wd hb_KT s (hc_ad W246) W246 [3, 4, 5, 6, 7, 8, 9, 10, 11, 12, 13, 14, 15, 16, 17, 18] := hc_wdc (c := 3) (kd := (0, 9, 8, [(2, 4, 0), (2, 6, 0), (2, 8, 0), (2, 10, 0), (2, 12, 0), (2, 14, 0), (2, 16, 0), (0, (-2147483648), 2147483647)])) rfl (hc_at g246_3) (hc_cellO rfl ⟨congrArg Value.ref (d246_4).symm, congrArg Value.ref (d246_6).symm, congrArg Value.ref (d246_8).symm, congrArg Value.ref (d246_10).symm, congrArg Value.ref (d246_12).symm, congrArg Value.ref (d246_14).symm, congrArg Value.ref (d246_16).symm, ⟨0, rfl, by decide, by decide⟩, trivial⟩) (by decide) t246_4
  have t246_2 : hb_wd hb_KT s (hc_ad W246) W246 [2, 3, 4, 5, 6, 7, 8, 9, 10, 11, 12, 13, 14, 15, 16, 17, 18] := hc_wdc (c := 2) (kd := (2, 0, 900, [(0, (-128), 127)])) rfl (hc_at g246_2) (hc_cellB hk0.2.1 (fun _ _ => ⟨by decide, by decide⟩)) (by decide) t246_3
  have t246_1 : hb_wd hb_KT s (hc_ad W246) W246 [1, 2, 3, 4, 5, 6, 7, 8, 9, 10, 11, 12, 13, 14, 15, 16, 17, 18] := hc_wdc (c := 1) (kd := (0, 4, 10, [(2, 2, 0), (0, 0, 900), (2, 3, 0), (0, (-2147483648), 2147483647), (0, (-2147483648), 2147483647), (0, (-2147483648), 2147483647), (0, (-2147483648), 2147483647), (0, (-2147483648), 2147483647), (2, 18, 0), (0, (-2147483648), 2147483647)])) rfl (hc_at g246_1) (hc_cellO rfl ⟨congrArg Value.ref (d246_2).symm, ⟨0, rfl, by decide, by decide⟩, congrArg Value.ref (d246_3).symm, ⟨0, rfl, by decide, by decide⟩, ⟨(-1 : Int32), rfl, by decide, by decide⟩, ⟨0, rfl, by decide, by decide⟩, ⟨0, rfl, by decide, by decide⟩, ⟨0, rfl, by decide, by decide⟩, congrArg Value.ref (d246_18).symm, ⟨0, rfl, by decide, by decide⟩, trivial⟩) (by decide) t246_2
  have hT246 := t246_1
  rw [eW246] at hT246
  have hB246 := hc_Bapp (m := 18) hB (by decide +kernel) rfl (by rw [hwl]; decide) hT246
  rw [← eW246] at hB246 hh245
  have hG246 : hp_all (hc_ad W246) W246 [(1, 1, 0), (1, 3, 0), (1, 4, (-1))] := (hp_allc (c := 1) (k := 1) (v := 0) ⟨_, _, hc_at g246_1, rfl, by decide⟩ (hp_allc (c := 1) (k := 3) (v := 0) ⟨_, _, hc_at g246_1, rfl, by decide⟩ (hp_allc (c := 1) (k := 4) (v := (-1)) ⟨_, _, hc_at g246_1, rfl, by decide⟩ hp_alln)))
  refine hc_putF (q0 := 0) (ci := 11) (k := 0) (own := "HopeBank") (C := RX11) (T := TX11) (N := 12) (t := tyX11 0) hx hb hown hTw hGs.1 hin hh245 rfl hB246.2.1 (by decide) hc_w125 rfl rfl (tyX11_ok 0 (by decide)) rfl rfl (Nat.le_of_ble_eq_true rfl) hc_d_HopeBank_12 rfl (fun Hhh247 locshh247 hh247 => ?_)
  have hh247 : hc_H D s wd (W246.set 0 (a, .inr (11, [.ref q243, .null, .null, .int 0, .null, .null, .null, .null, .null, .null, .null, .null]))) _ _ := hh247
  obtain ⟨B248, e248⟩ : ∃ B : va_W, B = W246.set 0 (a, .inr (11, [.ref q243, .null, .null, .int 0, .null, .null, .null, .null, .null, .null, .null, .null])) := ⟨_, rfl⟩
  have hB248 := hc_Bput (fs' := [.ref q243, .null, .null, .int 0, .null, .null, .null, .null, .null, .null, .null, .null]) hB246 (by decide +kernel) (by decide +kernel)
  rw [← e248] at hB248 hh247
  have hF248 : hp_all (hc_ad B248) B248 [(1, 1, 0), (1, 3, 0), (1, 4, (-1))] := (by rw [e248]; exact hp_allset hB246.2.1 (by decide +kernel) hG246)
  have d1_248 : hc_ad B248 1 = q243 := by rw [e248]; exact (hc_ads hB246.2.1 1).trans d246_1
  refine lv_aload_n hx hb hc_d_HopeBank_15 rfl (lv_at hl 0 rfl) ?_
  refine hc_new (ci := 9) (fs := hc_Z_Town) (own := "HopeBank") (C := RX9) (T := TX9) (N := 8) (ty := tyX9) hx hb hown hTw hGs.1 hh247 rfl tyX9_ok hc_Zok_Town hc_w126 hc_w23 hc_w24 (Nat.le_of_ble_eq_true rfl) (Nat.le_of_ble_eq_true rfl) hc_d_HopeBank_16 (fun q249 Hhh250 hh250 => ?_)
  have hh250 : hc_H D s wd (B248 ++ [(q249, .inr (9, hc_Z_Town))]) _ _ := hh250
  refine lv_dup hx hb hc_d_HopeBank_19 rfl ?_
  refine hc_cIN (nm := ⟨"HopeBank$Town", "<init>", "()V"⟩) (bc := prog_11_method_1_code) (mL := 1) (b := q249) (As := []) (rest := [.ref q249, .ref a]) (fp := []) (U := hc_ad wd) hBd hGs hX hh250 hc_nofp (hc_Town (U := hc_ad wd) (n0 := 20) (ki := 19) (by rw [List.length_append, hB248.1]; rfl) ((hc_gr (n := 19) (i := 0) hB248.1).trans rfl)) hc_cd_Town hc_w24 hX.2.2.2.2 hc_w25 rfl (by decide) ⟨(Nat.le_of_ble_eq_true rfl), (Nat.le_of_ble_eq_true rfl)⟩ (fun sig h => by cases h; rfl) hl.1 rfl (Nat.le_of_ble_eq_true rfl) ⟨(Nat.le_of_ble_eq_true rfl), (Nat.le_of_ble_eq_true rfl)⟩ hc_d_HopeBank_20 (fun t251 w251 H251 locs251 hv251 hp251 hh251 => ?_)
  obtain ⟨b251, hb251⟩ := hp251 k (hk0.moved hv251)
  rw [hc_sR (n := 19) (i := 0) hB248.1, List.append_assoc] at hb251
  subst hb251
  have hh251 : hc_H D s wd (B248 ++ [(q249, .inr (9, hc_F_Town b251)), (b251 0, .inr (7, hc_F_Table 1 4 (fun i => b251 (1 + i)))), ((fun i => b251 (1 + i)) 0, .inl (k.1, 1 * 4, .inl (fun _ => 0))), (b251 2, .inr (7, hc_F_Table 5 2 (fun i => b251 (3 + i)))), ((fun i => b251 (3 + i)) 0, .inl (k.1, 5 * 2, .inl (fun _ => 0))), (b251 4, .inr (7, hc_F_Table 8 3 (fun i => b251 (5 + i)))), ((fun i => b251 (5 + i)) 0, .inl (k.1, 8 * 3, .inl (fun _ => 0))), (b251 6, .inr (7, hc_F_Table 10 3 (fun i => b251 (7 + i)))), ((fun i => b251 (7 + i)) 0, .inl (k.1, 10 * 3, .inl (fun _ => 0))), (b251 8, .inr (7, hc_F_Table 6 3 (fun i => b251 (9 + i)))), ((fun i => b251 (9 + i)) 0, .inl (k.1, 6 * 3, .inl (fun _ => 0))), (b251 10, .inr (7, hc_F_Table 30 3 (fun i => b251 (11 + i)))), ((fun i => b251 (11 + i)) 0, .inl (k.1, 30 * 3, .inl (fun _ => 0))), (b251 12, .inr (7, hc_F_Table 46 3 (fun i => b251 (13 + i)))), ((fun i => b251 (13 + i)) 0, .inl (k.1, 46 * 3, .inl (fun _ => 0)))]) _ _ := hh251
  obtain ⟨W252, eW252⟩ : ∃ B : va_W, B = B248 ++ [(q249, .inr (9, hc_F_Town b251)), (b251 0, .inr (7, hc_F_Table 1 4 (fun i => b251 (1 + i)))), ((fun i => b251 (1 + i)) 0, .inl (k.1, 1 * 4, .inl (fun _ => 0))), (b251 2, .inr (7, hc_F_Table 5 2 (fun i => b251 (3 + i)))), ((fun i => b251 (3 + i)) 0, .inl (k.1, 5 * 2, .inl (fun _ => 0))), (b251 4, .inr (7, hc_F_Table 8 3 (fun i => b251 (5 + i)))), ((fun i => b251 (5 + i)) 0, .inl (k.1, 8 * 3, .inl (fun _ => 0))), (b251 6, .inr (7, hc_F_Table 10 3 (fun i => b251 (7 + i)))), ((fun i => b251 (7 + i)) 0, .inl (k.1, 10 * 3, .inl (fun _ => 0))), (b251 8, .inr (7, hc_F_Table 6 3 (fun i => b251 (9 + i)))), ((fun i => b251 (9 + i)) 0, .inl (k.1, 6 * 3, .inl (fun _ => 0))), (b251 10, .inr (7, hc_F_Table 30 3 (fun i => b251 (11 + i)))), ((fun i => b251 (11 + i)) 0, .inl (k.1, 30 * 3, .inl (fun _ => 0))), (b251 12, .inr (7, hc_F_Table 46 3 (fun i => b251 (13 + i)))), ((fun i => b251 (13 + i)) 0, .inl (k.1, 46 * 3, .inl (fun _ => 0)))] := ⟨_, rfl⟩
  have g252_19 : W252[19]? = some (q249, .inr (9, hc_F_Town b251)) := by rw [eW252]; exact (hc_gr (n := 19) (i := 0) hB248.1).trans rfl
  have d252_19 : hc_ad W252 19 = q249 := by unfold hc_ad; rw [g252_19]; rfl
  have g252_20 : W252[20]? = some (b251 0, .inr (7, hc_F_Table 1 4 (fun i => b251 (1 + i)))) := by rw [eW252]; exact (hc_gr (n := 19) (i := 1) hB248.1).trans rfl
  have d252_20 : hc_ad W252 20 = b251 0 := by unfold hc_ad; rw [g252_20]; rfl
  have g252_21 : W252[21]? = some ((fun i => b251 (1 + i)) 0, .inl (k.1, 1 * 4, .inl (fun _ => 0))) := by rw [eW252]; exact (hc_gr (n := 19) (i := 2) hB248.1).trans rfl
  have d252_21 : hc_ad W252 21 = (fun i => b251 (1 + i)) 0 := by unfold hc_ad; rw [g252_21]; rfl
  have g252_22 : W252[22]? = some (b251 2, .inr (7, hc_F_Table 5 2 (fun i => b251 (3 + i)))) := by rw [eW252]; exact (hc_gr (n := 19) (i := 3) hB248.1).trans rfl
  have d252_22 : hc_ad W252 22 = b251 2 := by unfold hc_ad; rw [g252_22]; rfl
  have g252_23 : W252[23]? = some ((fun i => b251 (3 + i)) 0, .inl (k.1, 5 * 2, .inl (fun _ => 0))) := by rw [eW252]; exact (hc_gr (n := 19) (i := 4) hB248.1).trans rfl
  have d252_23 : hc_ad W252 23 = (fun i => b251 (3 + i)) 0 := by unfold hc_ad; rw [g252_23]; rfl
  have g252_24 : W252[24]? = some (b251 4, .inr (7, hc_F_Table 8 3 (fun i => b251 (5 + i)))) := by rw [eW252]; exact (hc_gr (n := 19) (i := 5) hB248.1).trans rfl
  have d252_24 : hc_ad W252 24 = b251 4 := by unfold hc_ad; rw [g252_24]; rfl
  have g252_25 : W252[25]? = some ((fun i => b251 (5 + i)) 0, .inl (k.1, 8 * 3, .inl (fun _ => 0))) := by rw [eW252]; exact (hc_gr (n := 19) (i := 6) hB248.1).trans rfl
  have d252_25 : hc_ad W252 25 = (fun i => b251 (5 + i)) 0 := by unfold hc_ad; rw [g252_25]; rfl
  have g252_26 : W252[26]? = some (b251 6, .inr (7, hc_F_Table 10 3 (fun i => b251 (7 + i)))) := by rw [eW252]; exact (hc_gr (n := 19) (i := 7) hB248.1).trans rfl
  have d252_26 : hc_ad W252 26 = b251 6 := by unfold hc_ad; rw [g252_26]; rfl
  have g252_27 : W252[27]? = some ((fun i => b251 (7 + i)) 0, .inl (k.1, 10 * 3, .inl (fun _ => 0))) := by rw [eW252]; exact (hc_gr (n := 19) (i := 8) hB248.1).trans rfl
  have d252_27 : hc_ad W252 27 = (fun i => b251 (7 + i)) 0 := by unfold hc_ad; rw [g252_27]; rfl
  have g252_28 : W252[28]? = some (b251 8, .inr (7, hc_F_Table 6 3 (fun i => b251 (9 + i)))) := by rw [eW252]; exact (hc_gr (n := 19) (i := 9) hB248.1).trans rfl
  have d252_28 : hc_ad W252 28 = b251 8 := by unfold hc_ad; rw [g252_28]; rfl
  have g252_29 : W252[29]? = some ((fun i => b251 (9 + i)) 0, .inl (k.1, 6 * 3, .inl (fun _ => 0))) := by rw [eW252]; exact (hc_gr (n := 19) (i := 10) hB248.1).trans rfl
  have d252_29 : hc_ad W252 29 = (fun i => b251 (9 + i)) 0 := by unfold hc_ad; rw [g252_29]; rfl
  have g252_30 : W252[30]? = some (b251 10, .inr (7, hc_F_Table 30 3 (fun i => b251 (11 + i)))) := by rw [eW252]; exact (hc_gr (n := 19) (i := 11) hB248.1).trans rfl
  have d252_30 : hc_ad W252 30 = b251 10 := by unfold hc_ad; rw [g252_30]; rfl
  have g252_31 : W252[31]? = some ((fun i => b251 (11 + i)) 0, .inl (k.1, 30 * 3, .inl (fun _ => 0))) := by rw [eW252]; exact (hc_gr (n := 19) (i := 12) hB248.1).trans rfl
  have d252_31 : hc_ad W252 31 = (fun i => b251 (11 + i)) 0 := by unfold hc_ad; rw [g252_31]; rfl
  have g252_32 : W252[32]? = some (b251 12, .inr (7, hc_F_Table 46 3 (fun i => b251 (13 + i)))) := by rw [eW252]; exact (hc_gr (n := 19) (i := 13) hB248.1).trans rfl
  have d252_32 : hc_ad W252 32 = b251 12 := by unfold hc_ad; rw [g252_32]; rfl
  have g252_33 : W252[33]? = some ((fun i => b251 (13 + i)) 0, .inl (k.1, 46 * 3, .inl (fun _ => 0))) := by rw [eW252]; exact (hc_gr (n := 19) (i := 14) hB248.1).trans rfl
  have d252_33 : hc_ad W252 33 = (fun i => b251 (13 + i)) 0 := by unfold hc_ad; rw [g252_33]; rfl
  have d252_1 : hc_ad W252 1 = q243 := by rw [eW252]; exact (hc_adl (by rw [hB248.1]; decide)).trans d1_248
  have t252_33 : hb_wd hb_KT s (hc_ad W252) W252 [33] := hc_wdc (c := 33) (kd := (1, 0, 138, [(0, (-2147483648), 2147483647)])) rfl (hc_at g252_33) (hc_cellI hk0.1 (fun _ _ => ⟨by decide, by decide⟩)) (by decide) hc_wdn
  have t252_32 : hb_wd hb_KT s (hc_ad W252) W252 [32, 33] := hc_wdc (c := 32) (kd := (0, 7, 3, [(0, 3, 3), (2, 33, 0), (0, 0, 46)])) rfl (hc_at g252_32) (hc_cellO rfl ⟨⟨(nI 3), rfl, by decide, by decide⟩, congrArg Value.ref (d252_33).symm, ⟨(nI 0), rfl, by decide, by decide⟩, trivial⟩) (by decide) t252_33
  have t252_31 : hb_wd hb_KT s (hc_ad W252) W252 [31, 32, 33] := hc_wdc (c := 31) (kd := (1, 0, 90, [(0, (-2147483648), 2147483647)])) rfl (hc_at g252_31) (hc_cellI hk0.1 (fun _ _ => ⟨by decide, by decide⟩)) (by decide) t252_32
  have t252_30 : hb_wd hb_KT s (hc_ad W252) W252 [30, 31, 32, 33] := hc_wdc (c := 30) (kd := (0, 7, 3, [(0, 3, 3), (2, 31, 0), (0, 0, 30)])) rfl (hc_at g252_30) (hc_cellO rfl ⟨⟨(nI 3), rfl, by decide, by decide⟩, congrArg Value.ref (d252_31).symm, ⟨(nI 0), rfl, by decide, by decide⟩, trivial⟩) (by decide) t252_31
  have t252_29 : hb_wd hb_KT s (hc_ad W252) W252 [29, 30, 31, 32, 33] := hc_wdc (c := 29) (kd := (1, 0, 18, [(0, (-2147483648), 2147483647)])) rfl (hc_at g252_29) (hc_cellI hk0.1 (fun _ _ => ⟨by decide, by decide⟩)) (by decide) t252_30
  have t252_28 : hb_wd hb_KT s (hc_ad W252) W252 [28, 29, 30, 31, 32, 33] := hc_wdc (c := 28) (kd := (0, 7, 3, [(0, 3, 3), (2, 29, 0), (0, 0, 6)])) rfl (hc_at g252_28) (hc_cellO rfl ⟨⟨(nI 3), rfl, by decide, by decide⟩, congrArg Value.ref (d252_29).symm, ⟨(nI 0), rfl, by decide, by decide⟩, trivial⟩) (by decide) t252_29
  have t252_27 : hb_wd hb_KT s (hc_ad W252) W252 [27, 28, 29, 30, 31, 32, 33] := hc_wdc (c := 27) (kd := (1, 0, 30, [(0, (-2147483648), 2147483647)])) rfl (hc_at g252_27) (hc_cellI hk0.1 (fun _ _ => ⟨by decide, by decide⟩)) (by decide) t252_28
  have t252_26 : hb_wd hb_KT s (hc_ad W252) W252 [26, 27, 28, 29, 30, 31, 32, 33] := hc_wdc (c := 26) (kd := (0, 7, 3, [(0, 3, 3), (2, 27, 0), (0, 0, 10)])) rfl (hc_at g252_26) (hc_cellO rfl ⟨⟨(nI 3), rfl, by decide, by decide⟩, congrArg Value.ref (d252_27).symm, ⟨(nI 0), rfl, by decide, by decide⟩, trivial⟩) (by decide) t252_27
  have t252_25 : hb_wd hb_KT s (hc_ad W252) W252 [25, 26, 27, 28, 29, 30, 31, 32, 33] := hc_wdc (c := 25) (kd := (1, 0, 24, [(0, (-2147483648), 2147483647)])) rfl (hc_at g252_25) (hc_cellI hk0.1 (fun _ _ => ⟨by decide, by decide⟩)) (by decide) t252_26
  have t252_24 : hb_wd hb_KT s (hc_ad W252) W252 [24, 25, 26, 27, 28, 29, 30, 31, 32, 33] := hc_wdc (c := 24) (kd := (0, 7, 3, [(0, 3, 3), (2, 25, 0), (0, 0, 8)])) rfl (hc_at g252_24) (hc_cellO rfl ⟨⟨(nI 3), rfl, by decide, by decide⟩, congrArg Value.ref (d252_25).symm, ⟨(nI 0), rfl, by decide, by decide⟩, trivial⟩) (by decide) t252_25
  have t252_23 : hb_wd hb_KT s (hc_ad W252) W252 [23, 24, 25, 26, 27, 28, 29, 30, 31, 32, 33] := hc_wdc (c := 23) (kd := (1, 0, 10, [(0, (-2147483648), 2147483647)])) rfl (hc_at g252_23) (hc_cellI hk0.1 (fun _ _ => ⟨by decide, by decide⟩)) (by decide) t252_24
  have t252_22 : hb_wd hb_KT s (hc_ad W252) W252 [22, 23, 24, 25, 26, 27, 28, 29, 30, 31, 32, 33] := hc_wdc (c := 22) (kd := (0, 7, 3, [(0, 2, 2), (2, 23, 0), (0, 0, 5)])) rfl (hc_at g252_22) (hc_cellO rfl ⟨⟨(nI 2), rfl, by decide, by decide⟩, congrArg Value.ref (d252_23).symm, ⟨(nI 0), rfl, by decide, by decide⟩, trivial⟩) (by decide) t252_23
  have t252_21 : hb_wd hb_KT s (hc_ad W252) W252 [21, 22, 23, 24, 25, 26, 27, 28, 29, 30, 31, 32, 33] := hc_wdc (c := 21) (kd := (1, 0, 4, [(0, (-2147483648), 2147483647)])) rfl (hc_at g252_21) (hc_cellI hk0.1 (fun _ _ => ⟨by decide, by decide⟩)) (by decide) t252_22
  have t252_20 : hb_wd hb_KT s (hc_ad W252) W252 [20, 21, 22, 23, 24, 25, 26, 27, 28, 29, 30, 31, 32, 33] := hc_wdc (c := 20) (kd := (0, 7, 3, [(0, 4, 4), (2, 21, 0), (0, 0, 1)])) rfl (hc_at g252_20) (hc_cellO rfl ⟨⟨(nI 4), rfl, by decide, by decide⟩, congrArg Value.ref (d252_21).symm, ⟨(nI 0), rfl, by decide, by decide⟩, trivial⟩) (by decide) t252_21
  have t252_19 : hb_wd hb_KT s (hc_ad W252) W252 [19, 20, 21, 22, 23, 24, 25, 26, 27, 28, 29, 30, 31, 32, 33] := hc_wdc (c := 19) (kd := (0, 9, 8, [(2, 20, 0), (2, 22, 0), (2, 24, 0), (2, 26, 0), (2, 28, 0), (2, 30, 0), (2, 32, 0), (0, (-2147483648), 2147483647)])) rfl (hc_at g252_19) (hc_cellO rfl ⟨congrArg Value.ref (d252_20).symm, congrArg Value.ref (d252_22).symm, congrArg Value.ref (d252_24).symm, congrArg Value.ref (d252_26).symm, congrArg Value.ref (d252_28).symm, congrArg Value.ref (d252_30).symm, congrArg Value.ref (d252_32).symm, ⟨0, rfl, by decide, by decide⟩, trivial⟩) (by decide) t252_20
  have hT252 := t252_19
  rw [eW252] at hT252
  have hB252 := hc_Bapp (m := 15) hB248 (by decide +kernel) rfl (by rw [hwl]; decide) hT252
  rw [← eW252] at hB252 hh251
  have hF252 : hp_all (hc_ad W252) W252 [(1, 1, 0), (1, 3, 0), (1, 4, (-1))] := (by rw [eW252]; exact hp_allapp hF248)
  have hG252 : hp_all (hc_ad W252) W252 [(19, 7, 0), (20, 2, 0), (22, 2, 0), (24, 2, 0), (26, 2, 0), (28, 2, 0), (30, 2, 0), (1, 1, 0), (1, 3, 0), (1, 4, (-1))] := (hp_allc (c := 19) (k := 7) (v := 0) ⟨_, _, hc_at g252_19, rfl, by decide⟩ (hp_allc (c := 20) (k := 2) (v := 0) ⟨_, _, hc_at g252_20, rfl, by decide⟩ (hp_allc (c := 22) (k := 2) (v := 0) ⟨_, _, hc_at g252_22, rfl, by decide⟩ (hp_allc (c := 24) (k := 2) (v := 0) ⟨_, _, hc_at g252_24, rfl, by decide⟩ (hp_allc (c := 26) (k := 2) (v := 0) ⟨_, _, hc_at g252_26, rfl, by decide⟩ (hp_allc (c := 28) (k := 2) (v := 0) ⟨_, _, hc_at g252_28, rfl, by decide⟩ (hp_allc (c := 30) (k := 2) (v := 0) ⟨_, _, hc_at g252_30, rfl, by decide⟩ hF252)))))))
  refine hc_putF (q0 := 0) (ci := 11) (k := 1) (own := "HopeBank") (C := RX11) (T := TX11) (N := 12) (t := tyX11 1) hx hb hown hTw hGs.1 hin hh251 rfl hB252.2.1 (by decide) hc_w127 rfl rfl (tyX11_ok 1 (by decide)) rfl rfl (Nat.le_of_ble_eq_true rfl) hc_d_HopeBank_23 rfl (fun Hhh253 locshh253 hh253 => ?_)
  have hh253 : hc_H D s wd (W252.set 0 (a, .inr (11, [.ref q243, .ref q249, .null, .int 0, .null, .null, .null, .null, .null, .null, .null, .null]))) _ _ := hh253
  obtain ⟨B254, e254⟩ : ∃ B : va_W, B = W252.set 0 (a, .inr (11, [.ref q243, .ref q249, .null, .int 0, .null, .null, .null, .null, .null, .null, .null, .null])) := ⟨_, rfl⟩
  have hB254 := hc_Bput (fs' := [.ref q243, .ref q249, .null, .int 0, .null, .null, .null, .null, .null, .null, .null, .null]) hB252 (by decide +kernel) (by decide +kernel)
  rw [← e254] at hB254 hh253
  have hF254 : hp_all (hc_ad B254) B254 [(19, 7, 0), (20, 2, 0), (22, 2, 0), (24, 2, 0), (26, 2, 0), (28, 2, 0), (30, 2, 0), (1, 1, 0), (1, 3, 0), (1, 4, (-1))] := (by rw [e254]; exact hp_allset hB252.2.1 (by decide +kernel) hG252)
  have d1_254 : hc_ad B254 1 = q243 := by rw [e254]; exact (hc_ads hB252.2.1 1).trans d252_1
  have d19_254 : hc_ad B254 19 = q249 := by rw [e254]; exact (hc_ads hB252.2.1 19).trans d252_19
  refine lv_aload_n hx hb hc_d_HopeBank_26 rfl (lv_at hl 0 rfl) ?_
  refine lv_iconst (v := nI 3) hx hb hc_d_HopeBank_27 (by decide) ?_
  refine hc_newq (N' := 3) (own := "HopeBank") (C := "HopeBank$Town") hx hb hown hTw hX.1 hGs.1 hh253 hc_w126 (by decide) (by decide) (Nat.le_of_ble_eq_true rfl) (Nat.le_of_ble_eq_true rfl) (Nat.le_of_ble_eq_true rfl) hc_d_HopeBank_28 (fun q255 cQ Hhh256 hQ1 hQ2 hh256 => ?_)
  have hh256 : hc_H D s wd (B254 ++ [(q255, .inl (cQ, 3, .inr (.inr (.inr (.inr (fun _ => none))))))]) _ _ := hh256
  refine hc_putF (q0 := 0) (ci := 11) (k := 2) (own := "HopeBank") (C := RX11) (T := TX11) (N := 12) (t := tyX11 2) hx hb hown hTw hGs.1 hin hh256 rfl (hc_gl hB254.2.1) (by decide) hc_w128 rfl rfl (tyX11_ok 2 (by decide)) rfl rfl (Nat.le_of_ble_eq_true rfl) hc_d_HopeBank_31 (hc_sl hB254.2.1) (fun Hhh257 locshh257 hh257 => ?_)
  have hh257 : hc_H D s wd (B254.set 0 (a, .inr (11, [.ref q243, .ref q249, .ref q255, .int 0, .null, .null, .null, .null, .null, .null, .null, .null])) ++ [(q255, .inl (cQ, 3, .inr (.inr (.inr (.inr (fun _ => none))))))]) _ _ := hh257
  obtain ⟨B258, e258⟩ : ∃ B : va_W, B = B254.set 0 (a, .inr (11, [.ref q243, .ref q249, .ref q255, .int 0, .null, .null, .null, .null, .null, .null, .null, .null])) := ⟨_, rfl⟩
  have hB258 := hc_Bput (fs' := [.ref q243, .ref q249, .ref q255, .int 0, .null, .null, .null, .null, .null, .null, .null, .null]) hB254 (by decide +kernel) (by decide +kernel)
  rw [← e258] at hB258 hh257
  have hF258 : hp_all (hc_ad B258) B258 [(19, 7, 0), (20, 2, 0), (22, 2, 0), (24, 2, 0), (26, 2, 0), (28, 2, 0), (30, 2, 0), (1, 1, 0), (1, 3, 0), (1, 4, (-1))] := (by rw [e258]; exact hp_allset hB254.2.1 (by decide +kernel) hF254)
  have d1_258 : hc_ad B258 1 = q243 := by rw [e258]; exact (hc_ads hB254.2.1 1).trans d1_254
  have d19_258 : hc_ad B258 19 = q249 := by rw [e258]; exact (hc_ads hB254.2.1 19).trans d19_254
  refine lv_iconst (v := nI 0) hx hb hc_d_HopeBank_34 (by decide) ?_
  refine lv_istore_n (lv' := [(1, .int (nI 0)), (0, .ref a)]) hx hb hc_d_HopeBank_35 rfl hl (by decide) rfl (fun ls259 hl259 => ?_)
  refine lv_iload_n hx hb hc_d_HopeBank_36 rfl (lv_at hl259 0 rfl) ?_
  refine lv_aload_n hx hb hc_d_HopeBank_37 rfl (lv_at hl259 1 rfl) ?_
  refine hc_getf (q0 := 0) (ci := 11) (k := 2) (v := .ref q255) (own := "HopeBank") (C := RX11) (T := TX11) (N := 12) hx hb hown hTw hGs.1 hh257 rfl (hc_gl hB258.2.1) (by decide) hc_w128 rfl hc_d_HopeBank_38 ?_
  refine hc_alen (q0 := 34) (v := nI 3) hx hb hGs.1 hQ1 hQ2 hh257 ((hc_gr (n := 34) (i := 0) hB258.1).trans rfl) rfl hc_d_HopeBank_41 ?_
  refine lv_icmp_ge (tgt := 64) hx hb hc_d_HopeBank_42 (by decide) (fun h => absurd h (by decide)) (fun _ => ?_)
  refine lv_aload_n hx hb hc_d_HopeBank_45 rfl (lv_at hl259 1 rfl) ?_
  refine hc_getf (q0 := 0) (ci := 11) (k := 2) (v := .ref q255) (own := "HopeBank") (C := RX11) (T := TX11) (N := 12) hx hb hown hTw hGs.1 hh257 rfl (hc_gl hB258.2.1) (by decide) hc_w128 rfl hc_d_HopeBank_46 ?_
  refine lv_iload_n hx hb hc_d_HopeBank_49 rfl (lv_at hl259 0 rfl) ?_
  refine hc_new (ci := 9) (fs := hc_Z_Town) (own := "HopeBank") (C := RX9) (T := TX9) (N := 8) (ty := tyX9) hx hb hown hTw hGs.1 hh257 rfl tyX9_ok hc_Zok_Town hc_w126 hc_w23 hc_w24 (Nat.le_of_ble_eq_true rfl) (Nat.le_of_ble_eq_true rfl) hc_d_HopeBank_50 (fun q260 Hhh261 hh261 => ?_)
  rw [List.append_assoc] at hh261
  have hh261 : hc_H D s wd (B258 ++ [(q255, .inl (cQ, 3, .inr (.inr (.inr (.inr (fun _ => none)))))), (q260, .inr (9, hc_Z_Town))]) _ _ := hh261
  refine lv_dup hx hb hc_d_HopeBank_53 rfl ?_
  refine hc_cIN (nm := ⟨"HopeBank$Town", "<init>", "()V"⟩) (bc := prog_11_method_1_code) (mL := 1) (b := q260) (As := []) (rest := [.ref q260, .int (nI 0), .ref q255]) (fp := []) (U := hc_ad wd) hBd hGs hX hh261 hc_nofp (hc_Town (U := hc_ad wd) (n0 := 36) (ki := 35) (by rw [List.length_append, hB258.1]; rfl) ((hc_gr (n := 34) (i := 1) hB258.1).trans rfl)) hc_cd_Town hc_w24 hX.2.2.2.2 hc_w25 rfl (by decide) ⟨(Nat.le_of_ble_eq_true rfl), (Nat.le_of_ble_eq_true rfl)⟩ (fun sig h => by cases h; rfl) hl259.1 rfl (Nat.le_of_ble_eq_true rfl) ⟨(Nat.le_of_ble_eq_true rfl), (Nat.le_of_ble_eq_true rfl)⟩ hc_d_HopeBank_54 (fun t262 w262 H262 locs262 hv262 hp262 hh262 => ?_)
  obtain ⟨b262, hb262⟩ := hp262 k (hk0.moved hv262)
  rw [hc_sR (n := 34) (i := 1) hB258.1, List.append_assoc] at hb262
  subst hb262
  have hh262 : hc_H D s wd (B258 ++ [(q255, .inl (cQ, 3, .inr (.inr (.inr (.inr (fun _ => none)))))), (q260, .inr (9, hc_F_Town b262)), (b262 0, .inr (7, hc_F_Table 1 4 (fun i => b262 (1 + i)))), ((fun i => b262 (1 + i)) 0, .inl (k.1, 1 * 4, .inl (fun _ => 0))), (b262 2, .inr (7, hc_F_Table 5 2 (fun i => b262 (3 + i)))), ((fun i => b262 (3 + i)) 0, .inl (k.1, 5 * 2, .inl (fun _ => 0))), (b262 4, .inr (7, hc_F_Table 8 3 (fun i => b262 (5 + i)))), ((fun i => b262 (5 + i)) 0, .inl (k.1, 8 * 3, .inl (fun _ => 0))), (b262 6, .inr (7, hc_F_Table 10 3 (fun i => b262 (7 + i)))), ((fun i => b262 (7 + i)) 0, .inl (k.1, 10 * 3, .inl (fun _ => 0))), (b262 8, .inr (7, hc_F_Table 6 3 (fun i => b262 (9 + i)))), ((fun i => b262 (9 + i)) 0, .inl (k.1, 6 * 3, .inl (fun _ => 0))), (b262 10, .inr (7, hc_F_Table 30 3 (fun i => b262 (11 + i)))), ((fun i => b262 (11 + i)) 0, .inl (k.1, 30 * 3, .inl (fun _ => 0))), (b262 12, .inr (7, hc_F_Table 46 3 (fun i => b262 (13 + i)))), ((fun i => b262 (13 + i)) 0, .inl (k.1, 46 * 3, .inl (fun _ => 0)))]) _ _ := hh262
  refine hc_astq (q0 := 34) (qk := 35) (i := nI 0) hx hb hGs.1 hQ1 hQ2 hh262 ((hc_gr (n := 34) (i := 0) hB258.1).trans rfl) ((hc_gr (n := 34) (i := 1) hB258.1).trans rfl) (nI_in (by decide) (by decide)) hc_d_HopeBank_57 (hc_sR (i := 0) hB258.1) (fun Hhh263 locshh263 hh263 => ?_)
  have hh263 : hc_H D s wd (B258 ++ [(q255, .inl (cQ, 3, .inr (.inr (.inr (.inr (va_up (fun _ => none) 0 (some q260))))))), (q260, .inr (9, hc_F_Town b262)), (b262 0, .inr (7, hc_F_Table 1 4 (fun i => b262 (1 + i)))), ((fun i => b262 (1 + i)) 0, .inl (k.1, 1 * 4, .inl (fun _ => 0))), (b262 2, .inr (7, hc_F_Table 5 2 (fun i => b262 (3 + i)))), ((fun i => b262 (3 + i)) 0, .inl (k.1, 5 * 2, .inl (fun _ => 0))), (b262 4, .inr (7, hc_F_Table 8 3 (fun i => b262 (5 + i)))), ((fun i => b262 (5 + i)) 0, .inl (k.1, 8 * 3, .inl (fun _ => 0))), (b262 6, .inr (7, hc_F_Table 10 3 (fun i => b262 (7 + i)))), ((fun i => b262 (7 + i)) 0, .inl (k.1, 10 * 3, .inl (fun _ => 0))), (b262 8, .inr (7, hc_F_Table 6 3 (fun i => b262 (9 + i)))), ((fun i => b262 (9 + i)) 0, .inl (k.1, 6 * 3, .inl (fun _ => 0))), (b262 10, .inr (7, hc_F_Table 30 3 (fun i => b262 (11 + i)))), ((fun i => b262 (11 + i)) 0, .inl (k.1, 30 * 3, .inl (fun _ => 0))), (b262 12, .inr (7, hc_F_Table 46 3 (fun i => b262 (13 + i)))), ((fun i => b262 (13 + i)) 0, .inl (k.1, 46 * 3, .inl (fun _ => 0)))]) _ _ := hh263
  refine lv_iinc (v := nI 1) (lv' := [(1, .int (nI 1)), (0, .ref a)]) hx hb hc_d_HopeBank_58 hl259 (k := 0) rfl (by decide) (by decide) rfl (fun ls264 hl264 => ?_)
  refine lv_goto (tgt := 36) hx hb hc_d_HopeBank_61 (by decide) ?_
  refine lv_iload_n hx hb hc_d_HopeBank_36 rfl (lv_at hl264 0 rfl) ?_
  refine lv_aload_n hx hb hc_d_HopeBank_37 rfl (lv_at hl264 1 rfl) ?_
  refine hc_getf (q0 := 0) (ci := 11) (k := 2) (v := .ref q255) (own := "HopeBank") (C := RX11) (T := TX11) (N := 12) hx hb hown hTw hGs.1 hh263 rfl (hc_gl hB258.2.1) (by decide) hc_w128 rfl hc_d_HopeBank_38 ?_
  refine hc_alen (q0 := 34) (v := nI 3) hx hb hGs.1 hQ1 hQ2 hh263 ((hc_gr (n := 34) (i := 0) hB258.1).trans rfl) rfl hc_d_HopeBank_41 ?_
  refine lv_icmp_ge (tgt := 64) hx hb hc_d_HopeBank_42 (by decide) (fun h => absurd h (by decide)) (fun _ => ?_)
  refine lv_aload_n hx hb hc_d_HopeBank_45 rfl (lv_at hl264 1 rfl) ?_
  refine hc_getf (q0 := 0) (ci := 11) (k := 2) (v := .ref q255) (own := "HopeBank") (C := RX11) (T := TX11) (N := 12) hx hb hown hTw hGs.1 hh263 rfl (hc_gl hB258.2.1) (by decide) hc_w128 rfl hc_d_HopeBank_46 ?_
  refine lv_iload_n hx hb hc_d_HopeBank_49 rfl (lv_at hl264 0 rfl) ?_
  refine hc_new (ci := 9) (fs := hc_Z_Town) (own := "HopeBank") (C := RX9) (T := TX9) (N := 8) (ty := tyX9) hx hb hown hTw hGs.1 hh263 rfl tyX9_ok hc_Zok_Town hc_w126 hc_w23 hc_w24 (Nat.le_of_ble_eq_true rfl) (Nat.le_of_ble_eq_true rfl) hc_d_HopeBank_50 (fun q265 Hhh266 hh266 => ?_)
  rw [List.append_assoc] at hh266
  have hh266 : hc_H D s wd (B258 ++ [(q255, .inl (cQ, 3, .inr (.inr (.inr (.inr (va_up (fun _ => none) 0 (some q260))))))), (q260, .inr (9, hc_F_Town b262)), (b262 0, .inr (7, hc_F_Table 1 4 (fun i => b262 (1 + i)))), ((fun i => b262 (1 + i)) 0, .inl (k.1, 1 * 4, .inl (fun _ => 0))), (b262 2, .inr (7, hc_F_Table 5 2 (fun i => b262 (3 + i)))), ((fun i => b262 (3 + i)) 0, .inl (k.1, 5 * 2, .inl (fun _ => 0))), (b262 4, .inr (7, hc_F_Table 8 3 (fun i => b262 (5 + i)))), ((fun i => b262 (5 + i)) 0, .inl (k.1, 8 * 3, .inl (fun _ => 0))), (b262 6, .inr (7, hc_F_Table 10 3 (fun i => b262 (7 + i)))), ((fun i => b262 (7 + i)) 0, .inl (k.1, 10 * 3, .inl (fun _ => 0))), (b262 8, .inr (7, hc_F_Table 6 3 (fun i => b262 (9 + i)))), ((fun i => b262 (9 + i)) 0, .inl (k.1, 6 * 3, .inl (fun _ => 0))), (b262 10, .inr (7, hc_F_Table 30 3 (fun i => b262 (11 + i)))), ((fun i => b262 (11 + i)) 0, .inl (k.1, 30 * 3, .inl (fun _ => 0))), (b262 12, .inr (7, hc_F_Table 46 3 (fun i => b262 (13 + i)))), ((fun i => b262 (13 + i)) 0, .inl (k.1, 46 * 3, .inl (fun _ => 0))), (q265, .inr (9, hc_Z_Town))]) _ _ := hh266
  refine lv_dup hx hb hc_d_HopeBank_53 rfl ?_
  refine hc_cIN (nm := ⟨"HopeBank$Town", "<init>", "()V"⟩) (bc := prog_11_method_1_code) (mL := 1) (b := q265) (As := []) (rest := [.ref q265, .int (nI 1), .ref q255]) (fp := []) (U := hc_ad wd) hBd hGs hX hh266 hc_nofp (hc_Town (U := hc_ad wd) (n0 := 51) (ki := 50) (by rw [List.length_append, hB258.1]; rfl) ((hc_gr (n := 34) (i := 16) hB258.1).trans rfl)) hc_cd_Town hc_w24 hX.2.2.2.2 hc_w25 rfl (by decide) ⟨(Nat.le_of_ble_eq_true rfl), (Nat.le_of_ble_eq_true rfl)⟩ (fun sig h => by cases h; rfl) hl264.1 rfl (Nat.le_of_ble_eq_true rfl) ⟨(Nat.le_of_ble_eq_true rfl), (Nat.le_of_ble_eq_true rfl)⟩ hc_d_HopeBank_54 (fun t267 w267 H267 locs267 hv267 hp267 hh267 => ?_)
  obtain ⟨b267, hb267⟩ := hp267 k (hk0.moved hv267)
  rw [hc_sR (n := 34) (i := 16) hB258.1, List.append_assoc] at hb267
  subst hb267
  have hh267 : hc_H D s wd (B258 ++ [(q255, .inl (cQ, 3, .inr (.inr (.inr (.inr (va_up (fun _ => none) 0 (some q260))))))), (q260, .inr (9, hc_F_Town b262)), (b262 0, .inr (7, hc_F_Table 1 4 (fun i => b262 (1 + i)))), ((fun i => b262 (1 + i)) 0, .inl (k.1, 1 * 4, .inl (fun _ => 0))), (b262 2, .inr (7, hc_F_Table 5 2 (fun i => b262 (3 + i)))), ((fun i => b262 (3 + i)) 0, .inl (k.1, 5 * 2, .inl (fun _ => 0))), (b262 4, .inr (7, hc_F_Table 8 3 (fun i => b262 (5 + i)))), ((fun i => b262 (5 + i)) 0, .inl (k.1, 8 * 3, .inl (fun _ => 0))), (b262 6, .inr (7, hc_F_Table 10 3 (fun i => b262 (7 + i)))), ((fun i => b262 (7 + i)) 0, .inl (k.1, 10 * 3, .inl (fun _ => 0))), (b262 8, .inr (7, hc_F_Table 6 3 (fun i => b262 (9 + i)))), ((fun i => b262 (9 + i)) 0, .inl (k.1, 6 * 3, .inl (fun _ => 0))), (b262 10, .inr (7, hc_F_Table 30 3 (fun i => b262 (11 + i)))), ((fun i => b262 (11 + i)) 0, .inl (k.1, 30 * 3, .inl (fun _ => 0))), (b262 12, .inr (7, hc_F_Table 46 3 (fun i => b262 (13 + i)))), ((fun i => b262 (13 + i)) 0, .inl (k.1, 46 * 3, .inl (fun _ => 0))), (q265, .inr (9, hc_F_Town b267)), (b267 0, .inr (7, hc_F_Table 1 4 (fun i => b267 (1 + i)))), ((fun i => b267 (1 + i)) 0, .inl (k.1, 1 * 4, .inl (fun _ => 0))), (b267 2, .inr (7, hc_F_Table 5 2 (fun i => b267 (3 + i)))), ((fun i => b267 (3 + i)) 0, .inl (k.1, 5 * 2, .inl (fun _ => 0))), (b267 4, .inr (7, hc_F_Table 8 3 (fun i => b267 (5 + i)))), ((fun i => b267 (5 + i)) 0, .inl (k.1, 8 * 3, .inl (fun _ => 0))), (b267 6, .inr (7, hc_F_Table 10 3 (fun i => b267 (7 + i)))), ((fun i => b267 (7 + i)) 0, .inl (k.1, 10 * 3, .inl (fun _ => 0))), (b267 8, .inr (7, hc_F_Table 6 3 (fun i => b267 (9 + i)))), ((fun i => b267 (9 + i)) 0, .inl (k.1, 6 * 3, .inl (fun _ => 0))), (b267 10, .inr (7, hc_F_Table 30 3 (fun i => b267 (11 + i)))), ((fun i => b267 (11 + i)) 0, .inl (k.1, 30 * 3, .inl (fun _ => 0))), (b267 12, .inr (7, hc_F_Table 46 3 (fun i => b267 (13 + i)))), ((fun i => b267 (13 + i)) 0, .inl (k.1, 46 * 3, .inl (fun _ => 0)))]) _ _ := hh267
  refine hc_astq (q0 := 34) (qk := 50) (i := nI 1) hx hb hGs.1 hQ1 hQ2 hh267 ((hc_gr (n := 34) (i := 0) hB258.1).trans rfl) ((hc_gr (n := 34) (i := 16) hB258.1).trans rfl) (nI_in (by decide) (by decide)) hc_d_HopeBank_57 (hc_sR (i := 0) hB258.1) (fun Hhh268 locshh268 hh268 => ?_)
  have hh268 : hc_H D s wd (B258 ++ [(q255, .inl (cQ, 3, .inr (.inr (.inr (.inr (va_up (va_up (fun _ => none) 0 (some q260)) 1 (some q265))))))), (q260, .inr (9, hc_F_Town b262)), (b262 0, .inr (7, hc_F_Table 1 4 (fun i => b262 (1 + i)))), ((fun i => b262 (1 + i)) 0, .inl (k.1, 1 * 4, .inl (fun _ => 0))), (b262 2, .inr (7, hc_F_Table 5 2 (fun i => b262 (3 + i)))), ((fun i => b262 (3 + i)) 0, .inl (k.1, 5 * 2, .inl (fun _ => 0))), (b262 4, .inr (7, hc_F_Table 8 3 (fun i => b262 (5 + i)))), ((fun i => b262 (5 + i)) 0, .inl (k.1, 8 * 3, .inl (fun _ => 0))), (b262 6, .inr (7, hc_F_Table 10 3 (fun i => b262 (7 + i)))), ((fun i => b262 (7 + i)) 0, .inl (k.1, 10 * 3, .inl (fun _ => 0))), (b262 8, .inr (7, hc_F_Table 6 3 (fun i => b262 (9 + i)))), ((fun i => b262 (9 + i)) 0, .inl (k.1, 6 * 3, .inl (fun _ => 0))), (b262 10, .inr (7, hc_F_Table 30 3 (fun i => b262 (11 + i)))), ((fun i => b262 (11 + i)) 0, .inl (k.1, 30 * 3, .inl (fun _ => 0))), (b262 12, .inr (7, hc_F_Table 46 3 (fun i => b262 (13 + i)))), ((fun i => b262 (13 + i)) 0, .inl (k.1, 46 * 3, .inl (fun _ => 0))), (q265, .inr (9, hc_F_Town b267)), (b267 0, .inr (7, hc_F_Table 1 4 (fun i => b267 (1 + i)))), ((fun i => b267 (1 + i)) 0, .inl (k.1, 1 * 4, .inl (fun _ => 0))), (b267 2, .inr (7, hc_F_Table 5 2 (fun i => b267 (3 + i)))), ((fun i => b267 (3 + i)) 0, .inl (k.1, 5 * 2, .inl (fun _ => 0))), (b267 4, .inr (7, hc_F_Table 8 3 (fun i => b267 (5 + i)))), ((fun i => b267 (5 + i)) 0, .inl (k.1, 8 * 3, .inl (fun _ => 0))), (b267 6, .inr (7, hc_F_Table 10 3 (fun i => b267 (7 + i)))), ((fun i => b267 (7 + i)) 0, .inl (k.1, 10 * 3, .inl (fun _ => 0))), (b267 8, .inr (7, hc_F_Table 6 3 (fun i => b267 (9 + i)))), ((fun i => b267 (9 + i)) 0, .inl (k.1, 6 * 3, .inl (fun _ => 0))), (b267 10, .inr (7, hc_F_Table 30 3 (fun i => b267 (11 + i)))), ((fun i => b267 (11 + i)) 0, .inl (k.1, 30 * 3, .inl (fun _ => 0))), (b267 12, .inr (7, hc_F_Table 46 3 (fun i => b267 (13 + i)))), ((fun i => b267 (13 + i)) 0, .inl (k.1, 46 * 3, .inl (fun _ => 0)))]) _ _ := hh268
  refine lv_iinc (v := nI 2) (lv' := [(1, .int (nI 2)), (0, .ref a)]) hx hb hc_d_HopeBank_58 hl264 (k := 0) rfl (by decide) (by decide) rfl (fun ls269 hl269 => ?_)
  refine lv_goto (tgt := 36) hx hb hc_d_HopeBank_61 (by decide) ?_
  refine lv_iload_n hx hb hc_d_HopeBank_36 rfl (lv_at hl269 0 rfl) ?_
  refine lv_aload_n hx hb hc_d_HopeBank_37 rfl (lv_at hl269 1 rfl) ?_
  refine hc_getf (q0 := 0) (ci := 11) (k := 2) (v := .ref q255) (own := "HopeBank") (C := RX11) (T := TX11) (N := 12) hx hb hown hTw hGs.1 hh268 rfl (hc_gl hB258.2.1) (by decide) hc_w128 rfl hc_d_HopeBank_38 ?_
  refine hc_alen (q0 := 34) (v := nI 3) hx hb hGs.1 hQ1 hQ2 hh268 ((hc_gr (n := 34) (i := 0) hB258.1).trans rfl) rfl hc_d_HopeBank_41 ?_
  refine lv_icmp_ge (tgt := 64) hx hb hc_d_HopeBank_42 (by decide) (fun h => absurd h (by decide)) (fun _ => ?_)
  refine lv_aload_n hx hb hc_d_HopeBank_45 rfl (lv_at hl269 1 rfl) ?_
  refine hc_getf (q0 := 0) (ci := 11) (k := 2) (v := .ref q255) (own := "HopeBank") (C := RX11) (T := TX11) (N := 12) hx hb hown hTw hGs.1 hh268 rfl (hc_gl hB258.2.1) (by decide) hc_w128 rfl hc_d_HopeBank_46 ?_
  refine lv_iload_n hx hb hc_d_HopeBank_49 rfl (lv_at hl269 0 rfl) ?_
  refine hc_new (ci := 9) (fs := hc_Z_Town) (own := "HopeBank") (C := RX9) (T := TX9) (N := 8) (ty := tyX9) hx hb hown hTw hGs.1 hh268 rfl tyX9_ok hc_Zok_Town hc_w126 hc_w23 hc_w24 (Nat.le_of_ble_eq_true rfl) (Nat.le_of_ble_eq_true rfl) hc_d_HopeBank_50 (fun q270 Hhh271 hh271 => ?_)
  rw [List.append_assoc] at hh271
  have hh271 : hc_H D s wd (B258 ++ [(q255, .inl (cQ, 3, .inr (.inr (.inr (.inr (va_up (va_up (fun _ => none) 0 (some q260)) 1 (some q265))))))), (q260, .inr (9, hc_F_Town b262)), (b262 0, .inr (7, hc_F_Table 1 4 (fun i => b262 (1 + i)))), ((fun i => b262 (1 + i)) 0, .inl (k.1, 1 * 4, .inl (fun _ => 0))), (b262 2, .inr (7, hc_F_Table 5 2 (fun i => b262 (3 + i)))), ((fun i => b262 (3 + i)) 0, .inl (k.1, 5 * 2, .inl (fun _ => 0))), (b262 4, .inr (7, hc_F_Table 8 3 (fun i => b262 (5 + i)))), ((fun i => b262 (5 + i)) 0, .inl (k.1, 8 * 3, .inl (fun _ => 0))), (b262 6, .inr (7, hc_F_Table 10 3 (fun i => b262 (7 + i)))), ((fun i => b262 (7 + i)) 0, .inl (k.1, 10 * 3, .inl (fun _ => 0))), (b262 8, .inr (7, hc_F_Table 6 3 (fun i => b262 (9 + i)))), ((fun i => b262 (9 + i)) 0, .inl (k.1, 6 * 3, .inl (fun _ => 0))), (b262 10, .inr (7, hc_F_Table 30 3 (fun i => b262 (11 + i)))), ((fun i => b262 (11 + i)) 0, .inl (k.1, 30 * 3, .inl (fun _ => 0))), (b262 12, .inr (7, hc_F_Table 46 3 (fun i => b262 (13 + i)))), ((fun i => b262 (13 + i)) 0, .inl (k.1, 46 * 3, .inl (fun _ => 0))), (q265, .inr (9, hc_F_Town b267)), (b267 0, .inr (7, hc_F_Table 1 4 (fun i => b267 (1 + i)))), ((fun i => b267 (1 + i)) 0, .inl (k.1, 1 * 4, .inl (fun _ => 0))), (b267 2, .inr (7, hc_F_Table 5 2 (fun i => b267 (3 + i)))), ((fun i => b267 (3 + i)) 0, .inl (k.1, 5 * 2, .inl (fun _ => 0))), (b267 4, .inr (7, hc_F_Table 8 3 (fun i => b267 (5 + i)))), ((fun i => b267 (5 + i)) 0, .inl (k.1, 8 * 3, .inl (fun _ => 0))), (b267 6, .inr (7, hc_F_Table 10 3 (fun i => b267 (7 + i)))), ((fun i => b267 (7 + i)) 0, .inl (k.1, 10 * 3, .inl (fun _ => 0))), (b267 8, .inr (7, hc_F_Table 6 3 (fun i => b267 (9 + i)))), ((fun i => b267 (9 + i)) 0, .inl (k.1, 6 * 3, .inl (fun _ => 0))), (b267 10, .inr (7, hc_F_Table 30 3 (fun i => b267 (11 + i)))), ((fun i => b267 (11 + i)) 0, .inl (k.1, 30 * 3, .inl (fun _ => 0))), (b267 12, .inr (7, hc_F_Table 46 3 (fun i => b267 (13 + i)))), ((fun i => b267 (13 + i)) 0, .inl (k.1, 46 * 3, .inl (fun _ => 0))), (q270, .inr (9, hc_Z_Town))]) _ _ := hh271
  refine lv_dup hx hb hc_d_HopeBank_53 rfl ?_
  refine hc_cIN (nm := ⟨"HopeBank$Town", "<init>", "()V"⟩) (bc := prog_11_method_1_code) (mL := 1) (b := q270) (As := []) (rest := [.ref q270, .int (nI 2), .ref q255]) (fp := []) (U := hc_ad wd) hBd hGs hX hh271 hc_nofp (hc_Town (U := hc_ad wd) (n0 := 66) (ki := 65) (by rw [List.length_append, hB258.1]; rfl) ((hc_gr (n := 34) (i := 31) hB258.1).trans rfl)) hc_cd_Town hc_w24 hX.2.2.2.2 hc_w25 rfl (by decide) ⟨(Nat.le_of_ble_eq_true rfl), (Nat.le_of_ble_eq_true rfl)⟩ (fun sig h => by cases h; rfl) hl269.1 rfl (Nat.le_of_ble_eq_true rfl) ⟨(Nat.le_of_ble_eq_true rfl), (Nat.le_of_ble_eq_true rfl)⟩ hc_d_HopeBank_54 (fun t272 w272 H272 locs272 hv272 hp272 hh272 => ?_)
  obtain ⟨b272, hb272⟩ := hp272 k (hk0.moved hv272)
  rw [hc_sR (n := 34) (i := 31) hB258.1, List.append_assoc] at hb272
  subst hb272
  have hh272 : hc_H D s wd (B258 ++ [(q255, .inl (cQ, 3, .inr (.inr (.inr (.inr (va_up (va_up (fun _ => none) 0 (some q260)) 1 (some q265))))))), (q260, .inr (9, hc_F_Town b262)), (b262 0, .inr (7, hc_F_Table 1 4 (fun i => b262 (1 + i)))), ((fun i => b262 (1 + i)) 0, .inl (k.1, 1 * 4, .inl (fun _ => 0))), (b262 2, .inr (7, hc_F_Table 5 2 (fun i => b262 (3 + i)))), ((fun i => b262 (3 + i)) 0, .inl (k.1, 5 * 2, .inl (fun _ => 0))), (b262 4, .inr (7, hc_F_Table 8 3 (fun i => b262 (5 + i)))), ((fun i => b262 (5 + i)) 0, .inl (k.1, 8 * 3, .inl (fun _ => 0))), (b262 6, .inr (7, hc_F_Table 10 3 (fun i => b262 (7 + i)))), ((fun i => b262 (7 + i)) 0, .inl (k.1, 10 * 3, .inl (fun _ => 0))), (b262 8, .inr (7, hc_F_Table 6 3 (fun i => b262 (9 + i)))), ((fun i => b262 (9 + i)) 0, .inl (k.1, 6 * 3, .inl (fun _ => 0))), (b262 10, .inr (7, hc_F_Table 30 3 (fun i => b262 (11 + i)))), ((fun i => b262 (11 + i)) 0, .inl (k.1, 30 * 3, .inl (fun _ => 0))), (b262 12, .inr (7, hc_F_Table 46 3 (fun i => b262 (13 + i)))), ((fun i => b262 (13 + i)) 0, .inl (k.1, 46 * 3, .inl (fun _ => 0))), (q265, .inr (9, hc_F_Town b267)), (b267 0, .inr (7, hc_F_Table 1 4 (fun i => b267 (1 + i)))), ((fun i => b267 (1 + i)) 0, .inl (k.1, 1 * 4, .inl (fun _ => 0))), (b267 2, .inr (7, hc_F_Table 5 2 (fun i => b267 (3 + i)))), ((fun i => b267 (3 + i)) 0, .inl (k.1, 5 * 2, .inl (fun _ => 0))), (b267 4, .inr (7, hc_F_Table 8 3 (fun i => b267 (5 + i)))), ((fun i => b267 (5 + i)) 0, .inl (k.1, 8 * 3, .inl (fun _ => 0))), (b267 6, .inr (7, hc_F_Table 10 3 (fun i => b267 (7 + i)))), ((fun i => b267 (7 + i)) 0, .inl (k.1, 10 * 3, .inl (fun _ => 0))), (b267 8, .inr (7, hc_F_Table 6 3 (fun i => b267 (9 + i)))), ((fun i => b267 (9 + i)) 0, .inl (k.1, 6 * 3, .inl (fun _ => 0))), (b267 10, .inr (7, hc_F_Table 30 3 (fun i => b267 (11 + i)))), ((fun i => b267 (11 + i)) 0, .inl (k.1, 30 * 3, .inl (fun _ => 0))), (b267 12, .inr (7, hc_F_Table 46 3 (fun i => b267 (13 + i)))), ((fun i => b267 (13 + i)) 0, .inl (k.1, 46 * 3, .inl (fun _ => 0))), (q270, .inr (9, hc_F_Town b272)), (b272 0, .inr (7, hc_F_Table 1 4 (fun i => b272 (1 + i)))), ((fun i => b272 (1 + i)) 0, .inl (k.1, 1 * 4, .inl (fun _ => 0))), (b272 2, .inr (7, hc_F_Table 5 2 (fun i => b272 (3 + i)))), ((fun i => b272 (3 + i)) 0, .inl (k.1, 5 * 2, .inl (fun _ => 0))), (b272 4, .inr (7, hc_F_Table 8 3 (fun i => b272 (5 + i)))), ((fun i => b272 (5 + i)) 0, .inl (k.1, 8 * 3, .inl (fun _ => 0))), (b272 6, .inr (7, hc_F_Table 10 3 (fun i => b272 (7 + i)))), ((fun i => b272 (7 + i)) 0, .inl (k.1, 10 * 3, .inl (fun _ => 0))), (b272 8, .inr (7, hc_F_Table 6 3 (fun i => b272 (9 + i)))), ((fun i => b272 (9 + i)) 0, .inl (k.1, 6 * 3, .inl (fun _ => 0))), (b272 10, .inr (7, hc_F_Table 30 3 (fun i => b272 (11 + i)))), ((fun i => b272 (11 + i)) 0, .inl (k.1, 30 * 3, .inl (fun _ => 0))), (b272 12, .inr (7, hc_F_Table 46 3 (fun i => b272 (13 + i)))), ((fun i => b272 (13 + i)) 0, .inl (k.1, 46 * 3, .inl (fun _ => 0)))]) _ _ := hh272
  refine hc_astq (q0 := 34) (qk := 65) (i := nI 2) hx hb hGs.1 hQ1 hQ2 hh272 ((hc_gr (n := 34) (i := 0) hB258.1).trans rfl) ((hc_gr (n := 34) (i := 31) hB258.1).trans rfl) (nI_in (by decide) (by decide)) hc_d_HopeBank_57 (hc_sR (i := 0) hB258.1) (fun Hhh273 locshh273 hh273 => ?_)
  have hh273 : hc_H D s wd (B258 ++ [(q255, .inl (cQ, 3, .inr (.inr (.inr (.inr (va_up (va_up (va_up (fun _ => none) 0 (some q260)) 1 (some q265)) 2 (some q270))))))), (q260, .inr (9, hc_F_Town b262)), (b262 0, .inr (7, hc_F_Table 1 4 (fun i => b262 (1 + i)))), ((fun i => b262 (1 + i)) 0, .inl (k.1, 1 * 4, .inl (fun _ => 0))), (b262 2, .inr (7, hc_F_Table 5 2 (fun i => b262 (3 + i)))), ((fun i => b262 (3 + i)) 0, .inl (k.1, 5 * 2, .inl (fun _ => 0))), (b262 4, .inr (7, hc_F_Table 8 3 (fun i => b262 (5 + i)))), ((fun i => b262 (5 + i)) 0, .inl (k.1, 8 * 3, .inl (fun _ => 0))), (b262 6, .inr (7, hc_F_Table 10 3 (fun i => b262 (7 + i)))), ((fun i => b262 (7 + i)) 0, .inl (k.1, 10 * 3, .inl (fun _ => 0))), (b262 8, .inr (7, hc_F_Table 6 3 (fun i => b262 (9 + i)))), ((fun i => b262 (9 + i)) 0, .inl (k.1, 6 * 3, .inl (fun _ => 0))), (b262 10, .inr (7, hc_F_Table 30 3 (fun i => b262 (11 + i)))), ((fun i => b262 (11 + i)) 0, .inl (k.1, 30 * 3, .inl (fun _ => 0))), (b262 12, .inr (7, hc_F_Table 46 3 (fun i => b262 (13 + i)))), ((fun i => b262 (13 + i)) 0, .inl (k.1, 46 * 3, .inl (fun _ => 0))), (q265, .inr (9, hc_F_Town b267)), (b267 0, .inr (7, hc_F_Table 1 4 (fun i => b267 (1 + i)))), ((fun i => b267 (1 + i)) 0, .inl (k.1, 1 * 4, .inl (fun _ => 0))), (b267 2, .inr (7, hc_F_Table 5 2 (fun i => b267 (3 + i)))), ((fun i => b267 (3 + i)) 0, .inl (k.1, 5 * 2, .inl (fun _ => 0))), (b267 4, .inr (7, hc_F_Table 8 3 (fun i => b267 (5 + i)))), ((fun i => b267 (5 + i)) 0, .inl (k.1, 8 * 3, .inl (fun _ => 0))), (b267 6, .inr (7, hc_F_Table 10 3 (fun i => b267 (7 + i)))), ((fun i => b267 (7 + i)) 0, .inl (k.1, 10 * 3, .inl (fun _ => 0))), (b267 8, .inr (7, hc_F_Table 6 3 (fun i => b267 (9 + i)))), ((fun i => b267 (9 + i)) 0, .inl (k.1, 6 * 3, .inl (fun _ => 0))), (b267 10, .inr (7, hc_F_Table 30 3 (fun i => b267 (11 + i)))), ((fun i => b267 (11 + i)) 0, .inl (k.1, 30 * 3, .inl (fun _ => 0))), (b267 12, .inr (7, hc_F_Table 46 3 (fun i => b267 (13 + i)))), ((fun i => b267 (13 + i)) 0, .inl (k.1, 46 * 3, .inl (fun _ => 0))), (q270, .inr (9, hc_F_Town b272)), (b272 0, .inr (7, hc_F_Table 1 4 (fun i => b272 (1 + i)))), ((fun i => b272 (1 + i)) 0, .inl (k.1, 1 * 4, .inl (fun _ => 0))), (b272 2, .inr (7, hc_F_Table 5 2 (fun i => b272 (3 + i)))), ((fun i => b272 (3 + i)) 0, .inl (k.1, 5 * 2, .inl (fun _ => 0))), (b272 4, .inr (7, hc_F_Table 8 3 (fun i => b272 (5 + i)))), ((fun i => b272 (5 + i)) 0, .inl (k.1, 8 * 3, .inl (fun _ => 0))), (b272 6, .inr (7, hc_F_Table 10 3 (fun i => b272 (7 + i)))), ((fun i => b272 (7 + i)) 0, .inl (k.1, 10 * 3, .inl (fun _ => 0))), (b272 8, .inr (7, hc_F_Table 6 3 (fun i => b272 (9 + i)))), ((fun i => b272 (9 + i)) 0, .inl (k.1, 6 * 3, .inl (fun _ => 0))), (b272 10, .inr (7, hc_F_Table 30 3 (fun i => b272 (11 + i)))), ((fun i => b272 (11 + i)) 0, .inl (k.1, 30 * 3, .inl (fun _ => 0))), (b272 12, .inr (7, hc_F_Table 46 3 (fun i => b272 (13 + i)))), ((fun i => b272 (13 + i)) 0, .inl (k.1, 46 * 3, .inl (fun _ => 0)))]) _ _ := hh273
  refine lv_iinc (v := nI 3) (lv' := [(1, .int (nI 3)), (0, .ref a)]) hx hb hc_d_HopeBank_58 hl269 (k := 0) rfl (by decide) (by decide) rfl (fun ls274 hl274 => ?_)
  refine lv_goto (tgt := 36) hx hb hc_d_HopeBank_61 (by decide) ?_
  refine lv_iload_n hx hb hc_d_HopeBank_36 rfl (lv_at hl274 0 rfl) ?_
  refine lv_aload_n hx hb hc_d_HopeBank_37 rfl (lv_at hl274 1 rfl) ?_
  refine hc_getf (q0 := 0) (ci := 11) (k := 2) (v := .ref q255) (own := "HopeBank") (C := RX11) (T := TX11) (N := 12) hx hb hown hTw hGs.1 hh273 rfl (hc_gl hB258.2.1) (by decide) hc_w128 rfl hc_d_HopeBank_38 ?_
  refine hc_alen (q0 := 34) (v := nI 3) hx hb hGs.1 hQ1 hQ2 hh273 ((hc_gr (n := 34) (i := 0) hB258.1).trans rfl) rfl hc_d_HopeBank_41 ?_
  refine lv_icmp_ge (tgt := 64) hx hb hc_d_HopeBank_42 (by decide) (fun _ => ?_) (fun h => absurd (show _ from (by decide)) h)
  obtain ⟨W275, eW275⟩ : ∃ B : va_W, B = B258 ++ [(q255, .inl (cQ, 3, .inr (.inr (.inr (.inr (va_up (va_up (va_up (fun _ => none) 0 (some q260)) 1 (some q265)) 2 (some q270))))))), (q260, .inr (9, hc_F_Town b262)), (b262 0, .inr (7, hc_F_Table 1 4 (fun i => b262 (1 + i)))), ((fun i => b262 (1 + i)) 0, .inl (k.1, 1 * 4, .inl (fun _ => 0))), (b262 2, .inr (7, hc_F_Table 5 2 (fun i => b262 (3 + i)))), ((fun i => b262 (3 + i)) 0, .inl (k.1, 5 * 2, .inl (fun _ => 0))), (b262 4, .inr (7, hc_F_Table 8 3 (fun i => b262 (5 + i)))), ((fun i => b262 (5 + i)) 0, .inl (k.1, 8 * 3, .inl (fun _ => 0))), (b262 6, .inr (7, hc_F_Table 10 3 (fun i => b262 (7 + i)))), ((fun i => b262 (7 + i)) 0, .inl (k.1, 10 * 3, .inl (fun _ => 0))), (b262 8, .inr (7, hc_F_Table 6 3 (fun i => b262 (9 + i)))), ((fun i => b262 (9 + i)) 0, .inl (k.1, 6 * 3, .inl (fun _ => 0))), (b262 10, .inr (7, hc_F_Table 30 3 (fun i => b262 (11 + i)))), ((fun i => b262 (11 + i)) 0, .inl (k.1, 30 * 3, .inl (fun _ => 0))), (b262 12, .inr (7, hc_F_Table 46 3 (fun i => b262 (13 + i)))), ((fun i => b262 (13 + i)) 0, .inl (k.1, 46 * 3, .inl (fun _ => 0))), (q265, .inr (9, hc_F_Town b267)), (b267 0, .inr (7, hc_F_Table 1 4 (fun i => b267 (1 + i)))), ((fun i => b267 (1 + i)) 0, .inl (k.1, 1 * 4, .inl (fun _ => 0))), (b267 2, .inr (7, hc_F_Table 5 2 (fun i => b267 (3 + i)))), ((fun i => b267 (3 + i)) 0, .inl (k.1, 5 * 2, .inl (fun _ => 0))), (b267 4, .inr (7, hc_F_Table 8 3 (fun i => b267 (5 + i)))), ((fun i => b267 (5 + i)) 0, .inl (k.1, 8 * 3, .inl (fun _ => 0))), (b267 6, .inr (7, hc_F_Table 10 3 (fun i => b267 (7 + i)))), ((fun i => b267 (7 + i)) 0, .inl (k.1, 10 * 3, .inl (fun _ => 0))), (b267 8, .inr (7, hc_F_Table 6 3 (fun i => b267 (9 + i)))), ((fun i => b267 (9 + i)) 0, .inl (k.1, 6 * 3, .inl (fun _ => 0))), (b267 10, .inr (7, hc_F_Table 30 3 (fun i => b267 (11 + i)))), ((fun i => b267 (11 + i)) 0, .inl (k.1, 30 * 3, .inl (fun _ => 0))), (b267 12, .inr (7, hc_F_Table 46 3 (fun i => b267 (13 + i)))), ((fun i => b267 (13 + i)) 0, .inl (k.1, 46 * 3, .inl (fun _ => 0))), (q270, .inr (9, hc_F_Town b272)), (b272 0, .inr (7, hc_F_Table 1 4 (fun i => b272 (1 + i)))), ((fun i => b272 (1 + i)) 0, .inl (k.1, 1 * 4, .inl (fun _ => 0))), (b272 2, .inr (7, hc_F_Table 5 2 (fun i => b272 (3 + i)))), ((fun i => b272 (3 + i)) 0, .inl (k.1, 5 * 2, .inl (fun _ => 0))), (b272 4, .inr (7, hc_F_Table 8 3 (fun i => b272 (5 + i)))), ((fun i => b272 (5 + i)) 0, .inl (k.1, 8 * 3, .inl (fun _ => 0))), (b272 6, .inr (7, hc_F_Table 10 3 (fun i => b272 (7 + i)))), ((fun i => b272 (7 + i)) 0, .inl (k.1, 10 * 3, .inl (fun _ => 0))), (b272 8, .inr (7, hc_F_Table 6 3 (fun i => b272 (9 + i)))), ((fun i => b272 (9 + i)) 0, .inl (k.1, 6 * 3, .inl (fun _ => 0))), (b272 10, .inr (7, hc_F_Table 30 3 (fun i => b272 (11 + i)))), ((fun i => b272 (11 + i)) 0, .inl (k.1, 30 * 3, .inl (fun _ => 0))), (b272 12, .inr (7, hc_F_Table 46 3 (fun i => b272 (13 + i)))), ((fun i => b272 (13 + i)) 0, .inl (k.1, 46 * 3, .inl (fun _ => 0)))] := ⟨_, rfl⟩
  have g275_34 : W275[34]? = some (q255, .inl (cQ, 3, .inr (.inr (.inr (.inr (va_up (va_up (va_up (fun _ => none) 0 (some q260)) 1 (some q265)) 2 (some q270))))))) := by rw [eW275]; exact (hc_gr (n := 34) (i := 0) hB258.1).trans rfl
  have d275_34 : hc_ad W275 34 = q255 := by unfold hc_ad; rw [g275_34]; rfl
  have g275_35 : W275[35]? = some (q260, .inr (9, hc_F_Town b262)) := by rw [eW275]; exact (hc_gr (n := 34) (i := 1) hB258.1).trans rfl
  have d275_35 : hc_ad W275 35 = q260 := by unfold hc_ad; rw [g275_35]; rfl
  have g275_36 : W275[36]? = some (b262 0, .inr (7, hc_F_Table 1 4 (fun i => b262 (1 + i)))) := by rw [eW275]; exact (hc_gr (n := 34) (i := 2) hB258.1).trans rfl
  have d275_36 : hc_ad W275 36 = b262 0 := by unfold hc_ad; rw [g275_36]; rfl
  have g275_37 : W275[37]? = some ((fun i => b262 (1 + i)) 0, .inl (k.1, 1 * 4, .inl (fun _ => 0))) := by rw [eW275]; exact (hc_gr (n := 34) (i := 3) hB258.1).trans rfl
  have d275_37 : hc_ad W275 37 = (fun i => b262 (1 + i)) 0 := by unfold hc_ad; rw [g275_37]; rfl
  have g275_38 : W275[38]? = some (b262 2, .inr (7, hc_F_Table 5 2 (fun i => b262 (3 + i)))) := by rw [eW275]; exact (hc_gr (n := 34) (i := 4) hB258.1).trans rfl
  have d275_38 : hc_ad W275 38 = b262 2 := by unfold hc_ad; rw [g275_38]; rfl
  have g275_39 : W275[39]? = some ((fun i => b262 (3 + i)) 0, .inl (k.1, 5 * 2, .inl (fun _ => 0))) := by rw [eW275]; exact (hc_gr (n := 34) (i := 5) hB258.1).trans rfl
  have d275_39 : hc_ad W275 39 = (fun i => b262 (3 + i)) 0 := by unfold hc_ad; rw [g275_39]; rfl
  have g275_40 : W275[40]? = some (b262 4, .inr (7, hc_F_Table 8 3 (fun i => b262 (5 + i)))) := by rw [eW275]; exact (hc_gr (n := 34) (i := 6) hB258.1).trans rfl
  have d275_40 : hc_ad W275 40 = b262 4 := by unfold hc_ad; rw [g275_40]; rfl
  have g275_41 : W275[41]? = some ((fun i => b262 (5 + i)) 0, .inl (k.1, 8 * 3, .inl (fun _ => 0))) := by rw [eW275]; exact (hc_gr (n := 34) (i := 7) hB258.1).trans rfl
  have d275_41 : hc_ad W275 41 = (fun i => b262 (5 + i)) 0 := by unfold hc_ad; rw [g275_41]; rfl
  have g275_42 : W275[42]? = some (b262 6, .inr (7, hc_F_Table 10 3 (fun i => b262 (7 + i)))) := by rw [eW275]; exact (hc_gr (n := 34) (i := 8) hB258.1).trans rfl
  have d275_42 : hc_ad W275 42 = b262 6 := by unfold hc_ad; rw [g275_42]; rfl
  have g275_43 : W275[43]? = some ((fun i => b262 (7 + i)) 0, .inl (k.1, 10 * 3, .inl (fun _ => 0))) := by rw [eW275]; exact (hc_gr (n := 34) (i := 9) hB258.1).trans rfl
  have d275_43 : hc_ad W275 43 = (fun i => b262 (7 + i)) 0 := by unfold hc_ad; rw [g275_43]; rfl
  have g275_44 : W275[44]? = some (b262 8, .inr (7, hc_F_Table 6 3 (fun i => b262 (9 + i)))) := by rw [eW275]; exact (hc_gr (n := 34) (i := 10) hB258.1).trans rfl
  have d275_44 : hc_ad W275 44 = b262 8 := by unfold hc_ad; rw [g275_44]; rfl
  have g275_45 : W275[45]? = some ((fun i => b262 (9 + i)) 0, .inl (k.1, 6 * 3, .inl (fun _ => 0))) := by rw [eW275]; exact (hc_gr (n := 34) (i := 11) hB258.1).trans rfl
  have d275_45 : hc_ad W275 45 = (fun i => b262 (9 + i)) 0 := by unfold hc_ad; rw [g275_45]; rfl
  have g275_46 : W275[46]? = some (b262 10, .inr (7, hc_F_Table 30 3 (fun i => b262 (11 + i)))) := by rw [eW275]; exact (hc_gr (n := 34) (i := 12) hB258.1).trans rfl
  have d275_46 : hc_ad W275 46 = b262 10 := by unfold hc_ad; rw [g275_46]; rfl
  have g275_47 : W275[47]? = some ((fun i => b262 (11 + i)) 0, .inl (k.1, 30 * 3, .inl (fun _ => 0))) := by rw [eW275]; exact (hc_gr (n := 34) (i := 13) hB258.1).trans rfl
  have d275_47 : hc_ad W275 47 = (fun i => b262 (11 + i)) 0 := by unfold hc_ad; rw [g275_47]; rfl
  have g275_48 : W275[48]? = some (b262 12, .inr (7, hc_F_Table 46 3 (fun i => b262 (13 + i)))) := by rw [eW275]; exact (hc_gr (n := 34) (i := 14) hB258.1).trans rfl
  have d275_48 : hc_ad W275 48 = b262 12 := by unfold hc_ad; rw [g275_48]; rfl
  have g275_49 : W275[49]? = some ((fun i => b262 (13 + i)) 0, .inl (k.1, 46 * 3, .inl (fun _ => 0))) := by rw [eW275]; exact (hc_gr (n := 34) (i := 15) hB258.1).trans rfl
  have d275_49 : hc_ad W275 49 = (fun i => b262 (13 + i)) 0 := by unfold hc_ad; rw [g275_49]; rfl
  have g275_50 : W275[50]? = some (q265, .inr (9, hc_F_Town b267)) := by rw [eW275]; exact (hc_gr (n := 34) (i := 16) hB258.1).trans rfl
  have d275_50 : hc_ad W275 50 = q265 := by unfold hc_ad; rw [g275_50]; rfl
  have g275_51 : W275[51]? = some (b267 0, .inr (7, hc_F_Table 1 4 (fun i => b267 (1 + i)))) := by rw [eW275]; exact (hc_gr (n := 34) (i := 17) hB258.1).trans rfl
  have d275_51 : hc_ad W275 51 = b267 0 := by unfold hc_ad; rw [g275_51]; rfl
  have g275_52 : W275[52]? = some ((fun i => b267 (1 + i)) 0, .inl (k.1, 1 * 4, .inl (fun _ => 0))) := by rw [eW275]; exact (hc_gr (n := 34) (i := 18) hB258.1).trans rfl
  have d275_52 : hc_ad W275 52 = (fun i => b267 (1 + i)) 0 := by unfold hc_ad; rw [g275_52]; rfl
  have g275_53 : W275[53]? = some (b267 2, .inr (7, hc_F_Table 5 2 (fun i => b267 (3 + i)))) := by rw [eW275]; exact (hc_gr (n := 34) (i := 19) hB258.1).trans rfl
  have d275_53 : hc_ad W275 53 = b267 2 := by unfold hc_ad; rw [g275_53]; rfl
  have g275_54 : W275[54]? = some ((fun i => b267 (3 + i)) 0, .inl (k.1, 5 * 2, .inl (fun _ => 0))) := by rw [eW275]; exact (hc_gr (n := 34) (i := 20) hB258.1).trans rfl
  have d275_54 : hc_ad W275 54 = (fun i => b267 (3 + i)) 0 := by unfold hc_ad; rw [g275_54]; rfl
  have g275_55 : W275[55]? = some (b267 4, .inr (7, hc_F_Table 8 3 (fun i => b267 (5 + i)))) := by rw [eW275]; exact (hc_gr (n := 34) (i := 21) hB258.1).trans rfl
  have d275_55 : hc_ad W275 55 = b267 4 := by unfold hc_ad; rw [g275_55]; rfl
  have g275_56 : W275[56]? = some ((fun i => b267 (5 + i)) 0, .inl (k.1, 8 * 3, .inl (fun _ => 0))) := by rw [eW275]; exact (hc_gr (n := 34) (i := 22) hB258.1).trans rfl
  have d275_56 : hc_ad W275 56 = (fun i => b267 (5 + i)) 0 := by unfold hc_ad; rw [g275_56]; rfl
  have g275_57 : W275[57]? = some (b267 6, .inr (7, hc_F_Table 10 3 (fun i => b267 (7 + i)))) := by rw [eW275]; exact (hc_gr (n := 34) (i := 23) hB258.1).trans rfl
  have d275_57 : hc_ad W275 57 = b267 6 := by unfold hc_ad; rw [g275_57]; rfl
  have g275_58 : W275[58]? = some ((fun i => b267 (7 + i)) 0, .inl (k.1, 10 * 3, .inl (fun _ => 0))) := by rw [eW275]; exact (hc_gr (n := 34) (i := 24) hB258.1).trans rfl
  have d275_58 : hc_ad W275 58 = (fun i => b267 (7 + i)) 0 := by unfold hc_ad; rw [g275_58]; rfl
  have g275_59 : W275[59]? = some (b267 8, .inr (7, hc_F_Table 6 3 (fun i => b267 (9 + i)))) := by rw [eW275]; exact (hc_gr (n := 34) (i := 25) hB258.1).trans rfl
  have d275_59 : hc_ad W275 59 = b267 8 := by unfold hc_ad; rw [g275_59]; rfl
  have g275_60 : W275[60]? = some ((fun i => b267 (9 + i)) 0, .inl (k.1, 6 * 3, .inl (fun _ => 0))) := by rw [eW275]; exact (hc_gr (n := 34) (i := 26) hB258.1).trans rfl
  have d275_60 : hc_ad W275 60 = (fun i => b267 (9 + i)) 0 := by unfold hc_ad; rw [g275_60]; rfl
  have g275_61 : W275[61]? = some (b267 10, .inr (7, hc_F_Table 30 3 (fun i => b267 (11 + i)))) := by rw [eW275]; exact (hc_gr (n := 34) (i := 27) hB258.1).trans rfl
  have d275_61 : hc_ad W275 61 = b267 10 := by unfold hc_ad; rw [g275_61]; rfl
  have g275_62 : W275[62]? = some ((fun i => b267 (11 + i)) 0, .inl (k.1, 30 * 3, .inl (fun _ => 0))) := by rw [eW275]; exact (hc_gr (n := 34) (i := 28) hB258.1).trans rfl
  have d275_62 : hc_ad W275 62 = (fun i => b267 (11 + i)) 0 := by unfold hc_ad; rw [g275_62]; rfl
  have g275_63 : W275[63]? = some (b267 12, .inr (7, hc_F_Table 46 3 (fun i => b267 (13 + i)))) := by rw [eW275]; exact (hc_gr (n := 34) (i := 29) hB258.1).trans rfl
  have d275_63 : hc_ad W275 63 = b267 12 := by unfold hc_ad; rw [g275_63]; rfl
  have g275_64 : W275[64]? = some ((fun i => b267 (13 + i)) 0, .inl (k.1, 46 * 3, .inl (fun _ => 0))) := by rw [eW275]; exact (hc_gr (n := 34) (i := 30) hB258.1).trans rfl
  have d275_64 : hc_ad W275 64 = (fun i => b267 (13 + i)) 0 := by unfold hc_ad; rw [g275_64]; rfl
  have g275_65 : W275[65]? = some (q270, .inr (9, hc_F_Town b272)) := by rw [eW275]; exact (hc_gr (n := 34) (i := 31) hB258.1).trans rfl
  have d275_65 : hc_ad W275 65 = q270 := by unfold hc_ad; rw [g275_65]; rfl
  have g275_66 : W275[66]? = some (b272 0, .inr (7, hc_F_Table 1 4 (fun i => b272 (1 + i)))) := by rw [eW275]; exact (hc_gr (n := 34) (i := 32) hB258.1).trans rfl
  have d275_66 : hc_ad W275 66 = b272 0 := by unfold hc_ad; rw [g275_66]; rfl
  have g275_67 : W275[67]? = some ((fun i => b272 (1 + i)) 0, .inl (k.1, 1 * 4, .inl (fun _ => 0))) := by rw [eW275]; exact (hc_gr (n := 34) (i := 33) hB258.1).trans rfl
  have d275_67 : hc_ad W275 67 = (fun i => b272 (1 + i)) 0 := by unfold hc_ad; rw [g275_67]; rfl
  have g275_68 : W275[68]? = some (b272 2, .inr (7, hc_F_Table 5 2 (fun i => b272 (3 + i)))) := by rw [eW275]; exact (hc_gr (n := 34) (i := 34) hB258.1).trans rfl
  have d275_68 : hc_ad W275 68 = b272 2 := by unfold hc_ad; rw [g275_68]; rfl
  have g275_69 : W275[69]? = some ((fun i => b272 (3 + i)) 0, .inl (k.1, 5 * 2, .inl (fun _ => 0))) := by rw [eW275]; exact (hc_gr (n := 34) (i := 35) hB258.1).trans rfl
  have d275_69 : hc_ad W275 69 = (fun i => b272 (3 + i)) 0 := by unfold hc_ad; rw [g275_69]; rfl
  have g275_70 : W275[70]? = some (b272 4, .inr (7, hc_F_Table 8 3 (fun i => b272 (5 + i)))) := by rw [eW275]; exact (hc_gr (n := 34) (i := 36) hB258.1).trans rfl
  have d275_70 : hc_ad W275 70 = b272 4 := by unfold hc_ad; rw [g275_70]; rfl
  have g275_71 : W275[71]? = some ((fun i => b272 (5 + i)) 0, .inl (k.1, 8 * 3, .inl (fun _ => 0))) := by rw [eW275]; exact (hc_gr (n := 34) (i := 37) hB258.1).trans rfl
  have d275_71 : hc_ad W275 71 = (fun i => b272 (5 + i)) 0 := by unfold hc_ad; rw [g275_71]; rfl
  have g275_72 : W275[72]? = some (b272 6, .inr (7, hc_F_Table 10 3 (fun i => b272 (7 + i)))) := by rw [eW275]; exact (hc_gr (n := 34) (i := 38) hB258.1).trans rfl
  have d275_72 : hc_ad W275 72 = b272 6 := by unfold hc_ad; rw [g275_72]; rfl
  have g275_73 : W275[73]? = some ((fun i => b272 (7 + i)) 0, .inl (k.1, 10 * 3, .inl (fun _ => 0))) := by rw [eW275]; exact (hc_gr (n := 34) (i := 39) hB258.1).trans rfl
  have d275_73 : hc_ad W275 73 = (fun i => b272 (7 + i)) 0 := by unfold hc_ad; rw [g275_73]; rfl
  have g275_74 : W275[74]? = some (b272 8, .inr (7, hc_F_Table 6 3 (fun i => b272 (9 + i)))) := by rw [eW275]; exact (hc_gr (n := 34) (i := 40) hB258.1).trans rfl
  have d275_74 : hc_ad W275 74 = b272 8 := by unfold hc_ad; rw [g275_74]; rfl
  have g275_75 : W275[75]? = some ((fun i => b272 (9 + i)) 0, .inl (k.1, 6 * 3, .inl (fun _ => 0))) := by rw [eW275]; exact (hc_gr (n := 34) (i := 41) hB258.1).trans rfl
  have d275_75 : hc_ad W275 75 = (fun i => b272 (9 + i)) 0 := by unfold hc_ad; rw [g275_75]; rfl
  have g275_76 : W275[76]? = some (b272 10, .inr (7, hc_F_Table 30 3 (fun i => b272 (11 + i)))) := by rw [eW275]; exact (hc_gr (n := 34) (i := 42) hB258.1).trans rfl
  have d275_76 : hc_ad W275 76 = b272 10 := by unfold hc_ad; rw [g275_76]; rfl
  have g275_77 : W275[77]? = some ((fun i => b272 (11 + i)) 0, .inl (k.1, 30 * 3, .inl (fun _ => 0))) := by rw [eW275]; exact (hc_gr (n := 34) (i := 43) hB258.1).trans rfl
  have d275_77 : hc_ad W275 77 = (fun i => b272 (11 + i)) 0 := by unfold hc_ad; rw [g275_77]; rfl
  have g275_78 : W275[78]? = some (b272 12, .inr (7, hc_F_Table 46 3 (fun i => b272 (13 + i)))) := by rw [eW275]; exact (hc_gr (n := 34) (i := 44) hB258.1).trans rfl
  have d275_78 : hc_ad W275 78 = b272 12 := by unfold hc_ad; rw [g275_78]; rfl
  have g275_79 : W275[79]? = some ((fun i => b272 (13 + i)) 0, .inl (k.1, 46 * 3, .inl (fun _ => 0))) := by rw [eW275]; exact (hc_gr (n := 34) (i := 45) hB258.1).trans rfl
  have d275_79 : hc_ad W275 79 = (fun i => b272 (13 + i)) 0 := by unfold hc_ad; rw [g275_79]; rfl
  have d275_1 : hc_ad W275 1 = q243 := by rw [eW275]; exact (hc_adl (by rw [hB258.1]; decide)).trans d1_258
  have d275_19 : hc_ad W275 19 = q249 := by rw [eW275]; exact (hc_adl (by rw [hB258.1]; decide)).trans d19_258
  have t275_79 : hb_wd hb_KT s (hc_ad W275) W275 [79] := hc_wdc (c := 79) (kd := (1, 0, 138, [(0, (-2147483648), 2147483647)])) rfl (hc_at g275_79) (hc_cellI hk0.1 (fun _ _ => ⟨by decide, by decide⟩)) (by decide) hc_wdn
  have t275_78 : hb_wd hb_KT s (hc_ad W275) W275 [78, 79] := hc_wdc (c := 78) (kd := (0, 7, 3, [(0, 3, 3), (2, 79, 0), (0, 0, 46)])) rfl (hc_at g275_78) (hc_cellO rfl ⟨⟨(nI 3), rfl, by decide, by decide⟩, congrArg Value.ref (d275_79).symm, ⟨(nI 0), rfl, by decide, by decide⟩, trivial⟩) (by decide) t275_79
  have t275_77 : hb_wd hb_KT s (hc_ad W275) W275 [77, 78, 79] := hc_wdc (c := 77) (kd := (1, 0, 90, [(0, (-2147483648), 2147483647)])) rfl (hc_at g275_77) (hc_cellI hk0.1 (fun _ _ => ⟨by decide, by decide⟩)) (by decide) t275_78
  have t275_76 : hb_wd hb_KT s (hc_ad W275) W275 [76, 77, 78, 79] := hc_wdc (c := 76) (kd := (0, 7, 3, [(0, 3, 3), (2, 77, 0), (0, 0, 30)])) rfl (hc_at g275_76) (hc_cellO rfl ⟨⟨(nI 3), rfl, by decide, by decide⟩, congrArg Value.ref (d275_77).symm, ⟨(nI 0), rfl, by decide, by decide⟩, trivial⟩) (by decide) t275_77
  have t275_75 : hb_wd hb_KT s (hc_ad W275) W275 [75, 76, 77, 78, 79] := hc_wdc (c := 75) (kd := (1, 0, 18, [(0, (-2147483648), 2147483647)])) rfl (hc_at g275_75) (hc_cellI hk0.1 (fun _ _ => ⟨by decide, by decide⟩)) (by decide) t275_76
  have t275_74 : hb_wd hb_KT s (hc_ad W275) W275 [74, 75, 76, 77, 78, 79] := hc_wdc (c := 74) (kd := (0, 7, 3, [(0, 3, 3), (2, 75, 0), (0, 0, 6)])) rfl (hc_at g275_74) (hc_cellO rfl ⟨⟨(nI 3), rfl, by decide, by decide⟩, congrArg Value.ref (d275_75).symm, ⟨(nI 0), rfl, by decide, by decide⟩, trivial⟩) (by decide) t275_75
  have t275_73 : hb_wd hb_KT s (hc_ad W275) W275 [73, 74, 75, 76, 77, 78, 79] := hc_wdc (c := 73) (kd := (1, 0, 30, [(0, (-2147483648), 2147483647)])) rfl (hc_at g275_73) (hc_cellI hk0.1 (fun _ _ => ⟨by decide, by decide⟩)) (by decide) t275_74
  have t275_72 : hb_wd hb_KT s (hc_ad W275) W275 [72, 73, 74, 75, 76, 77, 78, 79] := hc_wdc (c := 72) (kd := (0, 7, 3, [(0, 3, 3), (2, 73, 0), (0, 0, 10)])) rfl (hc_at g275_72) (hc_cellO rfl ⟨⟨(nI 3), rfl, by decide, by decide⟩, congrArg Value.ref (d275_73).symm, ⟨(nI 0), rfl, by decide, by decide⟩, trivial⟩) (by decide) t275_73
  have t275_71 : hb_wd hb_KT s (hc_ad W275) W275 [71, 72, 73, 74, 75, 76, 77, 78, 79] := hc_wdc (c := 71) (kd := (1, 0, 24, [(0, (-2147483648), 2147483647)])) rfl (hc_at g275_71) (hc_cellI hk0.1 (fun _ _ => ⟨by decide, by decide⟩)) (by decide) t275_72
  have t275_70 : hb_wd hb_KT s (hc_ad W275) W275 [70, 71, 72, 73, 74, 75, 76, 77, 78, 79] := hc_wdc (c := 70) (kd := (0, 7, 3, [(0, 3, 3), (2, 71, 0), (0, 0, 8)])) rfl (hc_at g275_70) (hc_cellO rfl ⟨⟨(nI 3), rfl, by decide, by decide⟩, congrArg Value.ref (d275_71).symm, ⟨(nI 0), rfl, by decide, by decide⟩, trivial⟩) (by decide) t275_71
  have t275_69 : hb_wd hb_KT s (hc_ad W275) W275 [69, 70, 71, 72, 73, 74, 75, 76, 77, 78, 79] := hc_wdc (c := 69) (kd := (1, 0, 10, [(0, (-2147483648), 2147483647)])) rfl (hc_at g275_69) (hc_cellI hk0.1 (fun _ _ => ⟨by decide, by decide⟩)) (by decide) t275_70
  have t275_68 : hb_wd hb_KT s (hc_ad W275) W275 [68, 69, 70, 71, 72, 73, 74, 75, 76, 77, 78, 79] := hc_wdc (c := 68) (kd := (0, 7, 3, [(0, 2, 2), (2, 69, 0), (0, 0, 5)])) rfl (hc_at g275_68) (hc_cellO rfl ⟨⟨(nI 2), rfl, by decide, by decide⟩, congrArg Value.ref (d275_69).symm, ⟨(nI 0), rfl, by decide, by decide⟩, trivial⟩) (by decide) t275_69
  have t275_67 : hb_wd hb_KT s (hc_ad W275) W275 [67, 68, 69, 70, 71, 72, 73, 74, 75, 76, 77, 78, 79] := hc_wdc (c := 67) (kd := (1, 0, 4, [(0, (-2147483648), 2147483647)])) rfl (hc_at g275_67) (hc_cellI hk0.1 (fun _ _ => ⟨by decide, by decide⟩)) (by decide) t275_68
  have t275_66 : hb_wd hb_KT s (hc_ad W275) W275 [66, 67, 68, 69, 70, 71, 72, 73, 74, 75, 76, 77, 78, 79] := hc_wdc (c := 66) (kd := (0, 7, 3, [(0, 4, 4), (2, 67, 0), (0, 0, 1)])) rfl (hc_at g275_66) (hc_cellO rfl ⟨⟨(nI 4), rfl, by decide, by decide⟩, congrArg Value.ref (d275_67).symm, ⟨(nI 0), rfl, by decide, by decide⟩, trivial⟩) (by decide) t275_67
  have t275_65 : hb_wd hb_KT s (hc_ad W275) W275 [65, 66, 67, 68, 69, 70, 71, 72, 73, 74, 75, 76, 77, 78, 79] := hc_wdc (c := 65) (kd := (0, 9, 8, [(2, 66, 0), (2, 68, 0), (2, 70, 0), (2, 72, 0), (2, 74, 0), (2, 76, 0), (2, 78, 0), (0, (-2147483648), 2147483647)])) rfl (hc_at g275_65) (hc_cellO rfl ⟨congrArg Value.ref (d275_66).symm, congrArg Value.ref (d275_68).symm, congrArg Value.ref (d275_70).symm, congrArg Value.ref (d275_72).symm, congrArg Value.ref (d275_74).symm, congrArg Value.ref (d275_76).symm, congrArg Value.ref (d275_78).symm, ⟨0, rfl, by decide, by decide⟩, trivial⟩) (by decide) t275_66
  have t275_64 : hb_wd hb_KT s (hc_ad W275) W275 [64, 65, 66, 67, 68, 69, 70, 71, 72, 73, 74, 75, 76, 77, 78, 79] := hc_wdc (c := 64) (kd := (1, 0, 138, [(0, (-2147483648), 2147483647)])) rfl (hc_at g275_64) (hc_cellI hk0.1 (fun _ _ => ⟨by decide, by decide⟩)) (by decide) t275_65
  have t275_63 : hb_wd hb_KT s (hc_ad W275) W275 [63, 64, 65, 66, 67, 68, 69, 70, 71, 72, 73, 74, 75, 76, 77, 78, 79] := hc_wdc (c := 63) (kd := (0, 7, 3, [(0, 3, 3), (2, 64, 0), (0, 0, 46)])) rfl (hc_at g275_63) (hc_cellO rfl ⟨⟨(nI 3), rfl, by decide, by decide⟩, congrArg Value.ref (d275_64).symm, ⟨(nI 0), rfl, by decide, by decide⟩, trivial⟩) (by decide) t275_64
  have t275_62 : hb_wd hb_KT s (hc_ad W275) W275 [62, 63, 64, 65, 66, 67, 68, 69, 70, 71, 72, 73, 74, 75, 76, 77, 78, 79] := hc_wdc (c := 62) (kd := (1, 0, 90, [(0, (-2147483648), 2147483647)])) rfl (hc_at g275_62) (hc_cellI hk0.1 (fun _ _ => ⟨by decide, by decide⟩)) (by decide) t275_63
  have t275_61 : hb_wd hb_KT s (hc_ad W275) W275 [61, 62, 63, 64, 65, 66, 67, 68, 69, 70, 71, 72, 73, 74, 75, 76, 77, 78, 79] := hc_wdc (c := 61) (kd := (0, 7, 3, [(0, 3, 3), (2, 62, 0), (0, 0, 30)])) rfl (hc_at g275_61) (hc_cellO rfl ⟨⟨(nI 3), rfl, by decide, by decide⟩, congrArg Value.ref (d275_62).symm, ⟨(nI 0), rfl, by decide, by decide⟩, trivial⟩) (by decide) t275_62
  have t275_60 : hb_wd hb_KT s (hc_ad W275) W275 [60, 61, 62, 63, 64, 65, 66, 67, 68, 69, 70, 71, 72, 73, 74, 75, 76, 77, 78, 79] := hc_wdc (c := 60) (kd := (1, 0, 18, [(0, (-2147483648), 2147483647)])) rfl (hc_at g275_60) (hc_cellI hk0.1 (fun _ _ => ⟨by decide, by decide⟩)) (by decide) t275_61
  have t275_59 : hb_wd hb_KT s (hc_ad W275) W275 [59, 60, 61, 62, 63, 64, 65, 66, 67, 68, 69, 70, 71, 72, 73, 74, 75, 76, 77, 78, 79] := hc_wdc (c := 59) (kd := (0, 7, 3, [(0, 3, 3), (2, 60, 0), (0, 0, 6)])) rfl (hc_at g275_59) (hc_cellO rfl ⟨⟨(nI 3), rfl, by decide, by decide⟩, congrArg Value.ref (d275_60).symm, ⟨(nI 0), rfl, by decide, by decide⟩, trivial⟩) (by decide) t275_60
  have t275_58 : hb_wd hb_KT s (hc_ad W275) W275 [58, 59, 60, 61, 62, 63, 64, 65, 66, 67, 68, 69, 70, 71, 72, 73, 74, 75, 76, 77, 78, 79] := hc_wdc (c := 58) (kd := (1, 0, 30, [(0, (-2147483648), 2147483647)])) rfl (hc_at g275_58) (hc_cellI hk0.1 (fun _ _ => ⟨by decide, by decide⟩)) (by decide) t275_59
  have t275_57 : hb_wd hb_KT s (hc_ad W275) W275 [57, 58, 59, 60, 61, 62, 63, 64, 65, 66, 67, 68, 69, 70, 71, 72, 73, 74, 75, 76, 77, 78, 79] := hc_wdc (c := 57) (kd := (0, 7, 3, [(0, 3, 3), (2, 58, 0), (0, 0, 10)])) rfl (hc_at g275_57) (hc_cellO rfl ⟨⟨(nI 3), rfl, by decide, by decide⟩, congrArg Value.ref (d275_58).symm, ⟨(nI 0), rfl, by decide, by decide⟩, trivial⟩) (by decide) t275_58
  have t275_56 : hb_wd hb_KT s (hc_ad W275) W275 [56, 57, 58, 59, 60, 61, 62, 63, 64, 65, 66, 67, 68, 69, 70, 71, 72, 73, 74, 75, 76, 77, 78, 79] := hc_wdc (c := 56) (kd := (1, 0, 24, [(0, (-2147483648), 2147483647)])) rfl (hc_at g275_56) (hc_cellI hk0.1 (fun _ _ => ⟨by decide, by decide⟩)) (by decide) t275_57
  have t275_55 : hb_wd hb_KT s (hc_ad W275) W275 [55, 56, 57, 58, 59, 60, 61, 62, 63, 64, 65, 66, 67, 68, 69, 70, 71, 72, 73, 74, 75, 76, 77, 78, 79] := hc_wdc (c := 55) (kd := (0, 7, 3, [(0, 3, 3), (2, 56, 0), (0, 0, 8)])) rfl (hc_at g275_55) (hc_cellO rfl ⟨⟨(nI 3), rfl, by decide, by decide⟩, congrArg Value.ref (d275_56).symm, ⟨(nI 0), rfl, by decide, by decide⟩, trivial⟩) (by decide) t275_56
  have t275_54 : hb_wd hb_KT s (hc_ad W275) W275 [54, 55, 56, 57, 58, 59, 60, 61, 62, 63, 64, 65, 66, 67, 68, 69, 70, 71, 72, 73, 74, 75, 76, 77, 78, 79] := hc_wdc (c := 54) (kd := (1, 0, 10, [(0, (-2147483648), 2147483647)])) rfl (hc_at g275_54) (hc_cellI hk0.1 (fun _ _ => ⟨by decide, by decide⟩)) (by decide) t275_55
  have t275_53 : hb_wd hb_KT s (hc_ad W275) W275 [53, 54, 55, 56, 57, 58, 59, 60, 61, 62, 63, 64, 65, 66, 67, 68, 69, 70, 71, 72, 73, 74, 75, 76, 77, 78, 79] := hc_wdc (c := 53) (kd := (0, 7, 3, [(0, 2, 2), (2, 54, 0), (0, 0, 5)])) rfl (hc_at g275_53) (hc_cellO rfl ⟨⟨(nI 2), rfl, by decide, by decide⟩, congrArg Value.ref (d275_54).symm, ⟨(nI 0), rfl, by decide, by decide⟩, trivial⟩) (by decide) t275_54
  have t275_52 : hb_wd hb_KT s (hc_ad W275) W275 [52, 53, 54, 55, 56, 57, 58, 59, 60, 61, 62, 63, 64, 65, 66, 67, 68, 69, 70, 71, 72, 73, 74, 75, 76, 77, 78, 79] := hc_wdc (c := 52) (kd := (1, 0, 4, [(0, (-2147483648), 2147483647)])) rfl (hc_at g275_52) (hc_cellI hk0.1 (fun _ _ => ⟨by decide, by decide⟩)) (by decide) t275_53
  have t275_51 : hb_wd hb_KT s (hc_ad W275) W275 [51, 52, 53, 54, 55, 56, 57, 58, 59, 60, 61, 62, 63, 64, 65, 66, 67, 68, 69, 70, 71, 72, 73, 74, 75, 76, 77, 78, 79] := hc_wdc (c := 51) (kd := (0, 7, 3, [(0, 4, 4), (2, 52, 0), (0, 0, 1)])) rfl (hc_at g275_51) (hc_cellO rfl ⟨⟨(nI 4), rfl, by decide, by decide⟩, congrArg Value.ref (d275_52).symm, ⟨(nI 0), rfl, by decide, by decide⟩, trivial⟩) (by decide) t275_52
  have t275_50 : hb_wd hb_KT s (hc_ad W275) W275 [50, 51, 52, 53, 54, 55, 56, 57, 58, 59, 60, 61, 62, 63, 64, 65, 66, 67, 68, 69, 70, 71, 72, 73, 74, 75, 76, 77, 78, 79] := hc_wdc (c := 50) (kd := (0, 9, 8, [(2, 51, 0), (2, 53, 0), (2, 55, 0), (2, 57, 0), (2, 59, 0), (2, 61, 0), (2, 63, 0), (0, (-2147483648), 2147483647)])) rfl (hc_at g275_50) (hc_cellO rfl ⟨congrArg Value.ref (d275_51).symm, congrArg Value.ref (d275_53).symm, congrArg Value.ref (d275_55).symm, congrArg Value.ref (d275_57).symm, congrArg Value.ref (d275_59).symm, congrArg Value.ref (d275_61).symm, congrArg Value.ref (d275_63).symm, ⟨0, rfl, by decide, by decide⟩, trivial⟩) (by decide) t275_51
  have t275_49 : hb_wd hb_KT s (hc_ad W275) W275 [49, 50, 51, 52, 53, 54, 55, 56, 57, 58, 59, 60, 61, 62, 63, 64, 65, 66, 67, 68, 69, 70, 71, 72, 73, 74, 75, 76, 77, 78, 79] := hc_wdc (c := 49) (kd := (1, 0, 138, [(0, (-2147483648), 2147483647)])) rfl (hc_at g275_49) (hc_cellI hk0.1 (fun _ _ => ⟨by decide, by decide⟩)) (by decide) t275_50
  have t275_48 : hb_wd hb_KT s (hc_ad W275) W275 [48, 49, 50, 51, 52, 53, 54, 55, 56, 57, 58, 59, 60, 61, 62, 63, 64, 65, 66, 67, 68, 69, 70, 71, 72, 73, 74, 75, 76, 77, 78, 79] := hc_wdc (c := 48) (kd := (0, 7, 3, [(0, 3, 3), (2, 49, 0), (0, 0, 46)])) rfl (hc_at g275_48) (hc_cellO rfl ⟨⟨(nI 3), rfl, by decide, by decide⟩, congrArg Value.ref (d275_49).symm, ⟨(nI 0), rfl, by decide, by decide⟩, trivial⟩) (by decide) t275_49
  have t275_47 : hb_wd hb_KT s (hc_ad W275) W275 [47, 48, 49, 50, 51, 52, 53, 54, 55, 56, 57, 58, 59, 60, 61, 62, 63, 64, 65, 66, 67, 68, 69, 70, 71, 72, 73, 74, 75, 76, 77, 78, 79] := hc_wdc (c := 47) (kd := (1, 0, 90, [(0, (-2147483648), 2147483647)])) rfl (hc_at g275_47) (hc_cellI hk0.1 (fun _ _ => ⟨by decide, by decide⟩)) (by decide) t275_48
  have t275_46 : hb_wd hb_KT s (hc_ad W275) W275 [46, 47, 48, 49, 50, 51, 52, 53, 54, 55, 56, 57, 58, 59, 60, 61, 62, 63, 64, 65, 66, 67, 68, 69, 70, 71, 72, 73, 74, 75, 76, 77, 78, 79] := hc_wdc (c := 46) (kd := (0, 7, 3, [(0, 3, 3), (2, 47, 0), (0, 0, 30)])) rfl (hc_at g275_46) (hc_cellO rfl ⟨⟨(nI 3), rfl, by decide, by decide⟩, congrArg Value.ref (d275_47).symm, ⟨(nI 0), rfl, by decide, by decide⟩, trivial⟩) (by decide) t275_47
  have t275_45 : hb_wd hb_KT s (hc_ad W275) W275 [45, 46, 47, 48, 49, 50, 51, 52, 53, 54, 55, 56, 57, 58, 59, 60, 61, 62, 63, 64, 65, 66, 67, 68, 69, 70, 71, 72, 73, 74, 75, 76, 77, 78, 79] := hc_wdc (c := 45) (kd := (1, 0, 18, [(0, (-2147483648), 2147483647)])) rfl (hc_at g275_45) (hc_cellI hk0.1 (fun _ _ => ⟨by decide, by decide⟩)) (by decide) t275_46
  have t275_44 : hb_wd hb_KT s (hc_ad W275) W275 [44, 45, 46, 47, 48, 49, 50, 51, 52, 53, 54, 55, 56, 57, 58, 59, 60, 61, 62, 63, 64, 65, 66, 67, 68, 69, 70, 71, 72, 73, 74, 75, 76, 77, 78, 79] := hc_wdc (c := 44) (kd := (0, 7, 3, [(0, 3, 3), (2, 45, 0), (0, 0, 6)])) rfl (hc_at g275_44) (hc_cellO rfl ⟨⟨(nI 3), rfl, by decide, by decide⟩, congrArg Value.ref (d275_45).symm, ⟨(nI 0), rfl, by decide, by decide⟩, trivial⟩) (by decide) t275_45
  have t275_43 : hb_wd hb_KT s (hc_ad W275) W275 [43, 44, 45, 46, 47, 48, 49, 50, 51, 52, 53, 54, 55, 56, 57, 58, 59, 60, 61, 62, 63, 64, 65, 66, 67, 68, 69, 70, 71, 72, 73, 74, 75, 76, 77, 78, 79] := hc_wdc (c := 43) (kd := (1, 0, 30, [(0, (-2147483648), 2147483647)])) rfl (hc_at g275_43) (hc_cellI hk0.1 (fun _ _ => ⟨by decide, by decide⟩)) (by decide) t275_44
  have t275_42 : hb_wd hb_KT s (hc_ad W275) W275 [42, 43, 44, 45, 46, 47, 48, 49, 50, 51, 52, 53, 54, 55, 56, 57, 58, 59, 60, 61, 62, 63, 64, 65, 66, 67, 68, 69, 70, 71, 72, 73, 74, 75, 76, 77, 78, 79] := hc_wdc (c := 42) (kd := (0, 7, 3, [(0, 3, 3), (2, 43, 0), (0, 0, 10)])) rfl (hc_at g275_42) (hc_cellO rfl ⟨⟨(nI 3), rfl, by decide, by decide⟩, congrArg Value.ref (d275_43).symm, ⟨(nI 0), rfl, by decide, by decide⟩, trivial⟩) (by decide) t275_43
  have t275_41 : hb_wd hb_KT s (hc_ad W275) W275 [41, 42, 43, 44, 45, 46, 47, 48, 49, 50, 51, 52, 53, 54, 55, 56, 57, 58, 59, 60, 61, 62, 63, 64, 65, 66, 67, 68, 69, 70, 71, 72, 73, 74, 75, 76, 77, 78, 79] := hc_wdc (c := 41) (kd := (1, 0, 24, [(0, (-2147483648), 2147483647)])) rfl (hc_at g275_41) (hc_cellI hk0.1 (fun _ _ => ⟨by decide, by decide⟩)) (by decide) t275_42
  have t275_40 : hb_wd hb_KT s (hc_ad W275) W275 [40, 41, 42, 43, 44, 45, 46, 47, 48, 49, 50, 51, 52, 53, 54, 55, 56, 57, 58, 59, 60, 61, 62, 63, 64, 65, 66, 67, 68, 69, 70, 71, 72, 73, 74, 75, 76, 77, 78, 79] := hc_wdc (c := 40) (kd := (0, 7, 3, [(0, 3, 3), (2, 41, 0), (0, 0, 8)])) rfl (hc_at g275_40) (hc_cellO rfl ⟨⟨(nI 3), rfl, by decide, by decide⟩, congrArg Value.ref (d275_41).symm, ⟨(nI 0), rfl, by decide, by decide⟩, trivial⟩) (by decide) t275_41
  have t275_39 : hb_wd hb_KT s (hc_ad W275) W275 [39, 40, 41, 42, 43, 44, 45, 46, 47, 48, 49, 50, 51, 52, 53, 54, 55, 56, 57, 58, 59, 60, 61, 62, 63, 64, 65, 66, 67, 68, 69, 70, 71, 72, 73, 74, 75, 76, 77, 78, 79] := hc_wdc (c := 39) (kd := (1, 0, 10, [(0, (-2147483648), 2147483647)])) rfl (hc_at g275_39) (hc_cellI hk0.1 (fun _ _ => ⟨by decide, by decide⟩)) (by decide) t275_40
  have t275_38 : hb_wd hb_KT s (hc_ad W275) W275 [38, 39, 40, 41, 42, 43, 44, 45, 46, 47, 48, 49, 50, 51, 52, 53, 54, 55, 56, 57, 58, 59, 60, 61, 62, 63, 64, 65, 66, 67, 68, 69, 70, 71, 72, 73, 74, 75, 76, 77, 78, 79] := hc_wdc (c := 38) (kd := (0, 7, 3, [(0, 2, 2), (2, 39, 0), (0, 0, 5)])) rfl (hc_at g275_38) (hc_cellO rfl ⟨⟨(nI 2), rfl, by decide, by decide⟩, congrArg Value.ref (d275_39).symm, ⟨(nI 0), rfl, by decide, by decide⟩, trivial⟩) (by decide) t275_39
  have t275_37 : hb_wd hb_KT s (hc_ad W275) W275 [37, 38, 39, 40, 41, 42, 43, 44, 45, 46, 47, 48, 49, 50, 51, 52, 53, 54, 55, 56, 57, 58, 59, 60, 61, 62, 63, 64, 65, 66, 67, 68, 69, 70, 71, 72, 73, 74, 75, 76, 77, 78, 79] := hc_wdc (c := 37) (kd := (1, 0, 4, [(0, (-2147483648), 2147483647)])) rfl (hc_at g275_37) (hc_cellI hk0.1 (fun _ _ => ⟨by decide, by decide⟩)) (by decide) t275_38
  have t275_36 : hb_wd hb_KT s (hc_ad W275) W275 [36, 37, 38, 39, 40, 41, 42, 43, 44, 45, 46, 47, 48, 49, 50, 51, 52, 53, 54, 55, 56, 57, 58, 59, 60, 61, 62, 63, 64, 65, 66, 67, 68, 69, 70, 71, 72, 73, 74, 75, 76, 77, 78, 79] := hc_wdc (c := 36) (kd := (0, 7, 3, [(0, 4, 4), (2, 37, 0), (0, 0, 1)])) rfl (hc_at g275_36) (hc_cellO rfl ⟨⟨(nI 4), rfl, by decide, by decide⟩, congrArg Value.ref (d275_37).symm, ⟨(nI 0), rfl, by decide, by decide⟩, trivial⟩) (by decide) t275_37
  have t275_35 : hb_wd hb_KT s (hc_ad W275) W275 [35, 36, 37, 38, 39, 40, 41, 42, 43, 44, 45, 46, 47, 48, 49, 50, 51, 52, 53, 54, 55, 56, 57, 58, 59, 60, 61, 62, 63, 64, 65, 66, 67, 68, 69, 70, 71, 72, 73, 74, 75, 76, 77, 78, 79] := hc_wdc (c := 35) (kd := (0, 9, 8, [(2, 36, 0), (2, 38, 0), (2, 40, 0), (2, 42, 0), (2, 44, 0), (2, 46, 0), (2, 48, 0), (0, (-2147483648), 2147483647)])) rfl (hc_at g275_35) (hc_cellO rfl ⟨congrArg Value.ref (d275_36).symm, congrArg Value.ref (d275_38).symm, congrArg Value.ref (d275_40).symm, congrArg Value.ref (d275_42).symm, congrArg Value.ref (d275_44).symm, congrArg Value.ref (d275_46).symm, congrArg Value.ref (d275_48).symm, ⟨0, rfl, by decide, by decide⟩, trivial⟩) (by decide) t275_36
  have t275_34 : hb_wd hb_KT s (hc_ad W275) W275 [34, 35, 36, 37, 38, 39, 40, 41, 42, 43, 44, 45, 46, 47, 48, 49, 50, 51, 52, 53, 54, 55, 56, 57, 58, 59, 60, 61, 62, 63, 64, 65, 66, 67, 68, 69, 70, 71, 72, 73, 74, 75, 76, 77, 78, 79] := hc_wdc (c := 34) (kd := (5, 0, 3, [(2, 35, 0), (2, 50, 0), (2, 65, 0)])) rfl (hc_at g275_34) (hc_cellQ (ty := .object "HopeBank$Town") rfl ⟨hQ1, hQ2⟩ rfl (fun k hk => by rcases (show k = 0 ∨ k = 1 ∨ k = 2 by omega) with e | e | e <;> subst e; (· exact ⟨35, 0, rfl, congrArg some (d275_35).symm⟩); (· exact ⟨50, 0, rfl, congrArg some (d275_50).symm⟩); (· exact ⟨65, 0, rfl, congrArg some (d275_65).symm⟩))) (by decide) t275_35
  have hT275 := t275_34
  rw [eW275] at hT275
  have hB275 := hc_Bapp (m := 46) hB258 (by decide +kernel) rfl (by rw [hwl]; decide) hT275
  rw [← eW275] at hB275 hh273
  have hF275 : hp_all (hc_ad W275) W275 [(19, 7, 0), (20, 2, 0), (22, 2, 0), (24, 2, 0), (26, 2, 0), (28, 2, 0), (30, 2, 0), (1, 1, 0), (1, 3, 0), (1, 4, (-1))] := (by rw [eW275]; exact hp_allapp hF258)
  refine lv_aload_n hx hb hc_d_HopeBank_64 rfl (lv_at hl274 1 rfl) ?_
  refine lv_iconst (v := nI 0) hx hb hc_d_HopeBank_65 (by decide) ?_
  refine hc_put (q0 := 0) (ci := 11) (k := 3) (own := "HopeBank") (C := RX11) (T := TX11) (N := 12) (t := tyX11 3) hx hb hown hTw hGs.1 hh273 rfl hB275.2.1 (by decide) hc_w129 rfl (tyX11_ok 3 (by decide)) rfl rfl (Nat.le_of_ble_eq_true rfl) hc_d_HopeBank_66 rfl (fun Hhh276 locshh276 hh276 => ?_)
  have hh276 : hc_H D s wd (W275.set 0 (a, .inr (11, [.ref q243, .ref q249, .ref q255, .int (nI 0), .null, .null, .null, .null, .null, .null, .null, .null]))) _ _ := hh276
  obtain ⟨B277, e277⟩ : ∃ B : va_W, B = W275.set 0 (a, .inr (11, [.ref q243, .ref q249, .ref q255, .int (nI 0), .null, .null, .null, .null, .null, .null, .null, .null])) := ⟨_, rfl⟩
  have hB277 := hc_Bput (fs' := [.ref q243, .ref q249, .ref q255, .int (nI 0), .null, .null, .null, .null, .null, .null, .null, .null]) hB275 (by decide +kernel) (by decide +kernel)
  rw [← e277] at hB277 hh276
  have hF277 : hp_all (hc_ad B277) B277 [(19, 7, 0), (20, 2, 0), (22, 2, 0), (24, 2, 0), (26, 2, 0), (28, 2, 0), (30, 2, 0), (1, 1, 0), (1, 3, 0), (1, 4, (-1))] := (by rw [e277]; exact hp_allset hB275.2.1 (by decide +kernel) hF275)
  have d1_277 : hc_ad B277 1 = q243 := by rw [e277]; exact (hc_ads hB275.2.1 1).trans d275_1
  have d19_277 : hc_ad B277 19 = q249 := by rw [e277]; exact (hc_ads hB275.2.1 19).trans d275_19
  have d34_277 : hc_ad B277 34 = q255 := by rw [e277]; exact (hc_ads hB275.2.1 34).trans d275_34
  refine lv_aload_n hx hb hc_d_HopeBank_69 rfl (lv_at hl274 1 rfl) ?_
  refine hc_new (ci := 3) (fs := hc_Z_Play) (own := "HopeBank") (C := RX3) (T := TX3) (N := 16) (ty := tyX3) hx hb hown hTw hGs.1 hh276 rfl tyX3_ok hc_Zok_Play hc_w130 hc_w109 hc_w91 (Nat.le_of_ble_eq_true rfl) (Nat.le_of_ble_eq_true rfl) hc_d_HopeBank_70 (fun q278 Hhh279 hh279 => ?_)
  have hh279 : hc_H D s wd (B277 ++ [(q278, .inr (3, hc_Z_Play))]) _ _ := hh279
  refine lv_dup hx hb hc_d_HopeBank_73 rfl ?_
  refine lv_aload_n hx hb hc_d_HopeBank_74 rfl (lv_at hl274 1 rfl) ?_
  refine hc_getf (q0 := 0) (ci := 11) (k := 1) (v := .ref q249) (own := "HopeBank") (C := RX11) (T := TX11) (N := 12) hx hb hown hTw hGs.1 hh279 rfl (hc_gl hB277.2.1) (by decide) hc_w127 rfl hc_d_HopeBank_75 ?_
  refine hc_cI (nm := ⟨"HopeBank$Play", "<init>", "(LHopeBank$Town;)V"⟩) (bc := prog_5_method_1_code) (mL := 2) (b := q278) (As := [.ref q249]) (rest := [.ref q278, .ref a]) (fp := [19, 22, 23]) (U := (hc_ad (B277 ++ [(q278, .inr (3, hc_Z_Play))]))) hBd hGs hX hh279 (hc_wdU (n := 80) (hB277.2.2.1.less (by decide +kernel)) (by decide +kernel) (fun c hc => hc_adl (by rw [hB277.1]; exact hc)) (fun c hc => List.getElem?_append_left (by rw [hB277.1]; exact hc_clt (n := 80) (fp := [19, 22, 23]) (by decide +kernel) c hc))) (hc_Play80 (by rw [List.length_append, hB277.1]; rfl) ((hc_gr (n := 80) (i := 0) hB277.1).trans rfl) ((hc_adl (by rw [hB277.1]; decide)).trans d19_277)) hc_cd_Play hc_w91 hc_w131 hc_w111 rfl (by decide) ⟨(Nat.le_of_ble_eq_true rfl), (Nat.le_of_ble_eq_true rfl)⟩ (fun sig h => by cases h; rfl) hl274.1 rfl (Nat.le_of_ble_eq_true rfl) ⟨(Nat.le_of_ble_eq_true rfl), (Nat.le_of_ble_eq_true rfl)⟩ hc_d_HopeBank_78 (fun t280 w280 H280 locs280 hv280 hp280 hh280 => ?_)
  have hB280 := hc_Bpt hB277 hp280 hv280 (by decide +kernel) (by rw [hwl]; decide)
  have hF280 : hp_all (hc_ad w280) w280 [(19, 7, 0), (20, 2, 0), (22, 2, 0), (24, 2, 0), (26, 2, 0), (28, 2, 0), (30, 2, 0), (1, 1, 0), (1, 3, 0), (1, 4, (-1))] := hp_allpt hp280 hB277.1 (by decide +kernel) hF277
  have da280 : ∀ c, c < 80 → hc_ad w280 c = hc_ad B277 c := fun c hc => (hp280.2.1 c (by rw [List.length_append, hB277.1]; show c < 80 + 1; omega)).trans (hc_adl (by rw [hB277.1]; exact hc))
  have dn280 : hc_ad w280 80 = q278 := (hp280.2.1 80 (by rw [List.length_append, hB277.1]; show 80 < 80 + 1; decide)).trans (by unfold hc_ad; rw [hc_gr (n := 80) (i := 0) hB277.1]; rfl)
  have d1_280 : hc_ad w280 1 = q243 := (da280 1 (by decide)).trans d1_277
  have d19_280 : hc_ad w280 19 = q249 := (da280 19 (by decide)).trans d19_277
  have d34_280 : hc_ad w280 34 = q255 := (da280 34 (by decide)).trans d34_277
  refine hc_putF (q0 := 0) (ci := 11) (k := 4) (own := "HopeBank") (C := RX11) (T := TX11) (N := 12) (t := tyX11 4) hx hb hown hTw hGs.1 hin hh280 rfl hB280.2.1 (by decide) hc_w132 rfl rfl (tyX11_ok 4 (by decide)) rfl rfl (Nat.le_of_ble_eq_true rfl) hc_d_HopeBank_81 rfl (fun Hhh281 locshh281 hh281 => ?_)
  have hh281 : hc_H D s wd (w280.set 0 (a, .inr (11, [.ref q243, .ref q249, .ref q255, .int (nI 0), .ref q278, .null, .null, .null, .null, .null, .null, .null]))) _ _ := hh281
  obtain ⟨B282, e282⟩ : ∃ B : va_W, B = w280.set 0 (a, .inr (11, [.ref q243, .ref q249, .ref q255, .int (nI 0), .ref q278, .null, .null, .null, .null, .null, .null, .null])) := ⟨_, rfl⟩
  have hB282 := hc_Bput (fs' := [.ref q243, .ref q249, .ref q255, .int (nI 0), .ref q278, .null, .null, .null, .null, .null, .null, .null]) hB280 (by decide +kernel) (by decide +kernel)
  rw [← e282] at hB282 hh281
  have hF282 : hp_all (hc_ad B282) B282 [(19, 7, 0), (20, 2, 0), (22, 2, 0), (24, 2, 0), (26, 2, 0), (28, 2, 0), (30, 2, 0), (1, 1, 0), (1, 3, 0), (1, 4, (-1))] := (by rw [e282]; exact hp_allset hB280.2.1 (by decide +kernel) hF280)
  have d1_282 : hc_ad B282 1 = q243 := by rw [e282]; exact (hc_ads hB280.2.1 1).trans d1_280
  have d19_282 : hc_ad B282 19 = q249 := by rw [e282]; exact (hc_ads hB280.2.1 19).trans d19_280
  have d34_282 : hc_ad B282 34 = q255 := by rw [e282]; exact (hc_ads hB280.2.1 34).trans d34_280
  have d80_282 : hc_ad B282 80 = q278 := by rw [e282]; exact (hc_ads hB280.2.1 80).trans dn280
  refine lv_aload_n hx hb hc_d_HopeBank_84 rfl (lv_at hl274 1 rfl) ?_
  refine hc_new (ci := 1) (fs := hc_Z_Look) (own := "HopeBank") (C := RX1) (T := TX1) (N := 2) (ty := tyX1) hx hb hown hTw hGs.1 hh281 rfl tyX1_ok hc_Zok_Look hc_w133 hc_w114 hc_w115 (Nat.le_of_ble_eq_true rfl) (Nat.le_of_ble_eq_true rfl) hc_d_HopeBank_85 (fun q283 Hhh284 hh284 => ?_)
  have hh284 : hc_H D s wd (B282 ++ [(q283, .inr (1, hc_Z_Look))]) _ _ := hh284
  refine lv_dup hx hb hc_d_HopeBank_88 rfl ?_
  refine lv_aload_n hx hb hc_d_HopeBank_89 rfl (lv_at hl274 1 rfl) ?_
  refine hc_getf (q0 := 0) (ci := 11) (k := 1) (v := .ref q249) (own := "HopeBank") (C := RX11) (T := TX11) (N := 12) hx hb hown hTw hGs.1 hh284 rfl (hc_gl hB282.2.1) (by decide) hc_w127 rfl hc_d_HopeBank_90 ?_
  refine lv_aload_n hx hb hc_d_HopeBank_93 rfl (lv_at hl274 1 rfl) ?_
  refine hc_getf (q0 := 0) (ci := 11) (k := 4) (v := .ref q278) (own := "HopeBank") (C := RX11) (T := TX11) (N := 12) hx hb hown hTw hGs.1 hh284 rfl (hc_gl hB282.2.1) (by decide) hc_w132 rfl hc_d_HopeBank_94 ?_
  refine hc_cI (nm := ⟨"HopeBank$Look", "<init>", "(LHopeBank$Town;LHopeBank$Play;)V"⟩) (bc := prog_3_method_1_code) (mL := 3) (b := q283) (As := [.ref q249, .ref q278]) (rest := [.ref q283, .ref a]) (fp := []) (U := hc_ad wd) hBd hGs hX hh284 hc_nofp (hc_Look (U := hc_ad wd) (n0 := 91) (ki := 90) (by rw [List.length_append, hB282.1]; rfl) ((hc_gr (n := 90) (i := 0) hB282.1).trans rfl)) hc_cd_Look hc_w115 hc_w134 hc_w117 rfl (by decide) ⟨(Nat.le_of_ble_eq_true rfl), (Nat.le_of_ble_eq_true rfl)⟩ (fun sig h => by cases h; rfl) hl274.1 rfl (Nat.le_of_ble_eq_true rfl) ⟨(Nat.le_of_ble_eq_true rfl), (Nat.le_of_ble_eq_true rfl)⟩ hc_d_HopeBank_97 (fun t285 w285 H285 locs285 hv285 hp285 hh285 => ?_)
  obtain ⟨b285, hb285⟩ := hp285 k (hk0.moved hv285)
  rw [hc_sR (n := 90) (i := 0) hB282.1, List.append_assoc] at hb285
  subst hb285
  have hh285 : hc_H D s wd (B282 ++ [(q283, .inr (1, hc_F_Look q249 q278 b285))]) _ _ := hh285
  obtain ⟨W286, eW286⟩ : ∃ B : va_W, B = B282 ++ [(q283, .inr (1, hc_F_Look q249 q278 b285))] := ⟨_, rfl⟩
  have g286_90 : W286[90]? = some (q283, .inr (1, hc_F_Look q249 q278 b285)) := by rw [eW286]; exact (hc_gr (n := 90) (i := 0) hB282.1).trans rfl
  have d286_90 : hc_ad W286 90 = q283 := by unfold hc_ad; rw [g286_90]; rfl
  have d286_1 : hc_ad W286 1 = q243 := by rw [eW286]; exact (hc_adl (by rw [hB282.1]; decide)).trans d1_282
  have d286_19 : hc_ad W286 19 = q249 := by rw [eW286]; exact (hc_adl (by rw [hB282.1]; decide)).trans d19_282
  have d286_34 : hc_ad W286 34 = q255 := by rw [eW286]; exact (hc_adl (by rw [hB282.1]; decide)).trans d34_282
  have d286_80 : hc_ad W286 80 = q278 := by rw [eW286]; exact (hc_adl (by rw [hB282.1]; decide)).trans d80_282
  have t286_90 : hb_wd hb_KT s (hc_ad W286) W286 [90] := hc_wdc (c := 90) (kd := (0, 1, 2, [(2, 19, 0), (2, 80, 0)])) rfl (hc_at g286_90) (hc_cellO rfl ⟨congrArg Value.ref (d286_19).symm, congrArg Value.ref (d286_80).symm, trivial⟩) (by decide) hc_wdn
  have hT286 := t286_90
  rw [eW286] at hT286
  have hB286 := hc_Bapp (m := 1) hB282 (by decide +kernel) rfl (by rw [hwl]; decide) hT286
  rw [← eW286] at hB286 hh285
  have hF286 : hp_all (hc_ad W286) W286 [(19, 7, 0), (20, 2, 0), (22, 2, 0), (24, 2, 0), (26, 2, 0), (28, 2, 0), (30, 2, 0), (1, 1, 0), (1, 3, 0), (1, 4, (-1))] := (by rw [eW286]; exact hp_allapp hF282)
  refine hc_putF (q0 := 0) (ci := 11) (k := 5) (own := "HopeBank") (C := RX11) (T := TX11) (N := 12) (t := tyX11 5) hx hb hown hTw hGs.1 hin hh285 rfl hB286.2.1 (by decide) hc_w135 rfl rfl (tyX11_ok 5 (by decide)) rfl rfl (Nat.le_of_ble_eq_true rfl) hc_d_HopeBank_100 rfl (fun Hhh287 locshh287 hh287 => ?_)
  have hh287 : hc_H D s wd (W286.set 0 (a, .inr (11, [.ref q243, .ref q249, .ref q255, .int (nI 0), .ref q278, .ref q283, .null, .null, .null, .null, .null, .null]))) _ _ := hh287
  obtain ⟨B288, e288⟩ : ∃ B : va_W, B = W286.set 0 (a, .inr (11, [.ref q243, .ref q249, .ref q255, .int (nI 0), .ref q278, .ref q283, .null, .null, .null, .null, .null, .null])) := ⟨_, rfl⟩
  have hB288 := hc_Bput (fs' := [.ref q243, .ref q249, .ref q255, .int (nI 0), .ref q278, .ref q283, .null, .null, .null, .null, .null, .null]) hB286 (by decide +kernel) (by decide +kernel)
  rw [← e288] at hB288 hh287
  have hF288 : hp_all (hc_ad B288) B288 [(19, 7, 0), (20, 2, 0), (22, 2, 0), (24, 2, 0), (26, 2, 0), (28, 2, 0), (30, 2, 0), (1, 1, 0), (1, 3, 0), (1, 4, (-1))] := (by rw [e288]; exact hp_allset hB286.2.1 (by decide +kernel) hF286)
  have d1_288 : hc_ad B288 1 = q243 := by rw [e288]; exact (hc_ads hB286.2.1 1).trans d286_1
  have d19_288 : hc_ad B288 19 = q249 := by rw [e288]; exact (hc_ads hB286.2.1 19).trans d286_19
  have d34_288 : hc_ad B288 34 = q255 := by rw [e288]; exact (hc_ads hB286.2.1 34).trans d286_34
  have d80_288 : hc_ad B288 80 = q278 := by rw [e288]; exact (hc_ads hB286.2.1 80).trans d286_80
  have d90_288 : hc_ad B288 90 = q283 := by rw [e288]; exact (hc_ads hB286.2.1 90).trans d286_90
  refine lv_aload_n hx hb hc_d_HopeBank_103 rfl (lv_at hl274 1 rfl) ?_
  refine hc_new (ci := 10) (fs := hc_Z_Trials) (own := "HopeBank") (C := RX10) (T := TX10) (N := 5) (ty := tyX10) hx hb hown hTw hGs.1 hh287 rfl tyX10_ok hc_Zok_Trials hc_w136 hc_w137 hc_w138 (Nat.le_of_ble_eq_true rfl) (Nat.le_of_ble_eq_true rfl) hc_d_HopeBank_104 (fun q289 Hhh290 hh290 => ?_)
  have hh290 : hc_H D s wd (B288 ++ [(q289, .inr (10, hc_Z_Trials))]) _ _ := hh290
  refine lv_dup hx hb hc_d_HopeBank_107 rfl ?_
  refine lv_aload_n hx hb hc_d_HopeBank_108 rfl (lv_at hl274 1 rfl) ?_
  refine hc_getf (q0 := 0) (ci := 11) (k := 1) (v := .ref q249) (own := "HopeBank") (C := RX11) (T := TX11) (N := 12) hx hb hown hTw hGs.1 hh290 rfl (hc_gl hB288.2.1) (by decide) hc_w127 rfl hc_d_HopeBank_109 ?_
  refine hc_cI (nm := ⟨"HopeBank$Trials", "<init>", "(LHopeBank$Town;)V"⟩) (bc := prog_12_method_1_code) (mL := 2) (b := q289) (As := [.ref q249]) (rest := [.ref q289, .ref a]) (fp := [19, 22, 23]) (U := (hc_ad (B288 ++ [(q289, .inr (10, hc_Z_Trials))]))) hBd hGs hX hh290 (hc_wdU (n := 91) (hB288.2.2.1.less (by decide +kernel)) (by decide +kernel) (fun c hc => hc_adl (by rw [hB288.1]; exact hc)) (fun c hc => List.getElem?_append_left (by rw [hB288.1]; exact hc_clt (n := 91) (fp := [19, 22, 23]) (by decide +kernel) c hc))) (hc_Trials (by rw [List.length_append, hB288.1]; rfl) ((hc_gr (n := 91) (i := 0) hB288.1).trans rfl) ((hc_adl (by rw [hB288.1]; decide)).trans d19_288)) hc_cd_Trials hc_w138 hc_w139 hc_w140 rfl (by decide) ⟨(Nat.le_of_ble_eq_true rfl), (Nat.le_of_ble_eq_true rfl)⟩ (fun sig h => by cases h; rfl) hl274.1 rfl (Nat.le_of_ble_eq_true rfl) ⟨(Nat.le_of_ble_eq_true rfl), (Nat.le_of_ble_eq_true rfl)⟩ hc_d_HopeBank_112 (fun t291 w291 H291 locs291 hv291 hp291 hh291 => ?_)
  have hB291 := hc_Bpt hB288 hp291 hv291 (by decide +kernel) (by rw [hwl]; decide)
  have hF291 : hp_all (hc_ad w291) w291 [(19, 7, 0), (20, 2, 0), (22, 2, 0), (24, 2, 0), (26, 2, 0), (28, 2, 0), (30, 2, 0), (1, 1, 0), (1, 3, 0), (1, 4, (-1))] := hp_allpt hp291 hB288.1 (by decide +kernel) hF288
  have da291 : ∀ c, c < 91 → hc_ad w291 c = hc_ad B288 c := fun c hc => (hp291.2.1 c (by rw [List.length_append, hB288.1]; show c < 91 + 1; omega)).trans (hc_adl (by rw [hB288.1]; exact hc))
  have dn291 : hc_ad w291 91 = q289 := (hp291.2.1 91 (by rw [List.length_append, hB288.1]; show 91 < 91 + 1; decide)).trans (by unfold hc_ad; rw [hc_gr (n := 91) (i := 0) hB288.1]; rfl)
  have d1_291 : hc_ad w291 1 = q243 := (da291 1 (by decide)).trans d1_288
  have d19_291 : hc_ad w291 19 = q249 := (da291 19 (by decide)).trans d19_288
  have d34_291 : hc_ad w291 34 = q255 := (da291 34 (by decide)).trans d34_288
  have d80_291 : hc_ad w291 80 = q278 := (da291 80 (by decide)).trans d80_288
  have d90_291 : hc_ad w291 90 = q283 := (da291 90 (by decide)).trans d90_288
  refine hc_putF (q0 := 0) (ci := 11) (k := 6) (own := "HopeBank") (C := RX11) (T := TX11) (N := 12) (t := tyX11 6) hx hb hown hTw hGs.1 hin hh291 rfl hB291.2.1 (by decide) hc_w141 rfl rfl (tyX11_ok 6 (by decide)) rfl rfl (Nat.le_of_ble_eq_true rfl) hc_d_HopeBank_115 rfl (fun Hhh292 locshh292 hh292 => ?_)
  have hh292 : hc_H D s wd (w291.set 0 (a, .inr (11, [.ref q243, .ref q249, .ref q255, .int (nI 0), .ref q278, .ref q283, .ref q289, .null, .null, .null, .null, .null]))) _ _ := hh292
  obtain ⟨B293, e293⟩ : ∃ B : va_W, B = w291.set 0 (a, .inr (11, [.ref q243, .ref q249, .ref q255, .int (nI 0), .ref q278, .ref q283, .ref q289, .null, .null, .null, .null, .null])) := ⟨_, rfl⟩
  have hB293 := hc_Bput (fs' := [.ref q243, .ref q249, .ref q255, .int (nI 0), .ref q278, .ref q283, .ref q289, .null, .null, .null, .null, .null]) hB291 (by decide +kernel) (by decide +kernel)
  rw [← e293] at hB293 hh292
  have hF293 : hp_all (hc_ad B293) B293 [(19, 7, 0), (20, 2, 0), (22, 2, 0), (24, 2, 0), (26, 2, 0), (28, 2, 0), (30, 2, 0), (1, 1, 0), (1, 3, 0), (1, 4, (-1))] := (by rw [e293]; exact hp_allset hB291.2.1 (by decide +kernel) hF291)
  have d1_293 : hc_ad B293 1 = q243 := by rw [e293]; exact (hc_ads hB291.2.1 1).trans d1_291
  have d19_293 : hc_ad B293 19 = q249 := by rw [e293]; exact (hc_ads hB291.2.1 19).trans d19_291
  have d34_293 : hc_ad B293 34 = q255 := by rw [e293]; exact (hc_ads hB291.2.1 34).trans d34_291
  have d80_293 : hc_ad B293 80 = q278 := by rw [e293]; exact (hc_ads hB291.2.1 80).trans d80_291
  have d90_293 : hc_ad B293 90 = q283 := by rw [e293]; exact (hc_ads hB291.2.1 90).trans d90_291
  have d91_293 : hc_ad B293 91 = q289 := by rw [e293]; exact (hc_ads hB291.2.1 91).trans dn291
  refine lv_aload_n hx hb hc_d_HopeBank_118 rfl (lv_at hl274 1 rfl) ?_
  refine hc_new (ci := 5) (fs := hc_Z_Sets) (own := "HopeBank") (C := RX5) (T := TX5) (N := 4) (ty := tyX5) hx hb hown hTw hGs.1 hh292 rfl tyX5_ok hc_Zok_Sets hc_w142 hc_w143 hc_w144 (Nat.le_of_ble_eq_true rfl) (Nat.le_of_ble_eq_true rfl) hc_d_HopeBank_119 (fun q294 Hhh295 hh295 => ?_)
  have hh295 : hc_H D s wd (B293 ++ [(q294, .inr (5, hc_Z_Sets))]) _ _ := hh295
  refine lv_dup hx hb hc_d_HopeBank_122 rfl ?_
  refine lv_aload_n hx hb hc_d_HopeBank_123 rfl (lv_at hl274 1 rfl) ?_
  refine hc_getf (q0 := 0) (ci := 11) (k := 1) (v := .ref q249) (own := "HopeBank") (C := RX11) (T := TX11) (N := 12) hx hb hown hTw hGs.1 hh295 rfl (hc_gl hB293.2.1) (by decide) hc_w127 rfl hc_d_HopeBank_124 ?_
  refine hc_cI (nm := ⟨"HopeBank$Sets", "<init>", "(LHopeBank$Town;)V"⟩) (bc := prog_7_method_1_code) (mL := 2) (b := q294) (As := [.ref q249]) (rest := [.ref q294, .ref a]) (fp := []) (U := hc_ad wd) hBd hGs hX hh295 hc_nofp (hc_Sets (U := hc_ad wd) (n0 := 104) (ki := 103) (by rw [List.length_append, hB293.1]; rfl) ((hc_gr (n := 103) (i := 0) hB293.1).trans rfl)) hc_cd_Sets hc_w144 hc_w145 hc_w146 rfl (by decide) ⟨(Nat.le_of_ble_eq_true rfl), (Nat.le_of_ble_eq_true rfl)⟩ (fun sig h => by cases h; rfl) hl274.1 rfl (Nat.le_of_ble_eq_true rfl) ⟨(Nat.le_of_ble_eq_true rfl), (Nat.le_of_ble_eq_true rfl)⟩ hc_d_HopeBank_127 (fun t296 w296 H296 locs296 hv296 hp296 hh296 => ?_)
  obtain ⟨b296, hb296⟩ := hp296 k (hk0.moved hv296)
  rw [hc_sR (n := 103) (i := 0) hB293.1, List.append_assoc] at hb296
  subst hb296
  have hh296 : hc_H D s wd (B293 ++ [(q294, .inr (5, hc_F_Sets q249 b296)), (b296 0, .inl (k.1, 256, .inl (fun _ => 0))), (b296 1, .inl (k.1, 256, .inl (fun _ => 0)))]) _ _ := hh296
  obtain ⟨W297, eW297⟩ : ∃ B : va_W, B = B293 ++ [(q294, .inr (5, hc_F_Sets q249 b296)), (b296 0, .inl (k.1, 256, .inl (fun _ => 0))), (b296 1, .inl (k.1, 256, .inl (fun _ => 0)))] := ⟨_, rfl⟩
  have g297_103 : W297[103]? = some (q294, .inr (5, hc_F_Sets q249 b296)) := by rw [eW297]; exact (hc_gr (n := 103) (i := 0) hB293.1).trans rfl
  have d297_103 : hc_ad W297 103 = q294 := by unfold hc_ad; rw [g297_103]; rfl
  have g297_104 : W297[104]? = some (b296 0, .inl (k.1, 256, .inl (fun _ => 0))) := by rw [eW297]; exact (hc_gr (n := 103) (i := 1) hB293.1).trans rfl
  have d297_104 : hc_ad W297 104 = b296 0 := by unfold hc_ad; rw [g297_104]; rfl
  have g297_105 : W297[105]? = some (b296 1, .inl (k.1, 256, .inl (fun _ => 0))) := by rw [eW297]; exact (hc_gr (n := 103) (i := 2) hB293.1).trans rfl
  have d297_105 : hc_ad W297 105 = b296 1 := by unfold hc_ad; rw [g297_105]; rfl
  have d297_1 : hc_ad W297 1 = q243 := by rw [eW297]; exact (hc_adl (by rw [hB293.1]; decide)).trans d1_293
  have d297_19 : hc_ad W297 19 = q249 := by rw [eW297]; exact (hc_adl (by rw [hB293.1]; decide)).trans d19_293
  have d297_34 : hc_ad W297 34 = q255 := by rw [eW297]; exact (hc_adl (by rw [hB293.1]; decide)).trans d34_293
  have d297_80 : hc_ad W297 80 = q278 := by rw [eW297]; exact (hc_adl (by rw [hB293.1]; decide)).trans d80_293
  have d297_90 : hc_ad W297 90 = q283 := by rw [eW297]; exact (hc_adl (by rw [hB293.1]; decide)).trans d90_293
  have d297_91 : hc_ad W297 91 = q289 := by rw [eW297]; exact (hc_adl (by rw [hB293.1]; decide)).trans d91_293
  have t297_105 : hb_wd hb_KT s (hc_ad W297) W297 [105] := hc_wdc (c := 105) (kd := (1, 0, 256, [(0, (-2147483648), 2147483647)])) rfl (hc_at g297_105) (hc_cellI hk0.1 (fun _ _ => ⟨by decide, by decide⟩)) (by decide) hc_wdn
  have t297_104 : hb_wd hb_KT s (hc_ad W297) W297 [104, 105] := hc_wdc (c := 104) (kd := (1, 0, 256, [(0, (-2147483648), 2147483647)])) rfl (hc_at g297_104) (hc_cellI hk0.1 (fun _ _ => ⟨by decide, by decide⟩)) (by decide) t297_105
  have t297_103 : hb_wd hb_KT s (hc_ad W297) W297 [103, 104, 105] := hc_wdc (c := 103) (kd := (0, 5, 4, [(2, 19, 0), (2, 104, 0), (2, 105, 0), (0, 0, 255)])) rfl (hc_at g297_103) (hc_cellO rfl ⟨congrArg Value.ref (d297_19).symm, congrArg Value.ref (d297_104).symm, congrArg Value.ref (d297_105).symm, ⟨0, rfl, by decide, by decide⟩, trivial⟩) (by decide) t297_104
  have hT297 := t297_103
  rw [eW297] at hT297
  have hB297 := hc_Bapp (m := 3) hB293 (by decide +kernel) rfl (by rw [hwl]; decide) hT297
  rw [← eW297] at hB297 hh296
  have hF297 : hp_all (hc_ad W297) W297 [(19, 7, 0), (20, 2, 0), (22, 2, 0), (24, 2, 0), (26, 2, 0), (28, 2, 0), (30, 2, 0), (1, 1, 0), (1, 3, 0), (1, 4, (-1))] := (by rw [eW297]; exact hp_allapp hF293)
  refine hc_putF (q0 := 0) (ci := 11) (k := 7) (own := "HopeBank") (C := RX11) (T := TX11) (N := 12) (t := tyX11 7) hx hb hown hTw hGs.1 hin hh296 rfl hB297.2.1 (by decide) hc_w147 rfl rfl (tyX11_ok 7 (by decide)) rfl rfl (Nat.le_of_ble_eq_true rfl) hc_d_HopeBank_130 rfl (fun Hhh298 locshh298 hh298 => ?_)
  have hh298 : hc_H D s wd (W297.set 0 (a, .inr (11, [.ref q243, .ref q249, .ref q255, .int (nI 0), .ref q278, .ref q283, .ref q289, .ref q294, .null, .null, .null, .null]))) _ _ := hh298
  obtain ⟨B299, e299⟩ : ∃ B : va_W, B = W297.set 0 (a, .inr (11, [.ref q243, .ref q249, .ref q255, .int (nI 0), .ref q278, .ref q283, .ref q289, .ref q294, .null, .null, .null, .null])) := ⟨_, rfl⟩
  have hB299 := hc_Bput (fs' := [.ref q243, .ref q249, .ref q255, .int (nI 0), .ref q278, .ref q283, .ref q289, .ref q294, .null, .null, .null, .null]) hB297 (by decide +kernel) (by decide +kernel)
  rw [← e299] at hB299 hh298
  have hF299 : hp_all (hc_ad B299) B299 [(19, 7, 0), (20, 2, 0), (22, 2, 0), (24, 2, 0), (26, 2, 0), (28, 2, 0), (30, 2, 0), (1, 1, 0), (1, 3, 0), (1, 4, (-1))] := (by rw [e299]; exact hp_allset hB297.2.1 (by decide +kernel) hF297)
  have d1_299 : hc_ad B299 1 = q243 := by rw [e299]; exact (hc_ads hB297.2.1 1).trans d297_1
  have d19_299 : hc_ad B299 19 = q249 := by rw [e299]; exact (hc_ads hB297.2.1 19).trans d297_19
  have d34_299 : hc_ad B299 34 = q255 := by rw [e299]; exact (hc_ads hB297.2.1 34).trans d297_34
  have d80_299 : hc_ad B299 80 = q278 := by rw [e299]; exact (hc_ads hB297.2.1 80).trans d297_80
  have d90_299 : hc_ad B299 90 = q283 := by rw [e299]; exact (hc_ads hB297.2.1 90).trans d297_90
  have d91_299 : hc_ad B299 91 = q289 := by rw [e299]; exact (hc_ads hB297.2.1 91).trans d297_91
  have d103_299 : hc_ad B299 103 = q294 := by rw [e299]; exact (hc_ads hB297.2.1 103).trans d297_103
  refine lv_aload_n hx hb hc_d_HopeBank_133 rfl (lv_at hl274 1 rfl) ?_
  refine hc_new (ci := 2) (fs := hc_Z_Packing) (own := "HopeBank") (C := RX2) (T := TX2) (N := 8) (ty := tyX2) hx hb hown hTw hGs.1 hh298 rfl tyX2_ok hc_Zok_Packing hc_w148 hc_w149 hc_w150 (Nat.le_of_ble_eq_true rfl) (Nat.le_of_ble_eq_true rfl) hc_d_HopeBank_134 (fun q300 Hhh301 hh301 => ?_)
  have hh301 : hc_H D s wd (B299 ++ [(q300, .inr (2, hc_Z_Packing))]) _ _ := hh301
  refine lv_dup hx hb hc_d_HopeBank_137 rfl ?_
  refine lv_aload_n hx hb hc_d_HopeBank_138 rfl (lv_at hl274 1 rfl) ?_
  refine hc_getf (q0 := 0) (ci := 11) (k := 1) (v := .ref q249) (own := "HopeBank") (C := RX11) (T := TX11) (N := 12) hx hb hown hTw hGs.1 hh301 rfl (hc_gl hB299.2.1) (by decide) hc_w127 rfl hc_d_HopeBank_139 ?_
  refine lv_aload_n hx hb hc_d_HopeBank_142 rfl (lv_at hl274 1 rfl) ?_
  refine hc_getf (q0 := 0) (ci := 11) (k := 7) (v := .ref q294) (own := "HopeBank") (C := RX11) (T := TX11) (N := 12) hx hb hown hTw hGs.1 hh301 rfl (hc_gl hB299.2.1) (by decide) hc_w147 rfl hc_d_HopeBank_143 ?_
  refine hc_cI (nm := ⟨"HopeBank$Packing", "<init>", "(LHopeBank$Town;LHopeBank$Sets;)V"⟩) (bc := prog_4_method_1_code) (mL := 3) (b := q300) (As := [.ref q249, .ref q294]) (rest := [.ref q300, .ref a]) (fp := []) (U := hc_ad wd) hBd hGs hX hh301 hc_nofp (hc_Packing (U := hc_ad wd) (n0 := 107) (ki := 106) (by rw [List.length_append, hB299.1]; rfl) ((hc_gr (n := 106) (i := 0) hB299.1).trans rfl)) hc_cd_Packing hc_w150 hc_w151 hc_w152 rfl (by decide) ⟨(Nat.le_of_ble_eq_true rfl), (Nat.le_of_ble_eq_true rfl)⟩ (fun sig h => by cases h; rfl) hl274.1 rfl (Nat.le_of_ble_eq_true rfl) ⟨(Nat.le_of_ble_eq_true rfl), (Nat.le_of_ble_eq_true rfl)⟩ hc_d_HopeBank_146 (fun t302 w302 H302 locs302 hv302 hp302 hh302 => ?_)
  obtain ⟨b302, hb302⟩ := hp302 k (hk0.moved hv302)
  rw [hc_sR (n := 106) (i := 0) hB299.1, List.append_assoc] at hb302
  subst hb302
  have hh302 : hc_H D s wd (B299 ++ [(q300, .inr (2, hc_F_Packing q249 q294 b302)), (b302 0, .inl (k.1, 256, .inl (fun _ => 0))), (b302 1, .inl (k.1, 5, .inl (fun _ => 0))), (b302 2, .inl (k.1, 8, .inl (fun _ => 0)))]) _ _ := hh302
  obtain ⟨W303, eW303⟩ : ∃ B : va_W, B = B299 ++ [(q300, .inr (2, hc_F_Packing q249 q294 b302)), (b302 0, .inl (k.1, 256, .inl (fun _ => 0))), (b302 1, .inl (k.1, 5, .inl (fun _ => 0))), (b302 2, .inl (k.1, 8, .inl (fun _ => 0)))] := ⟨_, rfl⟩
  have g303_106 : W303[106]? = some (q300, .inr (2, hc_F_Packing q249 q294 b302)) := by rw [eW303]; exact (hc_gr (n := 106) (i := 0) hB299.1).trans rfl
  have d303_106 : hc_ad W303 106 = q300 := by unfold hc_ad; rw [g303_106]; rfl
  have g303_107 : W303[107]? = some (b302 0, .inl (k.1, 256, .inl (fun _ => 0))) := by rw [eW303]; exact (hc_gr (n := 106) (i := 1) hB299.1).trans rfl
  have d303_107 : hc_ad W303 107 = b302 0 := by unfold hc_ad; rw [g303_107]; rfl
  have g303_108 : W303[108]? = some (b302 1, .inl (k.1, 5, .inl (fun _ => 0))) := by rw [eW303]; exact (hc_gr (n := 106) (i := 2) hB299.1).trans rfl
  have d303_108 : hc_ad W303 108 = b302 1 := by unfold hc_ad; rw [g303_108]; rfl
  have g303_109 : W303[109]? = some (b302 2, .inl (k.1, 8, .inl (fun _ => 0))) := by rw [eW303]; exact (hc_gr (n := 106) (i := 3) hB299.1).trans rfl
  have d303_109 : hc_ad W303 109 = b302 2 := by unfold hc_ad; rw [g303_109]; rfl
  have d303_1 : hc_ad W303 1 = q243 := by rw [eW303]; exact (hc_adl (by rw [hB299.1]; decide)).trans d1_299
  have d303_19 : hc_ad W303 19 = q249 := by rw [eW303]; exact (hc_adl (by rw [hB299.1]; decide)).trans d19_299
  have d303_34 : hc_ad W303 34 = q255 := by rw [eW303]; exact (hc_adl (by rw [hB299.1]; decide)).trans d34_299
  have d303_80 : hc_ad W303 80 = q278 := by rw [eW303]; exact (hc_adl (by rw [hB299.1]; decide)).trans d80_299
  have d303_90 : hc_ad W303 90 = q283 := by rw [eW303]; exact (hc_adl (by rw [hB299.1]; decide)).trans d90_299
  have d303_91 : hc_ad W303 91 = q289 := by rw [eW303]; exact (hc_adl (by rw [hB299.1]; decide)).trans d91_299
  have d303_103 : hc_ad W303 103 = q294 := by rw [eW303]; exact (hc_adl (by rw [hB299.1]; decide)).trans d103_299
  have t303_109 : hb_wd hb_KT s (hc_ad W303) W303 [109] := hc_wdc (c := 109) (kd := (1, 0, 8, [(0, (-2147483648), 2147483647)])) rfl (hc_at g303_109) (hc_cellI hk0.1 (fun _ _ => ⟨by decide, by decide⟩)) (by decide) hc_wdn
  have t303_108 : hb_wd hb_KT s (hc_ad W303) W303 [108, 109] := hc_wdc (c := 108) (kd := (1, 0, 5, [(0, (-2147483648), 2147483647)])) rfl (hc_at g303_108) (hc_cellI hk0.1 (fun _ _ => ⟨by decide, by decide⟩)) (by decide) t303_109
  have t303_107 : hb_wd hb_KT s (hc_ad W303) W303 [107, 108, 109] := hc_wdc (c := 107) (kd := (1, 0, 256, [(0, (-2147483648), 2147483647)])) rfl (hc_at g303_107) (hc_cellI hk0.1 (fun _ _ => ⟨by decide, by decide⟩)) (by decide) t303_108
  have t303_106 : hb_wd hb_KT s (hc_ad W303) W303 [106, 107, 108, 109] := hc_wdc (c := 106) (kd := (0, 2, 8, [(2, 19, 0), (2, 103, 0), (2, 107, 0), (2, 108, 0), (2, 109, 0), (0, (-2147483648), 2147483647), (0, (-2147483648), 2147483647), (0, 0, 1)])) rfl (hc_at g303_106) (hc_cellO rfl ⟨congrArg Value.ref (d303_19).symm, congrArg Value.ref (d303_103).symm, congrArg Value.ref (d303_107).symm, congrArg Value.ref (d303_108).symm, congrArg Value.ref (d303_109).symm, ⟨0, rfl, by decide, by decide⟩, ⟨0, rfl, by decide, by decide⟩, ⟨0, rfl, by decide, by decide⟩, trivial⟩) (by decide) t303_107
  have hT303 := t303_106
  rw [eW303] at hT303
  have hB303 := hc_Bapp (m := 4) hB299 (by decide +kernel) rfl (by rw [hwl]; decide) hT303
  rw [← eW303] at hB303 hh302
  have hF303 : hp_all (hc_ad W303) W303 [(19, 7, 0), (20, 2, 0), (22, 2, 0), (24, 2, 0), (26, 2, 0), (28, 2, 0), (30, 2, 0), (1, 1, 0), (1, 3, 0), (1, 4, (-1))] := (by rw [eW303]; exact hp_allapp hF299)
  refine hc_putF (q0 := 0) (ci := 11) (k := 8) (own := "HopeBank") (C := RX11) (T := TX11) (N := 12) (t := tyX11 8) hx hb hown hTw hGs.1 hin hh302 rfl hB303.2.1 (by decide) hc_w153 rfl rfl (tyX11_ok 8 (by decide)) rfl rfl (Nat.le_of_ble_eq_true rfl) hc_d_HopeBank_149 rfl (fun Hhh304 locshh304 hh304 => ?_)
  have hh304 : hc_H D s wd (W303.set 0 (a, .inr (11, [.ref q243, .ref q249, .ref q255, .int (nI 0), .ref q278, .ref q283, .ref q289, .ref q294, .ref q300, .null, .null, .null]))) _ _ := hh304
  obtain ⟨B305, e305⟩ : ∃ B : va_W, B = W303.set 0 (a, .inr (11, [.ref q243, .ref q249, .ref q255, .int (nI 0), .ref q278, .ref q283, .ref q289, .ref q294, .ref q300, .null, .null, .null])) := ⟨_, rfl⟩
  have hB305 := hc_Bput (fs' := [.ref q243, .ref q249, .ref q255, .int (nI 0), .ref q278, .ref q283, .ref q289, .ref q294, .ref q300, .null, .null, .null]) hB303 (by decide +kernel) (by decide +kernel)
  rw [← e305] at hB305 hh304
  have hF305 : hp_all (hc_ad B305) B305 [(19, 7, 0), (20, 2, 0), (22, 2, 0), (24, 2, 0), (26, 2, 0), (28, 2, 0), (30, 2, 0), (1, 1, 0), (1, 3, 0), (1, 4, (-1))] := (by rw [e305]; exact hp_allset hB303.2.1 (by decide +kernel) hF303)
  have d1_305 : hc_ad B305 1 = q243 := by rw [e305]; exact (hc_ads hB303.2.1 1).trans d303_1
  have d19_305 : hc_ad B305 19 = q249 := by rw [e305]; exact (hc_ads hB303.2.1 19).trans d303_19
  have d34_305 : hc_ad B305 34 = q255 := by rw [e305]; exact (hc_ads hB303.2.1 34).trans d303_34
  have d80_305 : hc_ad B305 80 = q278 := by rw [e305]; exact (hc_ads hB303.2.1 80).trans d303_80
  have d90_305 : hc_ad B305 90 = q283 := by rw [e305]; exact (hc_ads hB303.2.1 90).trans d303_90
  have d91_305 : hc_ad B305 91 = q289 := by rw [e305]; exact (hc_ads hB303.2.1 91).trans d303_91
  have d103_305 : hc_ad B305 103 = q294 := by rw [e305]; exact (hc_ads hB303.2.1 103).trans d303_103
  have d106_305 : hc_ad B305 106 = q300 := by rw [e305]; exact (hc_ads hB303.2.1 106).trans d303_106
  refine lv_aload_n hx hb hc_d_HopeBank_152 rfl (lv_at hl274 1 rfl) ?_
  refine hc_new (ci := 0) (fs := hc_Z_Hush) (own := "HopeBank") (C := RX0) (T := TX0) (N := 5) (ty := tyX0) hx hb hown hTw hGs.1 hh304 rfl tyX0_ok hc_Zok_Hush hc_w154 hc_w155 hc_w156 (Nat.le_of_ble_eq_true rfl) (Nat.le_of_ble_eq_true rfl) hc_d_HopeBank_153 (fun q306 Hhh307 hh307 => ?_)
  have hh307 : hc_H D s wd (B305 ++ [(q306, .inr (0, hc_Z_Hush))]) _ _ := hh307
  refine lv_dup hx hb hc_d_HopeBank_156 rfl ?_
  refine lv_aload_n hx hb hc_d_HopeBank_157 rfl (lv_at hl274 1 rfl) ?_
  refine hc_getf (q0 := 0) (ci := 11) (k := 1) (v := .ref q249) (own := "HopeBank") (C := RX11) (T := TX11) (N := 12) hx hb hown hTw hGs.1 hh307 rfl (hc_gl hB305.2.1) (by decide) hc_w127 rfl hc_d_HopeBank_158 ?_
  refine lv_aload_n hx hb hc_d_HopeBank_161 rfl (lv_at hl274 1 rfl) ?_
  refine hc_getf (q0 := 0) (ci := 11) (k := 7) (v := .ref q294) (own := "HopeBank") (C := RX11) (T := TX11) (N := 12) hx hb hown hTw hGs.1 hh307 rfl (hc_gl hB305.2.1) (by decide) hc_w147 rfl hc_d_HopeBank_162 ?_
  refine hc_cI (nm := ⟨"HopeBank$Hush", "<init>", "(LHopeBank$Town;LHopeBank$Sets;)V"⟩) (bc := prog_2_method_1_code) (mL := 3) (b := q306) (As := [.ref q249, .ref q294]) (rest := [.ref q306, .ref a]) (fp := []) (U := hc_ad wd) hBd hGs hX hh307 hc_nofp (hc_Hush (U := hc_ad wd) (n0 := 111) (ki := 110) (by rw [List.length_append, hB305.1]; rfl) ((hc_gr (n := 110) (i := 0) hB305.1).trans rfl)) hc_cd_Hush hc_w156 hc_w157 hc_w158 rfl (by decide) ⟨(Nat.le_of_ble_eq_true rfl), (Nat.le_of_ble_eq_true rfl)⟩ (fun sig h => by cases h; rfl) hl274.1 rfl (Nat.le_of_ble_eq_true rfl) ⟨(Nat.le_of_ble_eq_true rfl), (Nat.le_of_ble_eq_true rfl)⟩ hc_d_HopeBank_165 (fun t308 w308 H308 locs308 hv308 hp308 hh308 => ?_)
  obtain ⟨b308, hb308⟩ := hp308 k (hk0.moved hv308)
  rw [hc_sR (n := 110) (i := 0) hB305.1, List.append_assoc] at hb308
  subst hb308
  have hh308 : hc_H D s wd (B305 ++ [(q306, .inr (0, hc_F_Hush q249 q294 b308)), (b308 0, .inl (k.1, 256, .inl (fun _ => 0))), (b308 1, .inl (k.1, 256, .inl (fun _ => 0)))]) _ _ := hh308
  obtain ⟨W309, eW309⟩ : ∃ B : va_W, B = B305 ++ [(q306, .inr (0, hc_F_Hush q249 q294 b308)), (b308 0, .inl (k.1, 256, .inl (fun _ => 0))), (b308 1, .inl (k.1, 256, .inl (fun _ => 0)))] := ⟨_, rfl⟩
  have g309_110 : W309[110]? = some (q306, .inr (0, hc_F_Hush q249 q294 b308)) := by rw [eW309]; exact (hc_gr (n := 110) (i := 0) hB305.1).trans rfl
  have d309_110 : hc_ad W309 110 = q306 := by unfold hc_ad; rw [g309_110]; rfl
  have g309_111 : W309[111]? = some (b308 0, .inl (k.1, 256, .inl (fun _ => 0))) := by rw [eW309]; exact (hc_gr (n := 110) (i := 1) hB305.1).trans rfl
  have d309_111 : hc_ad W309 111 = b308 0 := by unfold hc_ad; rw [g309_111]; rfl
  have g309_112 : W309[112]? = some (b308 1, .inl (k.1, 256, .inl (fun _ => 0))) := by rw [eW309]; exact (hc_gr (n := 110) (i := 2) hB305.1).trans rfl
  have d309_112 : hc_ad W309 112 = b308 1 := by unfold hc_ad; rw [g309_112]; rfl
  have d309_1 : hc_ad W309 1 = q243 := by rw [eW309]; exact (hc_adl (by rw [hB305.1]; decide)).trans d1_305
  have d309_19 : hc_ad W309 19 = q249 := by rw [eW309]; exact (hc_adl (by rw [hB305.1]; decide)).trans d19_305
  have d309_34 : hc_ad W309 34 = q255 := by rw [eW309]; exact (hc_adl (by rw [hB305.1]; decide)).trans d34_305
  have d309_80 : hc_ad W309 80 = q278 := by rw [eW309]; exact (hc_adl (by rw [hB305.1]; decide)).trans d80_305
  have d309_90 : hc_ad W309 90 = q283 := by rw [eW309]; exact (hc_adl (by rw [hB305.1]; decide)).trans d90_305
  have d309_91 : hc_ad W309 91 = q289 := by rw [eW309]; exact (hc_adl (by rw [hB305.1]; decide)).trans d91_305
  have d309_103 : hc_ad W309 103 = q294 := by rw [eW309]; exact (hc_adl (by rw [hB305.1]; decide)).trans d103_305
  have d309_106 : hc_ad W309 106 = q300 := by rw [eW309]; exact (hc_adl (by rw [hB305.1]; decide)).trans d106_305
  have t309_112 : hb_wd hb_KT s (hc_ad W309) W309 [112] := hc_wdc (c := 112) (kd := (1, 0, 256, [(0, (-2147483648), 2147483647)])) rfl (hc_at g309_112) (hc_cellI hk0.1 (fun _ _ => ⟨by decide, by decide⟩)) (by decide) hc_wdn
  have t309_111 : hb_wd hb_KT s (hc_ad W309) W309 [111, 112] := hc_wdc (c := 111) (kd := (1, 0, 256, [(0, (-2147483648), 2147483647)])) rfl (hc_at g309_111) (hc_cellI hk0.1 (fun _ _ => ⟨by decide, by decide⟩)) (by decide) t309_112
  have t309_110 : hb_wd hb_KT s (hc_ad W309) W309 [110, 111, 112] := hc_wdc (c := 110) (kd := (0, 0, 5, [(2, 19, 0), (2, 103, 0), (2, 111, 0), (2, 112, 0), (0, (-2147483648), 2147483647)])) rfl (hc_at g309_110) (hc_cellO rfl ⟨congrArg Value.ref (d309_19).symm, congrArg Value.ref (d309_103).symm, congrArg Value.ref (d309_111).symm, congrArg Value.ref (d309_112).symm, ⟨0, rfl, by decide, by decide⟩, trivial⟩) (by decide) t309_111
  have hT309 := t309_110
  rw [eW309] at hT309
  have hB309 := hc_Bapp (m := 3) hB305 (by decide +kernel) rfl (by rw [hwl]; decide) hT309
  rw [← eW309] at hB309 hh308
  have hF309 : hp_all (hc_ad W309) W309 [(19, 7, 0), (20, 2, 0), (22, 2, 0), (24, 2, 0), (26, 2, 0), (28, 2, 0), (30, 2, 0), (1, 1, 0), (1, 3, 0), (1, 4, (-1))] := (by rw [eW309]; exact hp_allapp hF305)
  refine hc_putF (q0 := 0) (ci := 11) (k := 9) (own := "HopeBank") (C := RX11) (T := TX11) (N := 12) (t := tyX11 9) hx hb hown hTw hGs.1 hin hh308 rfl hB309.2.1 (by decide) hc_w159 rfl rfl (tyX11_ok 9 (by decide)) rfl rfl (Nat.le_of_ble_eq_true rfl) hc_d_HopeBank_168 rfl (fun Hhh310 locshh310 hh310 => ?_)
  have hh310 : hc_H D s wd (W309.set 0 (a, .inr (11, [.ref q243, .ref q249, .ref q255, .int (nI 0), .ref q278, .ref q283, .ref q289, .ref q294, .ref q300, .ref q306, .null, .null]))) _ _ := hh310
  obtain ⟨B311, e311⟩ : ∃ B : va_W, B = W309.set 0 (a, .inr (11, [.ref q243, .ref q249, .ref q255, .int (nI 0), .ref q278, .ref q283, .ref q289, .ref q294, .ref q300, .ref q306, .null, .null])) := ⟨_, rfl⟩
  have hB311 := hc_Bput (fs' := [.ref q243, .ref q249, .ref q255, .int (nI 0), .ref q278, .ref q283, .ref q289, .ref q294, .ref q300, .ref q306, .null, .null]) hB309 (by decide +kernel) (by decide +kernel)
  rw [← e311] at hB311 hh310
  have hF311 : hp_all (hc_ad B311) B311 [(19, 7, 0), (20, 2, 0), (22, 2, 0), (24, 2, 0), (26, 2, 0), (28, 2, 0), (30, 2, 0), (1, 1, 0), (1, 3, 0), (1, 4, (-1))] := (by rw [e311]; exact hp_allset hB309.2.1 (by decide +kernel) hF309)
  have d1_311 : hc_ad B311 1 = q243 := by rw [e311]; exact (hc_ads hB309.2.1 1).trans d309_1
  have d19_311 : hc_ad B311 19 = q249 := by rw [e311]; exact (hc_ads hB309.2.1 19).trans d309_19
  have d34_311 : hc_ad B311 34 = q255 := by rw [e311]; exact (hc_ads hB309.2.1 34).trans d309_34
  have d80_311 : hc_ad B311 80 = q278 := by rw [e311]; exact (hc_ads hB309.2.1 80).trans d309_80
  have d90_311 : hc_ad B311 90 = q283 := by rw [e311]; exact (hc_ads hB309.2.1 90).trans d309_90
  have d91_311 : hc_ad B311 91 = q289 := by rw [e311]; exact (hc_ads hB309.2.1 91).trans d309_91
  have d103_311 : hc_ad B311 103 = q294 := by rw [e311]; exact (hc_ads hB309.2.1 103).trans d309_103
  have d106_311 : hc_ad B311 106 = q300 := by rw [e311]; exact (hc_ads hB309.2.1 106).trans d309_106
  have d110_311 : hc_ad B311 110 = q306 := by rw [e311]; exact (hc_ads hB309.2.1 110).trans d309_110
  refine lv_aload_n hx hb hc_d_HopeBank_171 rfl (lv_at hl274 1 rfl) ?_
  refine hc_new (ci := 6) (fs := hc_Z_Slots) (own := "HopeBank") (C := RX6) (T := TX6) (N := 3) (ty := tyX6) hx hb hown hTw hGs.1 hh310 rfl tyX6_ok hc_Zok_Slots hc_w160 hc_w161 hc_w162 (Nat.le_of_ble_eq_true rfl) (Nat.le_of_ble_eq_true rfl) hc_d_HopeBank_172 (fun q312 Hhh313 hh313 => ?_)
  have hh313 : hc_H D s wd (B311 ++ [(q312, .inr (6, hc_Z_Slots))]) _ _ := hh313
  refine lv_dup hx hb hc_d_HopeBank_175 rfl ?_
  refine hc_cI (nm := ⟨"HopeBank$Slots", "<init>", "()V"⟩) (bc := prog_8_method_1_code) (mL := 1) (b := q312) (As := []) (rest := [.ref q312, .ref a]) (fp := []) (U := (hc_ad (B311 ++ [(q312, .inr (6, hc_Z_Slots))]))) hBd hGs hX hh313 hc_nofp (hc_Slots (by rw [List.length_append, hB311.1]; rfl) ((hc_gr (n := 113) (i := 0) hB311.1).trans rfl)) hc_cd_Slots hc_w162 hc_w163 hc_w164 rfl (by decide) ⟨(Nat.le_of_ble_eq_true rfl), (Nat.le_of_ble_eq_true rfl)⟩ (fun sig h => by cases h; rfl) hl274.1 rfl (Nat.le_of_ble_eq_true rfl) ⟨(Nat.le_of_ble_eq_true rfl), (Nat.le_of_ble_eq_true rfl)⟩ hc_d_HopeBank_176 (fun t314 w314 H314 locs314 hv314 hp314 hh314 => ?_)
  obtain ⟨hp314, hs314⟩ := hp314
  have hB314 := hc_Bpt hB311 hp314 hv314 (by decide +kernel) (by rw [hwl]; decide)
  have hF314 : hp_all (hc_ad w314) w314 [(19, 7, 0), (20, 2, 0), (22, 2, 0), (24, 2, 0), (26, 2, 0), (28, 2, 0), (30, 2, 0), (1, 1, 0), (1, 3, 0), (1, 4, (-1))] := hp_allpt hp314 hB311.1 (by decide +kernel) hF311
  have hG314 : hp_all (hc_ad w314) w314 [(119, 0, (-1)), (119, 1, (-1)), (119, 2, (-1)), (119, 3, (-1)), (19, 7, 0), (20, 2, 0), (22, 2, 0), (24, 2, 0), (26, 2, 0), (28, 2, 0), (30, 2, 0), (1, 1, 0), (1, 3, 0), (1, 4, (-1))] := (hp_allc (c := 119) (k := 0) (v := (-1)) (hs314 0 (by decide)) (hp_allc (c := 119) (k := 1) (v := (-1)) (hs314 1 (by decide)) (hp_allc (c := 119) (k := 2) (v := (-1)) (hs314 2 (by decide)) (hp_allc (c := 119) (k := 3) (v := (-1)) (hs314 3 (by decide)) hF314))))
  have da314 : ∀ c, c < 113 → hc_ad w314 c = hc_ad B311 c := fun c hc => (hp314.2.1 c (by rw [List.length_append, hB311.1]; show c < 113 + 1; omega)).trans (hc_adl (by rw [hB311.1]; exact hc))
  have dn314 : hc_ad w314 113 = q312 := (hp314.2.1 113 (by rw [List.length_append, hB311.1]; show 113 < 113 + 1; decide)).trans (by unfold hc_ad; rw [hc_gr (n := 113) (i := 0) hB311.1]; rfl)
  have d1_314 : hc_ad w314 1 = q243 := (da314 1 (by decide)).trans d1_311
  have d19_314 : hc_ad w314 19 = q249 := (da314 19 (by decide)).trans d19_311
  have d34_314 : hc_ad w314 34 = q255 := (da314 34 (by decide)).trans d34_311
  have d80_314 : hc_ad w314 80 = q278 := (da314 80 (by decide)).trans d80_311
  have d90_314 : hc_ad w314 90 = q283 := (da314 90 (by decide)).trans d90_311
  have d91_314 : hc_ad w314 91 = q289 := (da314 91 (by decide)).trans d91_311
  have d103_314 : hc_ad w314 103 = q294 := (da314 103 (by decide)).trans d103_311
  have d106_314 : hc_ad w314 106 = q300 := (da314 106 (by decide)).trans d106_311
  have d110_314 : hc_ad w314 110 = q306 := (da314 110 (by decide)).trans d110_311
  refine hc_putF (q0 := 0) (ci := 11) (k := 10) (own := "HopeBank") (C := RX11) (T := TX11) (N := 12) (t := tyX11 10) hx hb hown hTw hGs.1 hin hh314 rfl hB314.2.1 (by decide) hc_w165 rfl rfl (tyX11_ok 10 (by decide)) rfl rfl (Nat.le_of_ble_eq_true rfl) hc_d_HopeBank_179 rfl (fun Hhh315 locshh315 hh315 => ?_)
  have hh315 : hc_H D s wd (w314.set 0 (a, .inr (11, [.ref q243, .ref q249, .ref q255, .int (nI 0), .ref q278, .ref q283, .ref q289, .ref q294, .ref q300, .ref q306, .ref q312, .null]))) _ _ := hh315
  obtain ⟨B316, e316⟩ : ∃ B : va_W, B = w314.set 0 (a, .inr (11, [.ref q243, .ref q249, .ref q255, .int (nI 0), .ref q278, .ref q283, .ref q289, .ref q294, .ref q300, .ref q306, .ref q312, .null])) := ⟨_, rfl⟩
  have hB316 := hc_Bput (fs' := [.ref q243, .ref q249, .ref q255, .int (nI 0), .ref q278, .ref q283, .ref q289, .ref q294, .ref q300, .ref q306, .ref q312, .null]) hB314 (by decide +kernel) (by decide +kernel)
  rw [← e316] at hB316 hh315
  have hF316 : hp_all (hc_ad B316) B316 [(119, 0, (-1)), (119, 1, (-1)), (119, 2, (-1)), (119, 3, (-1)), (19, 7, 0), (20, 2, 0), (22, 2, 0), (24, 2, 0), (26, 2, 0), (28, 2, 0), (30, 2, 0), (1, 1, 0), (1, 3, 0), (1, 4, (-1))] := (by rw [e316]; exact hp_allset hB314.2.1 (by decide +kernel) hG314)
  have d1_316 : hc_ad B316 1 = q243 := by rw [e316]; exact (hc_ads hB314.2.1 1).trans d1_314
  have d19_316 : hc_ad B316 19 = q249 := by rw [e316]; exact (hc_ads hB314.2.1 19).trans d19_314
  have d34_316 : hc_ad B316 34 = q255 := by rw [e316]; exact (hc_ads hB314.2.1 34).trans d34_314
  have d80_316 : hc_ad B316 80 = q278 := by rw [e316]; exact (hc_ads hB314.2.1 80).trans d80_314
  have d90_316 : hc_ad B316 90 = q283 := by rw [e316]; exact (hc_ads hB314.2.1 90).trans d90_314
  have d91_316 : hc_ad B316 91 = q289 := by rw [e316]; exact (hc_ads hB314.2.1 91).trans d91_314
  have d103_316 : hc_ad B316 103 = q294 := by rw [e316]; exact (hc_ads hB314.2.1 103).trans d103_314
  have d106_316 : hc_ad B316 106 = q300 := by rw [e316]; exact (hc_ads hB314.2.1 106).trans d106_314
  have d110_316 : hc_ad B316 110 = q306 := by rw [e316]; exact (hc_ads hB314.2.1 110).trans d110_314
  have hs316 : ∀ j, j < 4 → hp_at (hc_ad B316) B316 119 j (-1) := fun j hj => by rw [e316]; exact hp_setat hB314.2.1 (by decide) (hs314 j hj)
  have d113_316 : hc_ad B316 113 = q312 := by rw [e316]; exact (hc_ads hB314.2.1 113).trans dn314
  refine lv_aload_n hx hb hc_d_HopeBank_182 rfl (lv_at hl274 1 rfl) ?_
  refine hc_new (ci := 8) (fs := hc_Z_Tilting) (own := "HopeBank") (C := RX8) (T := TX8) (N := 6) (ty := tyX8) hx hb hown hTw hGs.1 hh315 rfl tyX8_ok hc_Zok_Tilting hc_w166 hc_w167 hc_w168 (Nat.le_of_ble_eq_true rfl) (Nat.le_of_ble_eq_true rfl) hc_d_HopeBank_183 (fun q317 Hhh318 hh318 => ?_)
  have hh318 : hc_H D s wd (B316 ++ [(q317, .inr (8, hc_Z_Tilting))]) _ _ := hh318
  refine lv_dup hx hb hc_d_HopeBank_186 rfl ?_
  refine lv_aload_n hx hb hc_d_HopeBank_187 rfl (lv_at hl274 1 rfl) ?_
  refine hc_getf (q0 := 0) (ci := 11) (k := 1) (v := .ref q249) (own := "HopeBank") (C := RX11) (T := TX11) (N := 12) hx hb hown hTw hGs.1 hh318 rfl (hc_gl hB316.2.1) (by decide) hc_w127 rfl hc_d_HopeBank_188 ?_
  refine lv_aload_n hx hb hc_d_HopeBank_191 rfl (lv_at hl274 1 rfl) ?_
  refine hc_getf (q0 := 0) (ci := 11) (k := 7) (v := .ref q294) (own := "HopeBank") (C := RX11) (T := TX11) (N := 12) hx hb hown hTw hGs.1 hh318 rfl (hc_gl hB316.2.1) (by decide) hc_w147 rfl hc_d_HopeBank_192 ?_
  refine lv_aload_n hx hb hc_d_HopeBank_195 rfl (lv_at hl274 1 rfl) ?_
  refine hc_getf (q0 := 0) (ci := 11) (k := 10) (v := .ref q312) (own := "HopeBank") (C := RX11) (T := TX11) (N := 12) hx hb hown hTw hGs.1 hh318 rfl (hc_gl hB316.2.1) (by decide) hc_w165 rfl hc_d_HopeBank_196 ?_
  refine hc_cI (nm := ⟨"HopeBank$Tilting", "<init>", "(LHopeBank$Town;LHopeBank$Sets;LHopeBank$Slots;)V"⟩) (bc := prog_10_method_1_code) (mL := 4) (b := q317) (As := [.ref q249, .ref q294, .ref q312]) (rest := [.ref q317, .ref a]) (fp := []) (U := hc_ad wd) hBd hGs hX hh318 hc_nofp (hc_Tilting (U := hc_ad wd) (n0 := 122) (ki := 121) (by rw [List.length_append, hB316.1]; rfl) ((hc_gr (n := 121) (i := 0) hB316.1).trans rfl)) hc_cd_Tilting hc_w168 hc_w169 hc_w170 rfl (by decide) ⟨(Nat.le_of_ble_eq_true rfl), (Nat.le_of_ble_eq_true rfl)⟩ (fun sig h => by cases h; rfl) hl274.1 rfl (Nat.le_of_ble_eq_true rfl) ⟨(Nat.le_of_ble_eq_true rfl), (Nat.le_of_ble_eq_true rfl)⟩ hc_d_HopeBank_199 (fun t319 w319 H319 locs319 hv319 hp319 hh319 => ?_)
  obtain ⟨b319, hb319⟩ := hp319 k (hk0.moved hv319)
  rw [hc_sR (n := 121) (i := 0) hB316.1, List.append_assoc] at hb319
  subst hb319
  have hh319 : hc_H D s wd (B316 ++ [(q317, .inr (8, hc_F_Tilting q249 q294 q312 b319)), (b319 0, .inl (k.1, 256, .inl (fun _ => 0))), (b319 1, .inl (k.1, 9, .inl (fun _ => 0)))]) _ _ := hh319
  obtain ⟨W320, eW320⟩ : ∃ B : va_W, B = B316 ++ [(q317, .inr (8, hc_F_Tilting q249 q294 q312 b319)), (b319 0, .inl (k.1, 256, .inl (fun _ => 0))), (b319 1, .inl (k.1, 9, .inl (fun _ => 0)))] := ⟨_, rfl⟩
  have g320_121 : W320[121]? = some (q317, .inr (8, hc_F_Tilting q249 q294 q312 b319)) := by rw [eW320]; exact (hc_gr (n := 121) (i := 0) hB316.1).trans rfl
  have d320_121 : hc_ad W320 121 = q317 := by unfold hc_ad; rw [g320_121]; rfl
  have g320_122 : W320[122]? = some (b319 0, .inl (k.1, 256, .inl (fun _ => 0))) := by rw [eW320]; exact (hc_gr (n := 121) (i := 1) hB316.1).trans rfl
  have d320_122 : hc_ad W320 122 = b319 0 := by unfold hc_ad; rw [g320_122]; rfl
  have g320_123 : W320[123]? = some (b319 1, .inl (k.1, 9, .inl (fun _ => 0))) := by rw [eW320]; exact (hc_gr (n := 121) (i := 2) hB316.1).trans rfl
  have d320_123 : hc_ad W320 123 = b319 1 := by unfold hc_ad; rw [g320_123]; rfl
  have d320_1 : hc_ad W320 1 = q243 := by rw [eW320]; exact (hc_adl (by rw [hB316.1]; decide)).trans d1_316
  have d320_19 : hc_ad W320 19 = q249 := by rw [eW320]; exact (hc_adl (by rw [hB316.1]; decide)).trans d19_316
  have d320_34 : hc_ad W320 34 = q255 := by rw [eW320]; exact (hc_adl (by rw [hB316.1]; decide)).trans d34_316
  have d320_80 : hc_ad W320 80 = q278 := by rw [eW320]; exact (hc_adl (by rw [hB316.1]; decide)).trans d80_316
  have d320_90 : hc_ad W320 90 = q283 := by rw [eW320]; exact (hc_adl (by rw [hB316.1]; decide)).trans d90_316
  have d320_91 : hc_ad W320 91 = q289 := by rw [eW320]; exact (hc_adl (by rw [hB316.1]; decide)).trans d91_316
  have d320_103 : hc_ad W320 103 = q294 := by rw [eW320]; exact (hc_adl (by rw [hB316.1]; decide)).trans d103_316
  have d320_106 : hc_ad W320 106 = q300 := by rw [eW320]; exact (hc_adl (by rw [hB316.1]; decide)).trans d106_316
  have d320_110 : hc_ad W320 110 = q306 := by rw [eW320]; exact (hc_adl (by rw [hB316.1]; decide)).trans d110_316
  have d320_113 : hc_ad W320 113 = q312 := by rw [eW320]; exact (hc_adl (by rw [hB316.1]; decide)).trans d113_316
  have t320_123 : hb_wd hb_KT s (hc_ad W320) W320 [123] := hc_wdc (c := 123) (kd := (1, 0, 9, [(0, (-2147483648), 2147483647)])) rfl (hc_at g320_123) (hc_cellI hk0.1 (fun _ _ => ⟨by decide, by decide⟩)) (by decide) hc_wdn
  have t320_122 : hb_wd hb_KT s (hc_ad W320) W320 [122, 123] := hc_wdc (c := 122) (kd := (1, 0, 256, [(0, (-2147483648), 2147483647)])) rfl (hc_at g320_122) (hc_cellI hk0.1 (fun _ _ => ⟨by decide, by decide⟩)) (by decide) t320_123
  have t320_121 : hb_wd hb_KT s (hc_ad W320) W320 [121, 122, 123] := hc_wdc (c := 121) (kd := (0, 8, 6, [(2, 19, 0), (2, 103, 0), (2, 113, 0), (2, 122, 0), (2, 123, 0), (0, (-2147483648), 2147483647)])) rfl (hc_at g320_121) (hc_cellO rfl ⟨congrArg Value.ref (d320_19).symm, congrArg Value.ref (d320_103).symm, congrArg Value.ref (d320_113).symm, congrArg Value.ref (d320_122).symm, congrArg Value.ref (d320_123).symm, ⟨0, rfl, by decide, by decide⟩, trivial⟩) (by decide) t320_122
  have hs320 : ∀ j, j < 4 → hp_at (hc_ad W320) W320 119 j (-1) := fun j hj => by rw [eW320]; exact hp_appat (hs316 j hj)
  have hT320 := t320_121
  rw [eW320] at hT320
  have hB320 := hc_Bapp (m := 3) hB316 (by decide +kernel) rfl (by rw [hwl]; decide) hT320
  rw [← eW320] at hB320 hh319
  have hF320 : hp_all (hc_ad W320) W320 [(119, 0, (-1)), (119, 1, (-1)), (119, 2, (-1)), (119, 3, (-1)), (19, 7, 0), (20, 2, 0), (22, 2, 0), (24, 2, 0), (26, 2, 0), (28, 2, 0), (30, 2, 0), (1, 1, 0), (1, 3, 0), (1, 4, (-1))] := (by rw [eW320]; exact hp_allapp hF316)
  refine hc_putF (q0 := 0) (ci := 11) (k := 11) (own := "HopeBank") (C := RX11) (T := TX11) (N := 12) (t := tyX11 11) hx hb hown hTw hGs.1 hin hh319 rfl hB320.2.1 (by decide) hc_w171 rfl rfl (tyX11_ok 11 (by decide)) rfl rfl (Nat.le_of_ble_eq_true rfl) hc_d_HopeBank_202 rfl (fun Hhh321 locshh321 hh321 => ?_)
  have hh321 : hc_H D s wd (W320.set 0 (a, .inr (11, [.ref q243, .ref q249, .ref q255, .int (nI 0), .ref q278, .ref q283, .ref q289, .ref q294, .ref q300, .ref q306, .ref q312, .ref q317]))) _ _ := hh321
  obtain ⟨B322, e322⟩ : ∃ B : va_W, B = W320.set 0 (a, .inr (11, [.ref q243, .ref q249, .ref q255, .int (nI 0), .ref q278, .ref q283, .ref q289, .ref q294, .ref q300, .ref q306, .ref q312, .ref q317])) := ⟨_, rfl⟩
  have hB322 := hc_Bput (fs' := [.ref q243, .ref q249, .ref q255, .int (nI 0), .ref q278, .ref q283, .ref q289, .ref q294, .ref q300, .ref q306, .ref q312, .ref q317]) hB320 (by decide +kernel) (by decide +kernel)
  rw [← e322] at hB322 hh321
  have hF322 : hp_all (hc_ad B322) B322 [(119, 0, (-1)), (119, 1, (-1)), (119, 2, (-1)), (119, 3, (-1)), (19, 7, 0), (20, 2, 0), (22, 2, 0), (24, 2, 0), (26, 2, 0), (28, 2, 0), (30, 2, 0), (1, 1, 0), (1, 3, 0), (1, 4, (-1))] := (by rw [e322]; exact hp_allset hB320.2.1 (by decide +kernel) hF320)
  have d1_322 : hc_ad B322 1 = q243 := by rw [e322]; exact (hc_ads hB320.2.1 1).trans d320_1
  have d19_322 : hc_ad B322 19 = q249 := by rw [e322]; exact (hc_ads hB320.2.1 19).trans d320_19
  have d34_322 : hc_ad B322 34 = q255 := by rw [e322]; exact (hc_ads hB320.2.1 34).trans d320_34
  have d80_322 : hc_ad B322 80 = q278 := by rw [e322]; exact (hc_ads hB320.2.1 80).trans d320_80
  have d90_322 : hc_ad B322 90 = q283 := by rw [e322]; exact (hc_ads hB320.2.1 90).trans d320_90
  have d91_322 : hc_ad B322 91 = q289 := by rw [e322]; exact (hc_ads hB320.2.1 91).trans d320_91
  have d103_322 : hc_ad B322 103 = q294 := by rw [e322]; exact (hc_ads hB320.2.1 103).trans d320_103
  have d106_322 : hc_ad B322 106 = q300 := by rw [e322]; exact (hc_ads hB320.2.1 106).trans d320_106
  have d110_322 : hc_ad B322 110 = q306 := by rw [e322]; exact (hc_ads hB320.2.1 110).trans d320_110
  have d113_322 : hc_ad B322 113 = q312 := by rw [e322]; exact (hc_ads hB320.2.1 113).trans d320_113
  have hs322 : ∀ j, j < 4 → hp_at (hc_ad B322) B322 119 j (-1) := fun j hj => by rw [e322]; exact hp_setat hB320.2.1 (by decide) (hs320 j hj)
  have d121_322 : hc_ad B322 121 = q317 := by rw [e322]; exact (hc_ads hB320.2.1 121).trans d320_121
  refine W.widen (k := 123) (n := 4681) (by omega) (by omega) ?_
  have hfin : hp_all (hc_ad B322) B322 hp_FC := hp_allc (c := 0) (k := 3) (v := 0) ⟨_, _, hc_at hB322.2.1, rfl, by decide⟩ hF322
  exact hc_ret hx hb hret hlocks hh321 hc_d_HopeBank_205 (fun t hv => ⟨hc_Bend hB322 hv (kd := (0, 11, 12, [(2, 1, 0), (2, 19, 0), (2, 34, 0), (0, (-2147483648), 2147483647), (2, 80, 0), (2, 90, 0), (2, 91, 0), (2, 103, 0), (2, 106, 0), (2, 110, 0), (2, 113, 0), (2, 121, 0)])) rfl (hc_cellO rfl ⟨congrArg Value.ref (d1_322).symm, congrArg Value.ref (d19_322).symm, congrArg Value.ref (d34_322).symm, ⟨(nI 0), rfl, by decide, by decide⟩, congrArg Value.ref (d80_322).symm, congrArg Value.ref (d90_322).symm, congrArg Value.ref (d91_322).symm, congrArg Value.ref (d103_322).symm, congrArg Value.ref (d106_322).symm, congrArg Value.ref (d110_322).symm, congrArg Value.ref (d113_322).symm, congrArg Value.ref (d121_322).symm, trivial⟩) (by decide) (by decide +kernel), hfin⟩)
