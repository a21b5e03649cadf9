/-! hb_: length and charAt of texts, by hand -/
abbrev hb_yCo : hbY := (⟨"java/lang/String", "coder", "()B"⟩, prog_17_method_152_code, 1, (some .byte))
set_option maxRecDepth 100000 in
theorem hb_cdCo : Cond.code ⟨"java/lang/String", "coder", "()B"⟩ prog_17_method_152_code 1 (some .byte) ∈ lw_tbl.filter hb_gdw := List.mem_filter.mpr ⟨List.mem_of_getElem? (i := 621) rfl, rfl⟩
def hb_INCo : List (Nat × Instr × Nat) := [(0, .getstatic 38, 3), (3, .ifCond .eq 10, 3), (6, .aload_n 0, 1), (7, .getfield 15, 3), (10, .goto 4, 3), (13, .iconst 1, 1), (14, .ireturn, 1)]
theorem hb_dCo : ∀ w ∈ hb_INCo, decode prog_17_method_152_code w.1 = .ok w.2 := hb_dec_ok (by decide +kernel)
theorem hb_dCo_0 : decode prog_17_method_152_code 0 = .ok (.getstatic 38, 3) := hb_dCo (0, .getstatic 38, 3) (List.mem_of_getElem? (i := 0) rfl)
theorem hb_dCo_1 : decode prog_17_method_152_code 3 = .ok (.ifCond .eq 10, 3) := hb_dCo (3, .ifCond .eq 10, 3) (List.mem_of_getElem? (i := 1) rfl)
theorem hb_dCo_2 : decode prog_17_method_152_code 6 = .ok (.aload_n 0, 1) := hb_dCo (6, .aload_n 0, 1) (List.mem_of_getElem? (i := 2) rfl)
theorem hb_dCo_3 : decode prog_17_method_152_code 7 = .ok (.getfield 15, 3) := hb_dCo (7, .getfield 15, 3) (List.mem_of_getElem? (i := 3) rfl)
theorem hb_dCo_4 : decode prog_17_method_152_code 10 = .ok (.goto 4, 3) := hb_dCo (10, .goto 4, 3) (List.mem_of_getElem? (i := 4) rfl)
theorem hb_dCo_5 : decode prog_17_method_152_code 13 = .ok (.iconst 1, 1) := hb_dCo (13, .iconst 1, 1) (List.mem_of_getElem? (i := 5) rfl)
theorem hb_dCo_6 : decode prog_17_method_152_code 14 = .ok (.ireturn, 1) := hb_dCo (14, .ireturn, 1) (List.mem_of_getElem? (i := 6) rfl)
abbrev hb_yIs : hbY := (⟨"java/lang/String", "isLatin1", "()Z"⟩, prog_17_method_154_code, 1, (some .boolean))
set_option maxRecDepth 100000 in
theorem hb_cdIs : Cond.code ⟨"java/lang/String", "isLatin1", "()Z"⟩ prog_17_method_154_code 1 (some .boolean) ∈ lw_tbl.filter hb_gdw := List.mem_filter.mpr ⟨List.mem_of_getElem? (i := 631) rfl, rfl⟩
def hb_INIs : List (Nat × Instr × Nat) := [(0, .getstatic 38, 3), (3, .ifCond .eq 14, 3), (6, .aload_n 0, 1), (7, .getfield 15, 3), (10, .ifCond .ne 7, 3), (13, .iconst 1, 1), (14, .goto 4, 3), (17, .iconst 0, 1), (18, .ireturn, 1)]
theorem hb_dIs : ∀ w ∈ hb_INIs, decode prog_17_method_154_code w.1 = .ok w.2 := hb_dec_ok (by decide +kernel)
theorem hb_dIs_0 : decode prog_17_method_154_code 0 = .ok (.getstatic 38, 3) := hb_dIs (0, .getstatic 38, 3) (List.mem_of_getElem? (i := 0) rfl)
theorem hb_dIs_1 : decode prog_17_method_154_code 3 = .ok (.ifCond .eq 14, 3) := hb_dIs (3, .ifCond .eq 14, 3) (List.mem_of_getElem? (i := 1) rfl)
theorem hb_dIs_2 : decode prog_17_method_154_code 6 = .ok (.aload_n 0, 1) := hb_dIs (6, .aload_n 0, 1) (List.mem_of_getElem? (i := 2) rfl)
theorem hb_dIs_3 : decode prog_17_method_154_code 7 = .ok (.getfield 15, 3) := hb_dIs (7, .getfield 15, 3) (List.mem_of_getElem? (i := 3) rfl)
theorem hb_dIs_4 : decode prog_17_method_154_code 10 = .ok (.ifCond .ne 7, 3) := hb_dIs (10, .ifCond .ne 7, 3) (List.mem_of_getElem? (i := 4) rfl)
theorem hb_dIs_5 : decode prog_17_method_154_code 13 = .ok (.iconst 1, 1) := hb_dIs (13, .iconst 1, 1) (List.mem_of_getElem? (i := 5) rfl)
theorem hb_dIs_6 : decode prog_17_method_154_code 14 = .ok (.goto 4, 3) := hb_dIs (14, .goto 4, 3) (List.mem_of_getElem? (i := 6) rfl)
theorem hb_dIs_7 : decode prog_17_method_154_code 17 = .ok (.iconst 0, 1) := hb_dIs (17, .iconst 0, 1) (List.mem_of_getElem? (i := 7) rfl)
theorem hb_dIs_8 : decode prog_17_method_154_code 18 = .ok (.ireturn, 1) := hb_dIs (18, .ireturn, 1) (List.mem_of_getElem? (i := 8) rfl)
abbrev hb_yPc : hbY := (⟨"jdk/internal/util/Preconditions", "checkIndex", "(IILjava/util/function/BiFunction;)I"⟩, prog_22_method_11_code, 3, (some .int))
set_option maxRecDepth 100000 in
theorem hb_cdPc : Cond.code ⟨"jdk/internal/util/Preconditions", "checkIndex", "(IILjava/util/function/BiFunction;)I"⟩ prog_22_method_11_code 3 (some .int) ∈ lw_tbl.filter hb_gdw := List.mem_filter.mpr ⟨List.mem_of_getElem? (i := 642) rfl, rfl⟩
def hb_INPc : List (Nat × Instr × Nat) := [(0, .iload_n 0, 1), (1, .ifCond .lt 8, 3), (4, .iload_n 0, 1), (5, .iload_n 1, 1), (6, .if_icmp .lt 10, 3), (9, .aload_n 2, 1), (10, .iload_n 0, 1), (11, .iload_n 1, 1), (12, .invokestatic 95, 3), (15, .athrow, 1), (16, .iload_n 0, 1), (17, .ireturn, 1)]
theorem hb_dPc : ∀ w ∈ hb_INPc, decode prog_22_method_11_code w.1 = .ok w.2 := hb_dec_ok (by decide +kernel)
theorem hb_dPc_0 : decode prog_22_method_11_code 0 = .ok (.iload_n 0, 1) := hb_dPc (0, .iload_n 0, 1) (List.mem_of_getElem? (i := 0) rfl)
theorem hb_dPc_1 : decode prog_22_method_11_code 1 = .ok (.ifCond .lt 8, 3) := hb_dPc (1, .ifCond .lt 8, 3) (List.mem_of_getElem? (i := 1) rfl)
theorem hb_dPc_2 : decode prog_22_method_11_code 4 = .ok (.iload_n 0, 1) := hb_dPc (4, .iload_n 0, 1) (List.mem_of_getElem? (i := 2) rfl)
theorem hb_dPc_3 : decode prog_22_method_11_code 5 = .ok (.iload_n 1, 1) := hb_dPc (5, .iload_n 1, 1) (List.mem_of_getElem? (i := 3) rfl)
theorem hb_dPc_4 : decode prog_22_method_11_code 6 = .ok (.if_icmp .lt 10, 3) := hb_dPc (6, .if_icmp .lt 10, 3) (List.mem_of_getElem? (i := 4) rfl)
theorem hb_dPc_5 : decode prog_22_method_11_code 9 = .ok (.aload_n 2, 1) := hb_dPc (9, .aload_n 2, 1) (List.mem_of_getElem? (i := 5) rfl)
theorem hb_dPc_6 : decode prog_22_method_11_code 10 = .ok (.iload_n 0, 1) := hb_dPc (10, .iload_n 0, 1) (List.mem_of_getElem? (i := 6) rfl)
theorem hb_dPc_7 : decode prog_22_method_11_code 11 = .ok (.iload_n 1, 1) := hb_dPc (11, .iload_n 1, 1) (List.mem_of_getElem? (i := 7) rfl)
theorem hb_dPc_8 : decode prog_22_method_11_code 12 = .ok (.invokestatic 95, 3) := hb_dPc (12, .invokestatic 95, 3) (List.mem_of_getElem? (i := 8) rfl)
theorem hb_dPc_9 : decode prog_22_method_11_code 15 = .ok (.athrow, 1) := hb_dPc (15, .athrow, 1) (List.mem_of_getElem? (i := 9) rfl)
theorem hb_dPc_10 : decode prog_22_method_11_code 16 = .ok (.iload_n 0, 1) := hb_dPc (16, .iload_n 0, 1) (List.mem_of_getElem? (i := 10) rfl)
theorem hb_dPc_11 : decode prog_22_method_11_code 17 = .ok (.ireturn, 1) := hb_dPc (17, .ireturn, 1) (List.mem_of_getElem? (i := 11) rfl)
abbrev hb_yCi : hbY := (⟨"java/lang/String", "checkIndex", "(II)V"⟩, prog_17_method_155_code, 2, none)
set_option maxRecDepth 100000 in
theorem hb_cdCi : Cond.code ⟨"java/lang/String", "checkIndex", "(II)V"⟩ prog_17_method_155_code 2 none ∈ lw_tbl.filter hb_gdw := List.mem_filter.mpr ⟨List.mem_of_getElem? (i := 637) rfl, rfl⟩
def hb_INCi : List (Nat × Instr × Nat) := [(0, .iload_n 0, 1), (1, .iload_n 1, 1), (2, .getstatic 1053, 3), (5, .invokestatic 1059, 3), (8, .pop, 1), (9, .return_, 1)]
theorem hb_dCi : ∀ w ∈ hb_INCi, decode prog_17_method_155_code w.1 = .ok w.2 := hb_dec_ok (by decide +kernel)
theorem hb_dCi_0 : decode prog_17_method_155_code 0 = .ok (.iload_n 0, 1) := hb_dCi (0, .iload_n 0, 1) (List.mem_of_getElem? (i := 0) rfl)
theorem hb_dCi_1 : decode prog_17_method_155_code 1 = .ok (.iload_n 1, 1) := hb_dCi (1, .iload_n 1, 1) (List.mem_of_getElem? (i := 1) rfl)
theorem hb_dCi_2 : decode prog_17_method_155_code 2 = .ok (.getstatic 1053, 3) := hb_dCi (2, .getstatic 1053, 3) (List.mem_of_getElem? (i := 2) rfl)
theorem hb_dCi_3 : decode prog_17_method_155_code 5 = .ok (.invokestatic 1059, 3) := hb_dCi (5, .invokestatic 1059, 3) (List.mem_of_getElem? (i := 3) rfl)
theorem hb_dCi_4 : decode prog_17_method_155_code 8 = .ok (.pop, 1) := hb_dCi (8, .pop, 1) (List.mem_of_getElem? (i := 4) rfl)
theorem hb_dCi_5 : decode prog_17_method_155_code 9 = .ok (.return_, 1) := hb_dCi (9, .return_, 1) (List.mem_of_getElem? (i := 5) rfl)
abbrev hb_yLc : hbY := (⟨"java/lang/StringLatin1", "charAt", "([BI)C"⟩, prog_18_method_2_code, 2, (some .char))
set_option maxRecDepth 100000 in
theorem hb_cdLc : Cond.code ⟨"java/lang/StringLatin1", "charAt", "([BI)C"⟩ prog_18_method_2_code 2 (some .char) ∈ lw_tbl.filter hb_gdw := List.mem_filter.mpr ⟨List.mem_of_getElem? (i := 634) rfl, rfl⟩
def hb_INLc : List (Nat × Instr × Nat) := [(0, .iload_n 1, 1), (1, .aload_n 0, 1), (2, .arraylength, 1), (3, .invokestatic 9, 3), (6, .aload_n 0, 1), (7, .iload_n 1, 1), (8, .baload, 1), (9, .sipush 255, 3), (12, .iand, 1), (13, .i2c, 1), (14, .ireturn, 1)]
theorem hb_dLc : ∀ w ∈ hb_INLc, decode prog_18_method_2_code w.1 = .ok w.2 := hb_dec_ok (by decide +kernel)
theorem hb_dLc_0 : decode prog_18_method_2_code 0 = .ok (.iload_n 1, 1) := hb_dLc (0, .iload_n 1, 1) (List.mem_of_getElem? (i := 0) rfl)
theorem hb_dLc_1 : decode prog_18_method_2_code 1 = .ok (.aload_n 0, 1) := hb_dLc (1, .aload_n 0, 1) (List.mem_of_getElem? (i := 1) rfl)
theorem hb_dLc_2 : decode prog_18_method_2_code 2 = .ok (.arraylength, 1) := hb_dLc (2, .arraylength, 1) (List.mem_of_getElem? (i := 2) rfl)
theorem hb_dLc_3 : decode prog_18_method_2_code 3 = .ok (.invokestatic 9, 3) := hb_dLc (3, .invokestatic 9, 3) (List.mem_of_getElem? (i := 3) rfl)
theorem hb_dLc_4 : decode prog_18_method_2_code 6 = .ok (.aload_n 0, 1) := hb_dLc (6, .aload_n 0, 1) (List.mem_of_getElem? (i := 4) rfl)
theorem hb_dLc_5 : decode prog_18_method_2_code 7 = .ok (.iload_n 1, 1) := hb_dLc (7, .iload_n 1, 1) (List.mem_of_getElem? (i := 5) rfl)
theorem hb_dLc_6 : decode prog_18_method_2_code 8 = .ok (.baload, 1) := hb_dLc (8, .baload, 1) (List.mem_of_getElem? (i := 6) rfl)
theorem hb_dLc_7 : decode prog_18_method_2_code 9 = .ok (.sipush 255, 3) := hb_dLc (9, .sipush 255, 3) (List.mem_of_getElem? (i := 7) rfl)
theorem hb_dLc_8 : decode prog_18_method_2_code 12 = .ok (.iand, 1) := hb_dLc (12, .iand, 1) (List.mem_of_getElem? (i := 8) rfl)
theorem hb_dLc_9 : decode prog_18_method_2_code 13 = .ok (.i2c, 1) := hb_dLc (13, .i2c, 1) (List.mem_of_getElem? (i := 9) rfl)
theorem hb_dLc_10 : decode prog_18_method_2_code 14 = .ok (.ireturn, 1) := hb_dLc (14, .ireturn, 1) (List.mem_of_getElem? (i := 10) rfl)
abbrev hb_yLn : hbY := (⟨"java/lang/String", "length", "()I"⟩, prog_17_method_54_code, 1, (some .int))
set_option maxRecDepth 100000 in
theorem hb_cdLn : Cond.code ⟨"java/lang/String", "length", "()I"⟩ prog_17_method_54_code 1 (some .int) ∈ lw_tbl.filter hb_gdw := List.mem_filter.mpr ⟨List.mem_of_getElem? (i := 617) rfl, rfl⟩
def hb_INLn : List (Nat × Instr × Nat) := [(0, .aload_n 0, 1), (1, .getfield 9, 3), (4, .arraylength, 1), (5, .aload_n 0, 1), (6, .invokevirtual 335, 3), (9, .ishr, 1), (10, .ireturn, 1)]
theorem hb_dLn : ∀ w ∈ hb_INLn, decode prog_17_method_54_code w.1 = .ok w.2 := hb_dec_ok (by decide +kernel)
theorem hb_dLn_0 : decode prog_17_method_54_code 0 = .ok (.aload_n 0, 1) := hb_dLn (0, .aload_n 0, 1) (List.mem_of_getElem? (i := 0) rfl)
theorem hb_dLn_1 : decode prog_17_method_54_code 1 = .ok (.getfield 9, 3) := hb_dLn (1, .getfield 9, 3) (List.mem_of_getElem? (i := 1) rfl)
theorem hb_dLn_2 : decode prog_17_method_54_code 4 = .ok (.arraylength, 1) := hb_dLn (4, .arraylength, 1) (List.mem_of_getElem? (i := 2) rfl)
theorem hb_dLn_3 : decode prog_17_method_54_code 5 = .ok (.aload_n 0, 1) := hb_dLn (5, .aload_n 0, 1) (List.mem_of_getElem? (i := 3) rfl)
theorem hb_dLn_4 : decode prog_17_method_54_code 6 = .ok (.invokevirtual 335, 3) := hb_dLn (6, .invokevirtual 335, 3) (List.mem_of_getElem? (i := 4) rfl)
theorem hb_dLn_5 : decode prog_17_method_54_code 9 = .ok (.ishr, 1) := hb_dLn (9, .ishr, 1) (List.mem_of_getElem? (i := 5) rfl)
theorem hb_dLn_6 : decode prog_17_method_54_code 10 = .ok (.ireturn, 1) := hb_dLn (10, .ireturn, 1) (List.mem_of_getElem? (i := 6) rfl)
abbrev hb_yCh : hbY := (⟨"java/lang/String", "charAt", "(I)C"⟩, prog_17_method_56_code, 2, (some .char))
set_option maxRecDepth 100000 in
theorem hb_cdCh : Cond.code ⟨"java/lang/String", "charAt", "(I)C"⟩ prog_17_method_56_code 2 (some .char) ∈ lw_tbl.filter hb_gdw := List.mem_filter.mpr ⟨List.mem_of_getElem? (i := 627) rfl, rfl⟩
def hb_INCh : List (Nat × Instr × Nat) := [(0, .aload_n 0, 1), (1, .invokevirtual 492, 3), (4, .ifCond .eq 12, 3), (7, .aload_n 0, 1), (8, .getfield 9, 3), (11, .iload_n 1, 1), (12, .invokestatic 495, 3), (15, .ireturn, 1), (16, .aload_n 0, 1), (17, .getfield 9, 3), (20, .iload_n 1, 1), (21, .invokestatic 498, 3), (24, .ireturn, 1)]
theorem hb_dCh : ∀ w ∈ hb_INCh, decode prog_17_method_56_code w.1 = .ok w.2 := hb_dec_ok (by decide +kernel)
theorem hb_dCh_0 : decode prog_17_method_56_code 0 = .ok (.aload_n 0, 1) := hb_dCh (0, .aload_n 0, 1) (List.mem_of_getElem? (i := 0) rfl)
theorem hb_dCh_1 : decode prog_17_method_56_code 1 = .ok (.invokevirtual 492, 3) := hb_dCh (1, .invokevirtual 492, 3) (List.mem_of_getElem? (i := 1) rfl)
theorem hb_dCh_2 : decode prog_17_method_56_code 4 = .ok (.ifCond .eq 12, 3) := hb_dCh (4, .ifCond .eq 12, 3) (List.mem_of_getElem? (i := 2) rfl)
theorem hb_dCh_3 : decode prog_17_method_56_code 7 = .ok (.aload_n 0, 1) := hb_dCh (7, .aload_n 0, 1) (List.mem_of_getElem? (i := 3) rfl)
theorem hb_dCh_4 : decode prog_17_method_56_code 8 = .ok (.getfield 9, 3) := hb_dCh (8, .getfield 9, 3) (List.mem_of_getElem? (i := 4) rfl)
theorem hb_dCh_5 : decode prog_17_method_56_code 11 = .ok (.iload_n 1, 1) := hb_dCh (11, .iload_n 1, 1) (List.mem_of_getElem? (i := 5) rfl)
theorem hb_dCh_6 : decode prog_17_method_56_code 12 = .ok (.invokestatic 495, 3) := hb_dCh (12, .invokestatic 495, 3) (List.mem_of_getElem? (i := 6) rfl)
theorem hb_dCh_7 : decode prog_17_method_56_code 15 = .ok (.ireturn, 1) := hb_dCh (15, .ireturn, 1) (List.mem_of_getElem? (i := 7) rfl)
theorem hb_dCh_8 : decode prog_17_method_56_code 16 = .ok (.aload_n 0, 1) := hb_dCh (16, .aload_n 0, 1) (List.mem_of_getElem? (i := 8) rfl)
theorem hb_dCh_9 : decode prog_17_method_56_code 17 = .ok (.getfield 9, 3) := hb_dCh (17, .getfield 9, 3) (List.mem_of_getElem? (i := 9) rfl)
theorem hb_dCh_10 : decode prog_17_method_56_code 20 = .ok (.iload_n 1, 1) := hb_dCh (20, .iload_n 1, 1) (List.mem_of_getElem? (i := 10) rfl)
theorem hb_dCh_11 : decode prog_17_method_56_code 21 = .ok (.invokestatic 498, 3) := hb_dCh (21, .invokestatic 498, 3) (List.mem_of_getElem? (i := 11) rfl)
theorem hb_dCh_12 : decode prog_17_method_56_code 24 = .ok (.ireturn, 1) := hb_dCh (24, .ireturn, 1) (List.mem_of_getElem? (i := 12) rfl)

theorem hb_wm {i : Nat} {w : Cond} (h : hb_wi lw_tbl i w = true) : w ∈ hb_G.2.1.1 := hb_wi_ok h
theorem hb_blPS {A : Nat → Prop} {S : Nat → Nat} {H : Heap} {vs : List Value} : FrameBlind (va_Pc vs (fun St => St.heap = H ∧ hb_PS A S St)) := by
  intro a St g mk h
  obtain ⟨h1, h2, h3⟩ := h
  exact ⟨h1, h2, hb_GokG.2.2.1 _ _ St (St.calling g mk a) rfl rfl h3⟩
theorem hb_mvPS {A : Nat → Prop} {S : Nat → Nat} {s U : State} (h : hb_PS A S s) (hU : U.heap = s.heap) (hW : s.WarmedH U.vm) : hb_PS A S U := hb_GokG.2.1 A S s U hW (fun q _ _ => by rw [hU]) h
section HBTX
variable {l : Launch} {A : Nat → Prop} {S : Nat → Nat} {k : Nat} {H0 : Heap}
theorem hb_tCo (hk : k < 18) : hb_MR hb_G l hb_yCo 0 0 H0 (hb_PS A S) [.ref (S k)] (some (.int 0)) := by
  refine hb_Renter (by decide) (Nat.le_of_ble_eq_true rfl) ?_
  intro p e s m below meth c ls hBd hh hps hl
  obtain ⟨hx, hb, hml, hown, hlocks, hret, hTw⟩ := hBd
  obtain ⟨⟨adV, hv⟩, -, hz, -⟩ := id hps
  obtain ⟨r1, r2⟩ := hb_Rend (args := [Value.ref (S k)].toArray) (r := some (.int 0)) hh
  refine va_gets (A := A) hx hb hz va_S.rf hown (hTw _ (hb_wm (i := 622) (by decide +kernel))) (fun _ h => h) hb_dCo_0 ?_
  refine hb_row_if (tgt := 13) hx hb hb_dCo_1 (by decide) (fun q => absurd (show (1 : Int32).toInt = 0 from q) (by decide)) (fun _ => ?_)
  refine lv_aload_n hx hb hb_dCo_2 rfl (lv_at hl 0 rfl) ?_
  refine vk_getf (A := A) hx hb (hv.1 k hk).2.1 va_S.rf hown (hTw _ (hb_wm (i := 2307) (by decide +kernel))) (fun _ h => h) hb_dCo_3 ?_
  refine lv_goto (tgt := 14) hx hb hb_dCo_4 (by decide) ?_
  exact W.zret hx hb hret (by decide) r1 r2 hb_dCo_6 hlocks
theorem hb_tIs (hk : k < 18) : hb_MR hb_G l hb_yIs 0 0 H0 (hb_PS A S) [.ref (S k)] (some (.int 1)) := by
  refine hb_Renter (by decide) (Nat.le_of_ble_eq_true rfl) ?_
  intro p e s m below meth c ls hBd hh hps hl
  obtain ⟨hx, hb, hml, hown, hlocks, hret, hTw⟩ := hBd
  obtain ⟨⟨adV, hv⟩, -, hz, -⟩ := id hps
  obtain ⟨r1, r2⟩ := hb_Rend (args := [Value.ref (S k)].toArray) (r := some (.int 1)) hh
  refine va_gets (A := A) hx hb hz va_S.rf hown (hTw _ (hb_wm (i := 622) (by decide +kernel))) (fun _ h => h) hb_dIs_0 ?_
  refine hb_row_if (tgt := 17) hx hb hb_dIs_1 (by decide) (fun q => absurd (show (1 : Int32).toInt = 0 from q) (by decide)) (fun _ => ?_)
  refine lv_aload_n hx hb hb_dIs_2 rfl (lv_at hl 0 rfl) ?_
  refine vk_getf (A := A) hx hb (hv.1 k hk).2.1 va_S.rf hown (hTw _ (hb_wm (i := 2307) (by decide +kernel))) (fun _ h => h) hb_dIs_3 ?_
  refine hb_row_if (tgt := 17) hx hb hb_dIs_4 (by decide) (fun q => absurd (show (0 : Int32).toInt < 0 ∨ 0 < (0 : Int32).toInt from q) (by decide)) (fun _ => ?_)
  refine lv_iconst (v := 1) hx hb hb_dIs_5 (by decide) ?_
  refine lv_goto (tgt := 18) hx hb hb_dIs_6 (by decide) ?_
  exact W.zret hx hb hret (by decide) r1 r2 hb_dIs_8 hlocks
theorem hb_tPc {i n : Int32} {f : Value} (hf : f = .null ∨ ∃ t, f = .ref t) (h0 : 0 ≤ i.toInt) (hn : i.toInt < n.toInt) : hb_MR hb_G l hb_yPc 0 0 H0 (hb_PS A S) [.int i, .int n, f] (some (.int i)) := by
  refine hb_Renter (by decide) (by rcases hf with rfl | ⟨t, rfl⟩ <;> exact Nat.le_of_ble_eq_true rfl) ?_
  intro p e s m below meth c ls hBd hh hps hl
  obtain ⟨hx, hb, hml, hown, hlocks, hret, hTw⟩ := hBd
  obtain ⟨r1, r2⟩ := hb_Rend (args := [Value.int i, Value.int n, f].toArray) (r := some (.int i)) hh
  refine lv_iload_n hx hb hb_dPc_0 rfl (lv_at hl 0 rfl) ?_
  refine hb_row_if (tgt := 9) hx hb hb_dPc_1 (by decide) (fun q => absurd (show i.toInt < 0 from q) (by omega)) (fun _ => ?_)
  refine lv_iload_n hx hb hb_dPc_2 rfl (lv_at hl 0 rfl) ?_
  refine lv_iload_n hx hb hb_dPc_3 rfl (lv_at hl 1 rfl) ?_
  refine hb_row_icmp (tgt := 16) hx hb hb_dPc_4 (by decide) (fun _ => ?_) (fun q => absurd (show n.toInt ≤ i.toInt from q) (by omega))
  refine lv_iload_n hx hb hb_dPc_10 rfl (lv_at hl 0 rfl) ?_
  exact W.iret hx hb hret r1 r2 hb_dPc_11 hlocks
theorem hb_tCi {i n : Int32} (h0 : 0 ≤ i.toInt) (hn : i.toInt < n.toInt) : hb_MR hb_G l hb_yCi 1 22 H0 (hb_PS A S) [.int i, .int n] none := by
  refine hb_Renter (by decide) (Nat.le_of_ble_eq_true rfl) ?_
  intro p e s m below meth c ls hBd hh hps hl
  obtain ⟨hx, hb, hml, hown, hlocks, hret, hTw⟩ := hBd
  obtain ⟨r1, r2⟩ := hb_Rend (args := [Value.int i, Value.int n].toArray) (r := none) hh
  refine lv_iload_n hx hb hb_dCi_0 rfl (lv_at hl 0 rfl) ?_
  refine lv_iload_n hx hb hb_dCi_1 rfl (lv_at hl 1 rfl) ?_
  have go : ∀ f : Value, (f = .null ∨ ∃ t, f = .ref t) → va_Z "jdk/internal/util/Preconditions" "SIOOBE_FORMATTER" "Ljava/util/function/BiFunction;" f A s s.heap → W p l e (hb_rmF 1 22) s m ([Value.int i, Value.int n] : List Value).toArray below meth c s.heap [] 0 0 (MQ below (hb_RO H0 none) ([Value.int i, Value.int n] : List Value).toArray s 0 0 (fun _ => False)) (F0 m 2 ls [.int n, .int i]) := by
    intro f hf hz
    refine va_gets (A := A) hx hb hz va_S.rf hown (hTw _ (hb_wm (i := 638) (by decide +kernel))) (fun _ h => h) hb_dCi_2 ?_
    refine hb_RcS (y := hb_yPc) (As := [.int i, .int n, f]) (rest := []) (own := "java/lang/String") (index := 1059) (A0 := fun _ => False) (H0 := s.heap) hx hb hml hown hTw hb_goodG (hb_tPc (A := A) (S := S) hf h0 hn) hb_cdPc (by decide) (hb_wm (i := 128) (by decide +kernel)) (by decide) (fun sig h => by cases h; rfl) (hb_wm (i := 640) (by decide +kernel)) (hb_wm (i := 641) (by decide +kernel)) hb_blPS (fun U hU hW => hb_mvPS hps hU hW) hl.1 rfl (by decide) hb_dCi_3 va_S.rf (fun locs1 h1 => ?_)
    have e1 := h1.no
    subst e1
    refine lv_pop hx hb hb_dCi_4 rfl ?_
    exact W.vret hx hb hret r1 r2 hb_dCi_5 hlocks
  rcases hps.2.2.2 with hz | ⟨t, hz⟩
  · exact go _ (Or.inl rfl) hz
  · exact go _ (Or.inr ⟨t, rfl⟩) hz
theorem hb_blT {b n : Nat} {f : Nat → Value} {H : Heap} {vs : List Value} : FrameBlind (va_Pc vs (fun St => St.heap = H ∧ (hb_PS A S St ∧ va_T .byte b n f A St St.heap))) := by
  intro a St g mk h
  obtain ⟨h1, h2, h3, h4⟩ := h
  exact ⟨h1, h2, hb_GokG.2.2.1 _ _ St (St.calling g mk a) rfl rfl h3, h4.moved (Vm.Alike.refl St.vm)⟩
theorem hb_tLc {b n : Nat} {f : Nat → Value} {i x v : Int32} (hn : n < 2147483648) (h0 : 0 ≤ i.toInt) (hi : i.toInt < n) (hf : f i.toInt.toNat = .int x) (hv : ((x &&& 255).toUInt32 % 65536).toInt32 = v) (hc : narrow .char (.int v) = .int v) : hb_MR hb_G l hb_yLc 2 43 H0 (fun St => hb_PS A S St ∧ va_T .byte b n f A St St.heap) [.ref b, .int i] (some (.int v)) := by
  refine hb_Renter (by decide) (Nat.le_of_ble_eq_true rfl) ?_
  intro p e s m below meth c ls hBd hh hpt hl
  obtain ⟨hx, hb, hml, hown, hlocks, hret, hTw⟩ := hBd
  obtain ⟨hps, ht⟩ := hpt
  obtain ⟨r1, r2⟩ := hb_Rend (args := [Value.ref b, Value.int i].toArray) (r := some (.int v)) hh
  have en : (Int32.ofNat n).toInt = (n : Int) := by
    have := nI_toInt (n := n) hn
    exact this
  refine lv_iload_n hx hb hb_dLc_0 rfl (lv_at hl 1 rfl) ?_
  refine lv_aload_n hx hb hb_dLc_1 rfl (lv_at hl 0 rfl) ?_
  refine va_tlen (A := A) hx hb ht va_S.rf rfl hb_dLc_2 ?_
  refine hb_RcS (y := hb_yCi) (As := [.int i, .int (Int32.ofNat n)]) (rest := []) (own := "java/lang/StringLatin1") (index := 9) (A0 := fun _ => False) (H0 := s.heap) hx hb hml hown hTw hb_goodG (hb_tCi (A := A) (S := S) h0 (by rw [en]; exact hi)) hb_cdCi (by decide) (hb_wm (i := 126) (by decide +kernel)) (by decide) (fun sig h => by cases h; rfl) (hb_wm (i := 635) (by decide +kernel)) (hb_wm (i := 636) (by decide +kernel)) hb_blPS (fun U hU hW => hb_mvPS hps hU hW) hl.1 rfl (by decide) hb_dLc_3 va_S.rf (fun locs1 h1 => ?_)
  have e1 := h1.no
  subst e1
  refine lv_aload_n hx hb hb_dLc_4 rfl (lv_at hl 0 rfl) ?_
  refine lv_iload_n hx hb hb_dLc_5 rfl (lv_at hl 1 rfl) ?_
  obtain ⟨v1, v2⟩ := hb_vpin (i := i) (n := n) ⟨h0, hi⟩
  refine va_tb (A := A) hx hb ht va_S.rf v1 (v := .int x) (by rw [v2]; exact hf) hb_dLc_6 ?_
  refine lv_sipush (v := 255) hx hb hb_dLc_7 (by decide) ?_
  refine lv_iand hx hb hb_dLc_8 ?_
  refine lv_i2c hx hb hb_dLc_9 hv ?_
  exact W.zret hx hb hret hc r1 r2 hb_dLc_10 hlocks
end HBTX
theorem hb_tx1 : ∀ k, k < 18 → hb_TL.getD k 0 = (hb_TB.getD k []).length ∧ (hb_TB.getD k []).length < 20 := by decide +kernel
theorem hb_tx2 : ∀ k, k < 18 → ∀ j, j < (hb_TB.getD k []).length → ((((hb_TB.getD k []).getD j 0) &&& 255).toUInt32 % 65536).toInt32 = (hb_TB.getD k []).getD j 0 ∧ narrow .char (.int ((hb_TB.getD k []).getD j 0)) = .int ((hb_TB.getD k []).getD j 0) ∧ hb_le 97 ((hb_TB.getD k []).getD j 0).toInt = true ∧ hb_le ((hb_TB.getD k []).getD j 0).toInt 122 = true := by decide +kernel
/-- the contract of length() for a text -/
def hb_qLn (k : Nat) : hbQ := (0, (([(0, 0)], [], []), [(4, 0, k, 0)], []), [((([(0, 0)], [], []), [], [(0, 0, 0, .ofNat (hb_TL.getD k 0))], []), [])], ([], []), (4, 100))
theorem hb_mLn {k : Nat} (hk : k < 18) : hb_Met hb_G (hb_qLn k) := by
  refine hb_enter (y := hb_yLn) rfl (by decide) (Nat.le_of_ble_eq_true rfl) ?_
  intro l D U S ρ wd vs p e s m below meth c ls hAt hwd hV h0 hargs hC0 hl
  obtain ⟨hx, hb, hml, hown, hlocks, hret, hTw, hP, hD, hGs⟩ := hAt
  obtain ⟨v1, vs1, rfl, g1, hargs⟩ := hb_stk.cons hargs
  have e0 := hb_stk.nil hargs
  subst e0
  have ev : v1 = .ref (S k) := g1.txt rfl
  subst ev
  obtain ⟨adV, hv⟩ := hGs.2.2.1
  obtain ⟨t1, t2⟩ := hb_tx1 k hk
  have hlt : hb_TL.getD k 0 < 20 := by omega
  refine lv_aload_n hx hb hb_dLn_0 rfl (lv_at hl 0 rfl) ?_
  refine vk_getf hx hb (hv.1 k hk).2.2.1 va_S.rf hown (hTw _ (hb_wm (i := 2306) (by decide +kernel))) (fun _ h => h) hb_dLn_1 ?_
  refine va_tlen hx hb (hv.1 k hk).2.2.2 va_S.rf rfl hb_dLn_2 ?_
  refine lv_aload_n hx hb hb_dLn_3 rfl (lv_at hl 0 rfl) ?_
  refine hb_RcV (y := hb_yCo) (b := S k) (As := []) (rest := [.int (Int32.ofNat (hb_TL.getD k 0))]) (own := "java/lang/String") (index := 335) (A0 := fun _ => False) (H0 := s.heap) hx hb hml hown hTw hb_goodG (hb_tCo (A := va_A wd s.heap.size) hk) hb_cdCo ⟨Nat.le_of_ble_eq_true rfl, Nat.le_of_ble_eq_true rfl⟩ (hb_wm (i := 126) (by decide +kernel)) (by decide) (fun sig h => by cases h; rfl) (hb_wm (i := 618) (by decide +kernel)) (hb_wm (i := 619) (by decide +kernel)) (hb_wm (i := 620) (by decide +kernel)) (vk_recv hv hk va_S.rf) hb_blPS (fun U hU hW => hb_mvPS hGs.2.2 hU hW) hl.1 rfl (Nat.le_of_ble_eq_true rfl) hb_dLn_4 va_S.rf (fun locs1 h1 => ?_)
  have e1 := h1.no
  subst e1
  refine lv_ishr hx hb hb_dLn_5 ?_
  have er : (Int32.ofNat (hb_TL.getD k 0) >>> ((0 : Int32) &&& 31)) = Int32.ofNat (hb_TL.getD k 0) := by
    have : ∀ n, n < 20 → (Int32.ofNat n >>> ((0 : Int32) &&& 31)) = Int32.ofNat n := by decide +kernel
    exact this _ hlt
  rw [er]
  have ei : (Int32.ofNat (hb_TL.getD k 0)).toInt = ((hb_TL.getD k 0 : Nat) : Int) := by
    have := nI_toInt (n := hb_TL.getD k 0) (by omega)
    exact this
  obtain ⟨r1, r2⟩ := hb_hpost (args := [Value.ref (S k)].toArray) (mods := []) (v := some (.int (Int32.ofNat (hb_TL.getD k 0)))) hP hwd (z := ((([(0, 0)], [], []), [], [(0, 0, 0, .ofNat (hb_TL.getD k 0))], []), [])) (posts := (hb_qLn k).2.2.1) List.mem_cons_self hb_ag.rf (Nat.le_refl 1) hV ⟨hb_kI ei Nat.zero_lt_one, trivial⟩ (fun q h => by cases h)
  exact W.iret hx hb hret r1 r2 hb_dLn_6 hlocks
/-- charAt, walked: what every contract of it needs -/
theorem hb_chgo {q : hbQ} {l : Launch} {D : va_G} {U S : Nat → Nat} {ρ ρ' : Nat → Int} {wd : va_W} {p : Program} {e : Env} {s : State} {m : MethodId} {below : List Frame} {meth : Method} {c : Code} {ls : Array Slot} {k : Nat} {i : Int32} {z : hbS × List (Nat × Nat × Int)} (hk : k < 18) (h0 : 0 ≤ i.toInt) (hi : i.toInt < ((hb_TB.getD k []).length : Int)) (hAt : hb_At hb_G hb_yCh D S wd p s m [Value.ref (S k), Value.int i].toArray meth c) (hwd : hb_wd hb_G.1.1 s U wd q.2.2.2.1.1) (hl : lv_has ls 2 [(0, .ref (S k)), (1, .int i)]) (hR : hb_rm q = hb_rmF 4 100)
    (hz : z ∈ q.2.2.1) (ha : hb_ag q.2.1.1.1.length ρ ρ') (hn : q.2.1.1.1.length ≤ z.1.1.1.length) (hV : hb_V ρ' z.1.1) (hs : hb_stk z.1.1.1.length U S ρ' z.1.2.2.1 [.int ((hb_TB.getD k []).getD i.toInt.toNat 0)]) (hC : hb_cch z.1.1.1.length U S ρ' z.1.2.2.2 wd) :
    W p l e (hb_rm q) s m [Value.ref (S k), Value.int i].toArray below meth c s.heap [] 0 0 (MQ below (hb_Post hb_G D U S ρ q.2.1.1.1.length wd s.heap.size q.2.2.2.1.1 q.2.2.2.1.2 q.2.2.1) [Value.ref (S k), Value.int i].toArray s 0 0 (va_A wd s.heap.size)) (F0 m 0 ls []) := by
  obtain ⟨hx, hb, hml, hown, hlocks, hret, hTw, hP, hD, hGs⟩ := hAt
  obtain ⟨adV, hv⟩ := hGs.2.2.1
  obtain ⟨t1, t2⟩ := hb_tx1 k hk
  obtain ⟨w1, w2, -, -⟩ := hb_tx2 k hk i.toInt.toNat (by omega)
  obtain ⟨r1, r2⟩ := hb_hpost (args := [Value.ref (S k), Value.int i].toArray) (mods := q.2.2.2.1.2) (v := some (.int ((hb_TB.getD k []).getD i.toInt.toNat 0))) hP hwd hz ha hn hV hs hC
  refine lv_aload_n hx hb hb_dCh_0 rfl (lv_at hl 0 rfl) ?_
  refine hb_RcV (y := hb_yIs) (b := S k) (As := []) (rest := []) (own := "java/lang/String") (index := 492) (A0 := fun _ => False) (H0 := s.heap) hx hb hml hown hTw hb_goodG (hb_tIs (A := va_A wd s.heap.size) hk) hb_cdIs (by rw [hR]; decide) (hb_wm (i := 126) (by decide +kernel)) (by decide) (fun sig h => by cases h; rfl) (hb_wm (i := 628) (by decide +kernel)) (hb_wm (i := 629) (by decide +kernel)) (hb_wm (i := 630) (by decide +kernel)) (vk_recv hv hk va_S.rf) hb_blPS (fun U hU hW => hb_mvPS hGs.2.2 hU hW) hl.1 rfl (by decide) hb_dCh_1 va_S.rf (fun locs1 h1 => ?_)
  have e1 := h1.no
  subst e1
  refine hb_row_if (tgt := 16) hx hb hb_dCh_2 (by decide) (fun q => absurd (show (1 : Int32).toInt = 0 from q) (by decide)) (fun _ => ?_)
  refine lv_aload_n hx hb hb_dCh_3 rfl (lv_at hl 0 rfl) ?_
  refine vk_getf hx hb (hv.1 k hk).2.2.1 va_S.rf hown (hTw _ (hb_wm (i := 2306) (by decide +kernel))) (fun _ h => h) hb_dCh_4 ?_
  refine lv_iload_n hx hb hb_dCh_5 rfl (lv_at hl 1 rfl) ?_
  refine hb_RcS (y := hb_yLc) (As := [.ref (adV k), .int i]) (rest := []) (own := "java/lang/String") (index := 495) (A0 := fun _ => False) (H0 := s.heap) hx hb hml hown hTw hb_goodG (hb_tLc (A := va_A wd s.heap.size) (S := S) (n := hb_TL.getD k 0) (f := fun j => .int ((hb_TB.getD k []).getD j 0)) (by omega) h0 (by rw [t1]; exact hi) rfl w1 w2) hb_cdLc (by rw [hR]; decide) (hb_wm (i := 127) (by decide +kernel)) (by decide) (fun sig h => by cases h; rfl) (hb_wm (i := 632) (by decide +kernel)) (hb_wm (i := 633) (by decide +kernel)) hb_blT (fun U hU hW => ⟨hb_mvPS hGs.2.2 hU hW, by
      have := (hv.1 k hk).2.2.2.moved hW.alike
      rw [hU]
      exact this⟩) hl.1 rfl (by decide) hb_dCh_6 va_S.rf (fun locs1 h1 => ?_)
  have e2 := h1.no
  subst e2
  exact W.zret hx hb hret w2 r1 r2 hb_dCh_7 hlocks
def hb_qCh (k j : Nat) : hbQ := (1, (([(0, 0)], [], []), [(4, 0, k, 0), (0, 0, 0, .ofNat j)], []), [((([(0, 0)], [], []), [], [(0, 0, 0, ((hb_TB.getD k []).getD j 0).toInt)], []), [])], ([], []), (4, 100))
theorem hb_mCh {k j : Nat} (hk : k < 18) (hj : j < (hb_TB.getD k []).length) : hb_Met hb_G (hb_qCh k j) := by
  refine hb_enter (y := hb_yCh) rfl (by decide) (Nat.le_of_ble_eq_true rfl) ?_
  intro l D U S ρ wd vs p e s m below meth c ls hAt hwd hV h0 hargs hC0 hl
  obtain ⟨v1, vs1, rfl, g1, hargs⟩ := hb_stk.cons hargs
  obtain ⟨v2, vs2, rfl, g2, hargs⟩ := hb_stk.cons hargs
  have e0 := hb_stk.nil hargs
  subst e0
  have ev : v1 = .ref (S k) := g1.txt rfl
  subst ev
  obtain ⟨-, i, rfl, ei⟩ := g2.int rfl
  have ei : i.toInt = 0 * ρ 0 + Int.ofNat j := ei
  have ei : i.toInt = (j : Int) := by rw [ei]; show 0 * ρ 0 + (j : Int) = _; omega
  refine hb_chgo (q := hb_qCh k j) (ρ' := ρ) (z := ((([(0, 0)], [], []), [], [(0, 0, 0, ((hb_TB.getD k []).getD j 0).toInt)], []), [])) hk (by omega) (by omega) hAt hwd hl rfl List.mem_cons_self hb_ag.rf (Nat.le_refl 1) hV ⟨?_, trivial⟩ (fun q h => by cases h)
  rw [show i.toInt.toNat = j by omega]
  exact hb_kI rfl Nat.zero_lt_one
def hb_qCs (k : Nat) : hbQ := (1, (([(0, 0), (0, .ofNat (hb_TB.getD k []).length - 1)], [], []), [(4, 0, k, 0), (0, 1, 1, 0)], []), [((([(0, 0), (0, .ofNat (hb_TB.getD k []).length - 1), (97, 122)], [], []), [], [(0, 1, 2, 0)], []), [(1, 0, 0)])], ([], []), (4, 100))
theorem hb_mCs {k : Nat} (hk : k < 18) : hb_Met hb_G (hb_qCs k) := by
  refine hb_enter (y := hb_yCh) rfl (by decide) (Nat.le_of_ble_eq_true rfl) ?_
  intro l D U S ρ wd vs p e s m below meth c ls hAt hwd hV h0 hargs hC0 hl
  obtain ⟨v1, vs1, rfl, g1, hargs⟩ := hb_stk.cons hargs
  obtain ⟨v2, vs2, rfl, g2, hargs⟩ := hb_stk.cons hargs
  have e0 := hb_stk.nil hargs
  subst e0
  have ev : v1 = .ref (S k) := g1.txt rfl
  subst ev
  obtain ⟨-, i, rfl, ei⟩ := g2.int rfl
  have ei : i.toInt = 1 * ρ 1 + 0 := ei
  have hV : hb_V ρ ([(0, 0), (0, .ofNat (hb_TB.getD k []).length - 1)], [], []) := hV
  have b1 := hV.1 1 0 (.ofNat (hb_TB.getD k []).length - 1) rfl
  have b2 : ρ 1 ≤ ((hb_TB.getD k []).length : Int) - 1 := b1.2
  obtain ⟨-, -, w3, w4⟩ := hb_tx2 k hk i.toInt.toNat (by omega)
  have hV2 : hb_V (hb_ex ρ 2 ((hb_TB.getD k []).getD i.toInt.toNat 0).toInt) ([(0, 0), (0, Int.ofNat (hb_TB.getD k []).length - 1), (97, 122)], [], []) := ⟨hb_env.nw hV.1 (hb_le_t w3) (hb_le_t w4), fun r h => (by cases h), fun r h => (by cases h)⟩
  refine hb_chgo (q := hb_qCs k) (ρ' := hb_ex ρ 2 ((hb_TB.getD k []).getD i.toInt.toNat 0).toInt) (z := ((([(0, 0), (0, Int.ofNat (hb_TB.getD k []).length - 1), (97, 122)], [], []), [], [(0, 1, 2, 0)], []), [(1, 0, 0)])) hk (by omega) (by omega) hAt hwd hl rfl List.mem_cons_self (hb_ex_ag ρ 2 _) (by decide : 2 ≤ 3) hV2 ⟨⟨Nat.le_of_ble_eq_true rfl, _, rfl, by rw [hb_ex_at]; omega⟩, trivial⟩ (fun q h => by cases h)

