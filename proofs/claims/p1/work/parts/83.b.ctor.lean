/-! hc_: the constructors (printed by w83.py) -/
def hc_Z_Hush : List Value := [.null, .null, .null, .null, .int 0]
theorem hc_Zok_Hush : ∀ j, j < 5 → defaultValue (tyX0 j) = vp_V hc_Z_Hush j := by decide +kernel
def hc_Z_Look : List Value := [.null, .null]
theorem hc_Zok_Look : ∀ j, j < 2 → defaultValue (tyX1 j) = vp_V hc_Z_Look j := by decide +kernel
def hc_Z_Packing : List Value := [.null, .null, .null, .null, .null, .int 0, .int 0, .int 0]
theorem hc_Zok_Packing : ∀ j, j < 8 → defaultValue (tyX2 j) = vp_V hc_Z_Packing j := by decide +kernel
def hc_Z_Reader : List Value := [.null, .int 0, .null, .int 0, .int 0, .int 0, .int 0, .int 0, .null, .int 0]
theorem hc_Zok_Reader : ∀ j, j < 10 → defaultValue (tyX4 j) = vp_V hc_Z_Reader j := by decide +kernel
def hc_Z_Sets : List Value := [.null, .null, .null, .int 0]
theorem hc_Zok_Sets : ∀ j, j < 4 → defaultValue (tyX5 j) = vp_V hc_Z_Sets j := by decide +kernel
def hc_Z_Table : List Value := [.int 0, .null, .int 0]
theorem hc_Zok_Table : ∀ j, j < 3 → defaultValue (tyX7 j) = vp_V hc_Z_Table j := by decide +kernel
def hc_Z_Tilting : List Value := [.null, .null, .null, .null, .null, .int 0]
theorem hc_Zok_Tilting : ∀ j, j < 6 → defaultValue (tyX8 j) = vp_V hc_Z_Tilting j := by decide +kernel
def hc_Z_Town : List Value := [.null, .null, .null, .null, .null, .null, .null, .int 0]
theorem hc_Zok_Town : ∀ j, j < 8 → defaultValue (tyX9 j) = vp_V hc_Z_Town j := by decide +kernel
def hc_Z_HopeBankModel : List Value := [.int 0, .null, .null, .null, .null, .int 0, .null, .int 0, .int 0, .int 0, .int 0, .int 0, .int 0, .int 0, .null, .null, .null, .null, .null, .null, .null, .null, .null, .int 0, .int 0, .int 0, .int 0, .int 0, .int 0, .int 0, .int 0, .null, .null, .null, .null, .null, .int 0, .int 0, .int 0, .long 0, .long 0, .long 0, .null, .null, .null, .null]
theorem hc_Zok_HopeBankModel : ∀ j, j < 46 → defaultValue (tyX12 j) = vp_V hc_Z_HopeBankModel j := by decide +kernel
theorem hc_w0 : Cond.methodLink "HopeBank$Table" 3 Lib.objectInit ∈ hb_G.2.1.1 := hb_wm (i := 157) (by decide +kernel)
theorem hc_w1 : Cond.methodLink "HopeBank$Table" 9 Lib.Math.max.name ∈ hb_G.2.1.1 := hb_wm (i := 158) (by decide +kernel)
theorem hc_w2 : Cond.fieldLink "HopeBank$Table" 15 "HopeBank$Table" "wide" "I" ∈ hb_G.2.1.1 := hb_wm (i := 161) (by decide +kernel)
theorem hc_w3 : Cond.arrayClass .int ∈ hb_G.2.1.1 := hb_wm (i := 181) (by decide +kernel)
theorem hc_w4 : Cond.fieldLink "HopeBank$Table" 21 "HopeBank$Table" "cells" "[I" ∈ hb_G.2.1.1 := hb_wm (i := 162) (by decide +kernel)
theorem hc_w5 : Cond.fieldLink "HopeBank$Table" 25 "HopeBank$Table" "size" "I" ∈ hb_G.2.1.1 := hb_wm (i := 163) (by decide +kernel)
theorem hc_w6 : Cond.methodLink "HopeBank$Town" 3 Lib.objectInit ∈ hb_G.2.1.1 := hb_wm (i := 151) (by decide +kernel)
theorem hc_w7 : Cond.classLink "HopeBank$Town" 9 "HopeBank$Table" ∈ hb_G.2.1.1 := hb_wm (i := 152) (by decide +kernel)
theorem hc_w8 : Cond.instantiable "HopeBank$Table" 3 ∈ hb_G.2.1.1 := hb_wm (i := 153) (by decide +kernel)
theorem hc_w9 : Cond.initialized "HopeBank$Table" ∈ hb_G.2.1.1 := hb_wm (i := 114) (by decide +kernel)
theorem hc_w10 : Cond.methodLink "HopeBank$Town" 11 ⟨"HopeBank$Table", "<init>", "(II)V"⟩ ∈ hb_G.2.1.1 := hb_wm (i := 154) (by decide +kernel)
theorem hc_w11 : Cond.instanceMethod ⟨"HopeBank$Table", "<init>", "(II)V"⟩ ∈ hb_G.2.1.1 := hb_wm (i := 155) (by decide +kernel)
theorem hc_w12 : Cond.fieldLink "HopeBank$Town" 14 "HopeBank$Town" "head" "LHopeBank$Table;" ∈ hb_G.2.1.1 := hb_wm (i := 182) (by decide +kernel)
theorem hc_w13 : Cond.fieldLink "HopeBank$Town" 20 "HopeBank$Town" "pigs" "LHopeBank$Table;" ∈ hb_G.2.1.1 := hb_wm (i := 184) (by decide +kernel)
theorem hc_w14 : Cond.fieldLink "HopeBank$Town" 23 "HopeBank$Town" "hopes" "LHopeBank$Table;" ∈ hb_G.2.1.1 := hb_wm (i := 192) (by decide +kernel)
theorem hc_w15 : Cond.fieldLink "HopeBank$Town" 26 "HopeBank$Town" "told" "LHopeBank$Table;" ∈ hb_G.2.1.1 := hb_wm (i := 201) (by decide +kernel)
theorem hc_w16 : Cond.fieldLink "HopeBank$Town" 29 "HopeBank$Town" "thieves" "LHopeBank$Table;" ∈ hb_G.2.1.1 := hb_wm (i := 206) (by decide +kernel)
theorem hc_w17 : Cond.fieldLink "HopeBank$Town" 32 "HopeBank$Town" "acts" "LHopeBank$Table;" ∈ hb_G.2.1.1 := hb_wm (i := 212) (by decide +kernel)
theorem hc_w18 : Cond.fieldLink "HopeBank$Town" 35 "HopeBank$Town" "events" "LHopeBank$Table;" ∈ hb_G.2.1.1 := hb_wm (i := 215) (by decide +kernel)
theorem hc_w19 : Cond.methodLink "HopeBank$Reader" 3 Lib.objectInit ∈ hb_G.2.1.1 := hb_wm (i := 145) (by decide +kernel)
theorem hc_w20 : Cond.arrayClass .byte ∈ hb_G.2.1.1 := hb_wm (i := 180) (by decide +kernel)
theorem hc_w21 : Cond.fieldLink "HopeBank$Reader" 9 "HopeBank$Reader" "tape" "[B" ∈ hb_G.2.1.1 := hb_wm (i := 237) (by decide +kernel)
theorem hc_w22 : Cond.classLink "HopeBank$Reader" 15 "HopeBank$Town" ∈ hb_G.2.1.1 := hb_wm (i := 146) (by decide +kernel)
theorem hc_w23 : Cond.instantiable "HopeBank$Town" 8 ∈ hb_G.2.1.1 := hb_wm (i := 147) (by decide +kernel)
theorem hc_w24 : Cond.initialized "HopeBank$Town" ∈ hb_G.2.1.1 := hb_wm (i := 113) (by decide +kernel)
theorem hc_w25 : Cond.instanceMethod ⟨"HopeBank$Town", "<init>", "()V"⟩ ∈ hb_G.2.1.1 := hb_wm (i := 149) (by decide +kernel)
theorem hc_w26 : Cond.fieldLink "HopeBank$Reader" 18 "HopeBank$Reader" "found" "LHopeBank$Town;" ∈ hb_G.2.1.1 := hb_wm (i := 240) (by decide +kernel)
theorem hc_w27 : Cond.fieldLink "HopeBank$Reader" 22 "HopeBank$Reader" "place" "I" ∈ hb_G.2.1.1 := hb_wm (i := 244) (by decide +kernel)
theorem hc_w28 : Cond.fieldLink "HopeBank$Reader" 26 "HopeBank$Reader" "numbers" "[I" ∈ hb_G.2.1.1 := hb_wm (i := 249) (by decide +kernel)
theorem hc_w29 : Cond.methodLink "HopeBank$Look" 3 Lib.objectInit ∈ hb_G.2.1.1 := hb_wm (i := 363) (by decide +kernel)
theorem hc_w30 : Cond.fieldLink "HopeBank$Look" 9 "HopeBank$Look" "town" "LHopeBank$Town;" ∈ hb_G.2.1.1 := hb_wm (i := 364) (by decide +kernel)
theorem hc_w31 : Cond.fieldLink "HopeBank$Look" 15 "HopeBank$Look" "play" "LHopeBank$Play;" ∈ hb_G.2.1.1 := hb_wm (i := 365) (by decide +kernel)
theorem hc_w32 : Cond.methodLink "HopeBank$Sets" 3 Lib.objectInit ∈ hb_G.2.1.1 := hb_wm (i := 402) (by decide +kernel)
theorem hc_w33 : Cond.fieldLink "HopeBank$Sets" 9 "HopeBank$Sets" "weights" "[I" ∈ hb_G.2.1.1 := hb_wm (i := 404) (by decide +kernel)
theorem hc_w34 : Cond.fieldLink "HopeBank$Sets" 15 "HopeBank$Sets" "worths" "[I" ∈ hb_G.2.1.1 := hb_wm (i := 405) (by decide +kernel)
theorem hc_w35 : Cond.fieldLink "HopeBank$Sets" 18 "HopeBank$Sets" "town" "LHopeBank$Town;" ∈ hb_G.2.1.1 := hb_wm (i := 403) (by decide +kernel)
theorem hc_w36 : Cond.methodLink "HopeBank$Packing" 3 Lib.objectInit ∈ hb_G.2.1.1 := hb_wm (i := 424) (by decide +kernel)
theorem hc_w37 : Cond.fieldLink "HopeBank$Packing" 9 "HopeBank$Packing" "reached" "[I" ∈ hb_G.2.1.1 := hb_wm (i := 427) (by decide +kernel)
theorem hc_w38 : Cond.fieldLink "HopeBank$Packing" 15 "HopeBank$Packing" "fixed" "[I" ∈ hb_G.2.1.1 := hb_wm (i := 428) (by decide +kernel)
theorem hc_w39 : Cond.fieldLink "HopeBank$Packing" 18 "HopeBank$Packing" "choice" "[I" ∈ hb_G.2.1.1 := hb_wm (i := 429) (by decide +kernel)
theorem hc_w40 : Cond.fieldLink "HopeBank$Packing" 21 "HopeBank$Packing" "town" "LHopeBank$Town;" ∈ hb_G.2.1.1 := hb_wm (i := 425) (by decide +kernel)
theorem hc_w41 : Cond.fieldLink "HopeBank$Packing" 25 "HopeBank$Packing" "sets" "LHopeBank$Sets;" ∈ hb_G.2.1.1 := hb_wm (i := 426) (by decide +kernel)
theorem hc_w42 : Cond.methodLink "HopeBank$Hush" 3 Lib.objectInit ∈ hb_G.2.1.1 := hb_wm (i := 458) (by decide +kernel)
theorem hc_w43 : Cond.fieldLink "HopeBank$Hush" 9 "HopeBank$Hush" "longest" "[I" ∈ hb_G.2.1.1 := hb_wm (i := 461) (by decide +kernel)
theorem hc_w44 : Cond.fieldLink "HopeBank$Hush" 15 "HopeBank$Hush" "ways" "[I" ∈ hb_G.2.1.1 := hb_wm (i := 463) (by decide +kernel)
theorem hc_w45 : Cond.fieldLink "HopeBank$Hush" 18 "HopeBank$Hush" "town" "LHopeBank$Town;" ∈ hb_G.2.1.1 := hb_wm (i := 459) (by decide +kernel)
theorem hc_w46 : Cond.fieldLink "HopeBank$Hush" 22 "HopeBank$Hush" "sets" "LHopeBank$Sets;" ∈ hb_G.2.1.1 := hb_wm (i := 460) (by decide +kernel)
theorem hc_w47 : Cond.methodLink "HopeBank$Tilting" 3 Lib.objectInit ∈ hb_G.2.1.1 := hb_wm (i := 502) (by decide +kernel)
theorem hc_w48 : Cond.fieldLink "HopeBank$Tilting" 9 "HopeBank$Tilting" "fitting" "[I" ∈ hb_G.2.1.1 := hb_wm (i := 506) (by decide +kernel)
theorem hc_w49 : Cond.fieldLink "HopeBank$Tilting" 15 "HopeBank$Tilting" "parts" "[I" ∈ hb_G.2.1.1 := hb_wm (i := 507) (by decide +kernel)
theorem hc_w50 : Cond.fieldLink "HopeBank$Tilting" 18 "HopeBank$Tilting" "town" "LHopeBank$Town;" ∈ hb_G.2.1.1 := hb_wm (i := 503) (by decide +kernel)
theorem hc_w51 : Cond.fieldLink "HopeBank$Tilting" 22 "HopeBank$Tilting" "sets" "LHopeBank$Sets;" ∈ hb_G.2.1.1 := hb_wm (i := 504) (by decide +kernel)
theorem hc_w52 : Cond.fieldLink "HopeBank$Tilting" 26 "HopeBank$Tilting" "slots" "LHopeBank$Slots;" ∈ hb_G.2.1.1 := hb_wm (i := 505) (by decide +kernel)
theorem hc_w53 : Cond.methodLink "HopeBankModel" 3 Lib.objectInit ∈ hb_G.2.1.1 := hb_wm (i := 1555) (by decide +kernel)
theorem hc_w54 : Cond.fieldLink "HopeBankModel" 9 "HopeBankModel" "world" "[I" ∈ hb_G.2.1.1 := hb_wm (i := 1556) (by decide +kernel)
theorem hc_w55 : Cond.fieldLink "HopeBankModel" 13 "HopeBankModel" "images" "[I" ∈ hb_G.2.1.1 := hb_wm (i := 1557) (by decide +kernel)
theorem hc_w56 : Cond.arrayClass .boolean ∈ hb_G.2.1.1 := hb_wm (i := 1694) (by decide +kernel)
theorem hc_w57 : Cond.fieldLink "HopeBankModel" 16 "HopeBankModel" "hasImage" "[Z" ∈ hb_G.2.1.1 := hb_wm (i := 1558) (by decide +kernel)
theorem hc_w58 : Cond.fieldLink "HopeBankModel" 20 "HopeBankModel" "tape" "[B" ∈ hb_G.2.1.1 := hb_wm (i := 1559) (by decide +kernel)
theorem hc_w59 : Cond.fieldLink "HopeBankModel" 24 "HopeBankModel" "five" "[I" ∈ hb_G.2.1.1 := hb_wm (i := 1561) (by decide +kernel)
theorem hc_w60 : Cond.fieldLink "HopeBankModel" 27 "HopeBankModel" "faultPlace" "I" ∈ hb_G.2.1.1 := hb_wm (i := 1568) (by decide +kernel)
theorem hc_w61 : Cond.fieldLink "HopeBankModel" 31 "HopeBankModel" "fresh" "[I" ∈ hb_G.2.1.1 := hb_wm (i := 1569) (by decide +kernel)
theorem hc_w62 : Cond.fieldLink "HopeBankModel" 34 "HopeBankModel" "roomOf" "[I" ∈ hb_G.2.1.1 := hb_wm (i := 1570) (by decide +kernel)
theorem hc_w63 : Cond.fieldLink "HopeBankModel" 37 "HopeBankModel" "whereNow" "[I" ∈ hb_G.2.1.1 := hb_wm (i := 1571) (by decide +kernel)
theorem hc_w64 : Cond.fieldLink "HopeBankModel" 40 "HopeBankModel" "whereAt" "[I" ∈ hb_G.2.1.1 := hb_wm (i := 1572) (by decide +kernel)
theorem hc_w65 : Cond.fieldLink "HopeBankModel" 43 "HopeBankModel" "fellAt" "[I" ∈ hb_G.2.1.1 := hb_wm (i := 1573) (by decide +kernel)
theorem hc_w66 : Cond.fieldLink "HopeBankModel" 46 "HopeBankModel" "fellInto" "[I" ∈ hb_G.2.1.1 := hb_wm (i := 1574) (by decide +kernel)
theorem hc_w67 : Cond.fieldLink "HopeBankModel" 49 "HopeBankModel" "heardOf" "[I" ∈ hb_G.2.1.1 := hb_wm (i := 1575) (by decide +kernel)
theorem hc_w68 : Cond.fieldLink "HopeBankModel" 52 "HopeBankModel" "takenBy" "[I" ∈ hb_G.2.1.1 := hb_wm (i := 1576) (by decide +kernel)
theorem hc_w69 : Cond.fieldLink "HopeBankModel" 55 "HopeBankModel" "isBroken" "[Z" ∈ hb_G.2.1.1 := hb_wm (i := 1577) (by decide +kernel)
theorem hc_w70 : Cond.fieldLink "HopeBankModel" 58 "HopeBankModel" "canHold" "[Z" ∈ hb_G.2.1.1 := hb_wm (i := 1586) (by decide +kernel)
theorem hc_w71 : Cond.fieldLink "HopeBankModel" 61 "HopeBankModel" "fixedIn" "[I" ∈ hb_G.2.1.1 := hb_wm (i := 1587) (by decide +kernel)
theorem hc_w72 : Cond.fieldLink "HopeBankModel" 64 "HopeBankModel" "moreOf" "[I" ∈ hb_G.2.1.1 := hb_wm (i := 1588) (by decide +kernel)
theorem hc_w73 : Cond.fieldLink "HopeBankModel" 67 "HopeBankModel" "waysOf" "[I" ∈ hb_G.2.1.1 := hb_wm (i := 1589) (by decide +kernel)
theorem hc_w74 : Cond.fieldLink "HopeBankModel" 70 "HopeBankModel" "tiltSets" "[I" ∈ hb_G.2.1.1 := hb_wm (i := 1590) (by decide +kernel)
theorem hc_w75 : Cond.fieldLink "HopeBankModel" 73 "HopeBankModel" "many" "[I" ∈ hb_G.2.1.1 := hb_wm (i := 1597) (by decide +kernel)
theorem hc_w76 : Cond.fieldLink "HopeBankModel" 76 "HopeBankModel" "width" "[I" ∈ hb_G.2.1.1 := hb_wm (i := 1598) (by decide +kernel)
theorem hc_w77 : Cond.arrayClass .long ∈ hb_G.2.1.1 := hb_wm (i := 496) (by decide +kernel)
theorem hc_w78 : Cond.fieldLink "HopeBankModel" 79 "HopeBankModel" "numbers" "[J" ∈ hb_G.2.1.1 := hb_wm (i := 1599) (by decide +kernel)
theorem hc_w79 : Cond.fieldLink "HopeBankModel" 83 "HopeBankModel" "moving" "[J" ∈ hb_G.2.1.1 := hb_wm (i := 1600) (by decide +kernel)
theorem hc_oi : Cond.instanceMethod Lib.objectInit ∈ hb_G.2.1.1 := hb_wm (i := 138) (by decide +kernel)
set_option maxRecDepth 100000 in
theorem hc_oc : Cond.code Lib.objectInit ⟨#[0xb1]⟩ 1 none ∈ hb_G.2.1.1 := List.mem_filter.mpr ⟨List.mem_of_getElem? (i := 139) rfl, rfl⟩
theorem hc_ms : Cond.static Lib.Math.max.name ∈ hb_G.2.1.1 := hb_wm (i := 159) (by decide +kernel)
theorem hc_mi : Cond.initialized "java/lang/Math" ∈ hb_G.2.1.1 := hb_wm (i := 115) (by decide +kernel)
set_option maxRecDepth 100000 in
theorem hc_mc : Cond.code Lib.Math.max.name Lib.Math.max.code 2 (some .int) ∈ hb_G.2.1.1 := List.mem_filter.mpr ⟨List.mem_of_getElem? (i := 160) rfl, rfl⟩
theorem hc_Kof {args : Array Value} {s : State} (hTw : ∀ w ∈ hb_G.2.1.1, w.before args s = true) : ∃ k, hc_K s k := by
  obtain ⟨a1, h1⟩ := hc_ar1 (hTw _ hc_w3) (fun _ h => by cases h)
  obtain ⟨a2, h2⟩ := hc_ar1 (hTw _ hc_w20) (fun _ h => by cases h)
  obtain ⟨a3, h3⟩ := hc_ar1 (hTw _ hc_w56) (fun _ h => by cases h)
  obtain ⟨a4, h4⟩ := hc_ar1 (hTw _ hc_w77) (fun _ h => by cases h)
  exact ⟨(a1, a2, a3, a4), h1, h2, h3, h4⟩
theorem hc_mx1 {wn : Nat} (h : 1 ≤ wn) (hw : wn < 2147483648) : (if nI 1 < nI wn then nI wn else nI 1) = nI wn := by
  rw [hm_nmax (by omega) hw, Nat.max_eq_right h]
theorem hc_mx0 {lm : Nat} (hl : lm < 2147483648) : (if nI 0 < nI lm then nI lm else nI 0) = nI lm := by
  rw [hm_nmax (by omega) hl, Nat.max_eq_right (Nat.zero_le _)]
theorem hc_nneg {n : Nat} (h : n < 2147483648) : ¬ nI n < 0 := nI_pos (by omega)
theorem hc_d_Table_0 : decode prog_9_method_1_code 0 = .ok (.aload_n 0, 1) := by decide +kernel
theorem hc_d_Table_1 : decode prog_9_method_1_code 1 = .ok (.invokespecial 3, 3) := by decide +kernel
theorem hc_d_Table_4 : decode prog_9_method_1_code 4 = .ok (.aload_n 0, 1) := by decide +kernel
theorem hc_d_Table_5 : decode prog_9_method_1_code 5 = .ok (.iconst 1, 1) := by decide +kernel
theorem hc_d_Table_6 : decode prog_9_method_1_code 6 = .ok (.iload_n 2, 1) := by decide +kernel
theorem hc_d_Table_7 : decode prog_9_method_1_code 7 = .ok (.invokestatic 9, 3) := by decide +kernel
theorem hc_d_Table_10 : decode prog_9_method_1_code 10 = .ok (.putfield 15, 3) := by decide +kernel
theorem hc_d_Table_13 : decode prog_9_method_1_code 13 = .ok (.aload_n 0, 1) := by decide +kernel
theorem hc_d_Table_14 : decode prog_9_method_1_code 14 = .ok (.iconst 0, 1) := by decide +kernel
theorem hc_d_Table_15 : decode prog_9_method_1_code 15 = .ok (.iload_n 1, 1) := by decide +kernel
theorem hc_d_Table_16 : decode prog_9_method_1_code 16 = .ok (.invokestatic 9, 3) := by decide +kernel
theorem hc_d_Table_19 : decode prog_9_method_1_code 19 = .ok (.aload_n 0, 1) := by decide +kernel
theorem hc_d_Table_20 : decode prog_9_method_1_code 20 = .ok (.getfield 15, 3) := by decide +kernel
theorem hc_d_Table_23 : decode prog_9_method_1_code 23 = .ok (.imul, 1) := by decide +kernel
theorem hc_d_Table_24 : decode prog_9_method_1_code 24 = .ok (.newarray .int, 2) := by decide +kernel
theorem hc_d_Table_26 : decode prog_9_method_1_code 26 = .ok (.putfield 21, 3) := by decide +kernel
theorem hc_d_Table_29 : decode prog_9_method_1_code 29 = .ok (.aload_n 0, 1) := by decide +kernel
theorem hc_d_Table_30 : decode prog_9_method_1_code 30 = .ok (.iconst 0, 1) := by decide +kernel
theorem hc_d_Table_31 : decode prog_9_method_1_code 31 = .ok (.putfield 25, 3) := by decide +kernel
theorem hc_d_Table_34 : decode prog_9_method_1_code 34 = .ok (.return_, 1) := by decide +kernel
abbrev hc_y_Table : hbY := (⟨"HopeBank$Table", "<init>", "(II)V"⟩, prog_9_method_1_code, 3, none)
set_option maxRecDepth 100000 in
theorem hc_cd_Table : Cond.code ⟨"HopeBank$Table", "<init>", "(II)V"⟩ prog_9_method_1_code 3 none ∈ hb_G.2.1.1 := List.mem_filter.mpr ⟨List.mem_of_getElem? (i := 156) rfl, rfl⟩
theorem hc_d_Town_0 : decode prog_11_method_1_code 0 = .ok (.aload_n 0, 1) := by decide +kernel
theorem hc_d_Town_1 : decode prog_11_method_1_code 1 = .ok (.invokespecial 3, 3) := by decide +kernel
theorem hc_d_Town_4 : decode prog_11_method_1_code 4 = .ok (.aload_n 0, 1) := by decide +kernel
theorem hc_d_Town_5 : decode prog_11_method_1_code 5 = .ok (.new 9, 3) := by decide +kernel
theorem hc_d_Town_8 : decode prog_11_method_1_code 8 = .ok (.dup, 1) := by decide +kernel
theorem hc_d_Town_9 : decode prog_11_method_1_code 9 = .ok (.iconst 1, 1) := by decide +kernel
theorem hc_d_Town_10 : decode prog_11_method_1_code 10 = .ok (.iconst 4, 1) := by decide +kernel
theorem hc_d_Town_11 : decode prog_11_method_1_code 11 = .ok (.invokespecial 11, 3) := by decide +kernel
theorem hc_d_Town_14 : decode prog_11_method_1_code 14 = .ok (.putfield 14, 3) := by decide +kernel
theorem hc_d_Town_17 : decode prog_11_method_1_code 17 = .ok (.aload_n 0, 1) := by decide +kernel
theorem hc_d_Town_18 : decode prog_11_method_1_code 18 = .ok (.new 9, 3) := by decide +kernel
theorem hc_d_Town_21 : decode prog_11_method_1_code 21 = .ok (.dup, 1) := by decide +kernel
theorem hc_d_Town_22 : decode prog_11_method_1_code 22 = .ok (.iconst 5, 1) := by decide +kernel
theorem hc_d_Town_23 : decode prog_11_method_1_code 23 = .ok (.iconst 2, 1) := by decide +kernel
theorem hc_d_Town_24 : decode prog_11_method_1_code 24 = .ok (.invokespecial 11, 3) := by decide +kernel
theorem hc_d_Town_27 : decode prog_11_method_1_code 27 = .ok (.putfield 20, 3) := by decide +kernel
theorem hc_d_Town_30 : decode prog_11_method_1_code 30 = .ok (.aload_n 0, 1) := by decide +kernel
theorem hc_d_Town_31 : decode prog_11_method_1_code 31 = .ok (.new 9, 3) := by decide +kernel
theorem hc_d_Town_34 : decode prog_11_method_1_code 34 = .ok (.dup, 1) := by decide +kernel
theorem hc_d_Town_35 : decode prog_11_method_1_code 35 = .ok (.bipush 8, 2) := by decide +kernel
theorem hc_d_Town_37 : decode prog_11_method_1_code 37 = .ok (.iconst 3, 1) := by decide +kernel
theorem hc_d_Town_38 : decode prog_11_method_1_code 38 = .ok (.invokespecial 11, 3) := by decide +kernel
theorem hc_d_Town_41 : decode prog_11_method_1_code 41 = .ok (.putfield 23, 3) := by decide +kernel
theorem hc_d_Town_44 : decode prog_11_method_1_code 44 = .ok (.aload_n 0, 1) := by decide +kernel
theorem hc_d_Town_45 : decode prog_11_method_1_code 45 = .ok (.new 9, 3) := by decide +kernel
theorem hc_d_Town_48 : decode prog_11_method_1_code 48 = .ok (.dup, 1) := by decide +kernel
theorem hc_d_Town_49 : decode prog_11_method_1_code 49 = .ok (.bipush 10, 2) := by decide +kernel
theorem hc_d_Town_51 : decode prog_11_method_1_code 51 = .ok (.iconst 3, 1) := by decide +kernel
theorem hc_d_Town_52 : decode prog_11_method_1_code 52 = .ok (.invokespecial 11, 3) := by decide +kernel
theorem hc_d_Town_55 : decode prog_11_method_1_code 55 = .ok (.putfield 26, 3) := by decide +kernel
theorem hc_d_Town_58 : decode prog_11_method_1_code 58 = .ok (.aload_n 0, 1) := by decide +kernel
theorem hc_d_Town_59 : decode prog_11_method_1_code 59 = .ok (.new 9, 3) := by decide +kernel
theorem hc_d_Town_62 : decode prog_11_method_1_code 62 = .ok (.dup, 1) := by decide +kernel
theorem hc_d_Town_63 : decode prog_11_method_1_code 63 = .ok (.bipush 6, 2) := by decide +kernel
theorem hc_d_Town_65 : decode prog_11_method_1_code 65 = .ok (.iconst 3, 1) := by decide +kernel
theorem hc_d_Town_66 : decode prog_11_method_1_code 66 = .ok (.invokespecial 11, 3) := by decide +kernel
theorem hc_d_Town_69 : decode prog_11_method_1_code 69 = .ok (.putfield 29, 3) := by decide +kernel
theorem hc_d_Town_72 : decode prog_11_method_1_code 72 = .ok (.aload_n 0, 1) := by decide +kernel
theorem hc_d_Town_73 : decode prog_11_method_1_code 73 = .ok (.new 9, 3) := by decide +kernel
theorem hc_d_Town_76 : decode prog_11_method_1_code 76 = .ok (.dup, 1) := by decide +kernel
theorem hc_d_Town_77 : decode prog_11_method_1_code 77 = .ok (.bipush 30, 2) := by decide +kernel
theorem hc_d_Town_79 : decode prog_11_method_1_code 79 = .ok (.iconst 3, 1) := by decide +kernel
theorem hc_d_Town_80 : decode prog_11_method_1_code 80 = .ok (.invokespecial 11, 3) := by decide +kernel
theorem hc_d_Town_83 : decode prog_11_method_1_code 83 = .ok (.putfield 32, 3) := by decide +kernel
theorem hc_d_Town_86 : decode prog_11_method_1_code 86 = .ok (.aload_n 0, 1) := by decide +kernel
theorem hc_d_Town_87 : decode prog_11_method_1_code 87 = .ok (.new 9, 3) := by decide +kernel
theorem hc_d_Town_90 : decode prog_11_method_1_code 90 = .ok (.dup, 1) := by decide +kernel
theorem hc_d_Town_91 : decode prog_11_method_1_code 91 = .ok (.bipush 46, 2) := by decide +kernel
theorem hc_d_Town_93 : decode prog_11_method_1_code 93 = .ok (.iconst 3, 1) := by decide +kernel
theorem hc_d_Town_94 : decode prog_11_method_1_code 94 = .ok (.invokespecial 11, 3) := by decide +kernel
theorem hc_d_Town_97 : decode prog_11_method_1_code 97 = .ok (.putfield 35, 3) := by decide +kernel
theorem hc_d_Town_100 : decode prog_11_method_1_code 100 = .ok (.return_, 1) := by decide +kernel
abbrev hc_y_Town : hbY := (⟨"HopeBank$Town", "<init>", "()V"⟩, prog_11_method_1_code, 1, none)
set_option maxRecDepth 100000 in
theorem hc_cd_Town : Cond.code ⟨"HopeBank$Town", "<init>", "()V"⟩ prog_11_method_1_code 1 none ∈ hb_G.2.1.1 := List.mem_filter.mpr ⟨List.mem_of_getElem? (i := 150) rfl, rfl⟩
theorem hc_d_Reader_0 : decode prog_6_method_1_code 0 = .ok (.aload_n 0, 1) := by decide +kernel
theorem hc_d_Reader_1 : decode prog_6_method_1_code 1 = .ok (.invokespecial 3, 3) := by decide +kernel
theorem hc_d_Reader_4 : decode prog_6_method_1_code 4 = .ok (.aload_n 0, 1) := by decide +kernel
theorem hc_d_Reader_5 : decode prog_6_method_1_code 5 = .ok (.sipush 900, 3) := by decide +kernel
theorem hc_d_Reader_8 : decode prog_6_method_1_code 8 = .ok (.newarray .byte, 2) := by decide +kernel
theorem hc_d_Reader_10 : decode prog_6_method_1_code 10 = .ok (.putfield 9, 3) := by decide +kernel
theorem hc_d_Reader_13 : decode prog_6_method_1_code 13 = .ok (.aload_n 0, 1) := by decide +kernel
theorem hc_d_Reader_14 : decode prog_6_method_1_code 14 = .ok (.new 15, 3) := by decide +kernel
theorem hc_d_Reader_17 : decode prog_6_method_1_code 17 = .ok (.dup, 1) := by decide +kernel
theorem hc_d_Reader_18 : decode prog_6_method_1_code 18 = .ok (.invokespecial 17, 3) := by decide +kernel
theorem hc_d_Reader_21 : decode prog_6_method_1_code 21 = .ok (.putfield 18, 3) := by decide +kernel
theorem hc_d_Reader_24 : decode prog_6_method_1_code 24 = .ok (.aload_n 0, 1) := by decide +kernel
theorem hc_d_Reader_25 : decode prog_6_method_1_code 25 = .ok (.iconst (-1), 1) := by decide +kernel
theorem hc_d_Reader_26 : decode prog_6_method_1_code 26 = .ok (.putfield 22, 3) := by decide +kernel
theorem hc_d_Reader_29 : decode prog_6_method_1_code 29 = .ok (.aload_n 0, 1) := by decide +kernel
theorem hc_d_Reader_30 : decode prog_6_method_1_code 30 = .ok (.iconst 4, 1) := by decide +kernel
theorem hc_d_Reader_31 : decode prog_6_method_1_code 31 = .ok (.newarray .int, 2) := by decide +kernel
theorem hc_d_Reader_33 : decode prog_6_method_1_code 33 = .ok (.putfield 26, 3) := by decide +kernel
theorem hc_d_Reader_36 : decode prog_6_method_1_code 36 = .ok (.return_, 1) := by decide +kernel
abbrev hc_y_Reader : hbY := (⟨"HopeBank$Reader", "<init>", "()V"⟩, prog_6_method_1_code, 1, none)
set_option maxRecDepth 100000 in
theorem hc_cd_Reader : Cond.code ⟨"HopeBank$Reader", "<init>", "()V"⟩ prog_6_method_1_code 1 none ∈ hb_G.2.1.1 := List.mem_filter.mpr ⟨List.mem_of_getElem? (i := 144) rfl, rfl⟩
theorem hc_d_Look_0 : decode prog_3_method_1_code 0 = .ok (.aload_n 0, 1) := by decide +kernel
theorem hc_d_Look_1 : decode prog_3_method_1_code 1 = .ok (.invokespecial 3, 3) := by decide +kernel
theorem hc_d_Look_4 : decode prog_3_method_1_code 4 = .ok (.aload_n 0, 1) := by decide +kernel
theorem hc_d_Look_5 : decode prog_3_method_1_code 5 = .ok (.aload_n 1, 1) := by decide +kernel
theorem hc_d_Look_6 : decode prog_3_method_1_code 6 = .ok (.putfield 9, 3) := by decide +kernel
theorem hc_d_Look_9 : decode prog_3_method_1_code 9 = .ok (.aload_n 0, 1) := by decide +kernel
theorem hc_d_Look_10 : decode prog_3_method_1_code 10 = .ok (.aload_n 2, 1) := by decide +kernel
theorem hc_d_Look_11 : decode prog_3_method_1_code 11 = .ok (.putfield 15, 3) := by decide +kernel
theorem hc_d_Look_14 : decode prog_3_method_1_code 14 = .ok (.return_, 1) := by decide +kernel
abbrev hc_y_Look : hbY := (⟨"HopeBank$Look", "<init>", "(LHopeBank$Town;LHopeBank$Play;)V"⟩, prog_3_method_1_code, 3, none)
set_option maxRecDepth 100000 in
theorem hc_cd_Look : Cond.code ⟨"HopeBank$Look", "<init>", "(LHopeBank$Town;LHopeBank$Play;)V"⟩ prog_3_method_1_code 3 none ∈ hb_G.2.1.1 := List.mem_filter.mpr ⟨List.mem_of_getElem? (i := 362) rfl, rfl⟩
theorem hc_d_Sets_0 : decode prog_7_method_1_code 0 = .ok (.aload_n 0, 1) := by decide +kernel
theorem hc_d_Sets_1 : decode prog_7_method_1_code 1 = .ok (.invokespecial 3, 3) := by decide +kernel
theorem hc_d_Sets_4 : decode prog_7_method_1_code 4 = .ok (.aload_n 0, 1) := by decide +kernel
theorem hc_d_Sets_5 : decode prog_7_method_1_code 5 = .ok (.sipush 256, 3) := by decide +kernel
theorem hc_d_Sets_8 : decode prog_7_method_1_code 8 = .ok (.newarray .int, 2) := by decide +kernel
theorem hc_d_Sets_10 : decode prog_7_method_1_code 10 = .ok (.putfield 9, 3) := by decide +kernel
theorem hc_d_Sets_13 : decode prog_7_method_1_code 13 = .ok (.aload_n 0, 1) := by decide +kernel
theorem hc_d_Sets_14 : decode prog_7_method_1_code 14 = .ok (.sipush 256, 3) := by decide +kernel
theorem hc_d_Sets_17 : decode prog_7_method_1_code 17 = .ok (.newarray .int, 2) := by decide +kernel
theorem hc_d_Sets_19 : decode prog_7_method_1_code 19 = .ok (.putfield 15, 3) := by decide +kernel
theorem hc_d_Sets_22 : decode prog_7_method_1_code 22 = .ok (.aload_n 0, 1) := by decide +kernel
theorem hc_d_Sets_23 : decode prog_7_method_1_code 23 = .ok (.aload_n 1, 1) := by decide +kernel
theorem hc_d_Sets_24 : decode prog_7_method_1_code 24 = .ok (.putfield 18, 3) := by decide +kernel
theorem hc_d_Sets_27 : decode prog_7_method_1_code 27 = .ok (.return_, 1) := by decide +kernel
abbrev hc_y_Sets : hbY := (⟨"HopeBank$Sets", "<init>", "(LHopeBank$Town;)V"⟩, prog_7_method_1_code, 2, none)
set_option maxRecDepth 100000 in
theorem hc_cd_Sets : Cond.code ⟨"HopeBank$Sets", "<init>", "(LHopeBank$Town;)V"⟩ prog_7_method_1_code 2 none ∈ hb_G.2.1.1 := List.mem_filter.mpr ⟨List.mem_of_getElem? (i := 401) rfl, rfl⟩
theorem hc_d_Packing_0 : decode prog_4_method_1_code 0 = .ok (.aload_n 0, 1) := by decide +kernel
theorem hc_d_Packing_1 : decode prog_4_method_1_code 1 = .ok (.invokespecial 3, 3) := by decide +kernel
theorem hc_d_Packing_4 : decode prog_4_method_1_code 4 = .ok (.aload_n 0, 1) := by decide +kernel
theorem hc_d_Packing_5 : decode prog_4_method_1_code 5 = .ok (.sipush 256, 3) := by decide +kernel
theorem hc_d_Packing_8 : decode prog_4_method_1_code 8 = .ok (.newarray .int, 2) := by decide +kernel
theorem hc_d_Packing_10 : decode prog_4_method_1_code 10 = .ok (.putfield 9, 3) := by decide +kernel
theorem hc_d_Packing_13 : decode prog_4_method_1_code 13 = .ok (.aload_n 0, 1) := by decide +kernel
theorem hc_d_Packing_14 : decode prog_4_method_1_code 14 = .ok (.iconst 5, 1) := by decide +kernel
theorem hc_d_Packing_15 : decode prog_4_method_1_code 15 = .ok (.newarray .int, 2) := by decide +kernel
theorem hc_d_Packing_17 : decode prog_4_method_1_code 17 = .ok (.putfield 15, 3) := by decide +kernel
theorem hc_d_Packing_20 : decode prog_4_method_1_code 20 = .ok (.aload_n 0, 1) := by decide +kernel
theorem hc_d_Packing_21 : decode prog_4_method_1_code 21 = .ok (.bipush 8, 2) := by decide +kernel
theorem hc_d_Packing_23 : decode prog_4_method_1_code 23 = .ok (.newarray .int, 2) := by decide +kernel
theorem hc_d_Packing_25 : decode prog_4_method_1_code 25 = .ok (.putfield 18, 3) := by decide +kernel
theorem hc_d_Packing_28 : decode prog_4_method_1_code 28 = .ok (.aload_n 0, 1) := by decide +kernel
theorem hc_d_Packing_29 : decode prog_4_method_1_code 29 = .ok (.aload_n 1, 1) := by decide +kernel
theorem hc_d_Packing_30 : decode prog_4_method_1_code 30 = .ok (.putfield 21, 3) := by decide +kernel
theorem hc_d_Packing_33 : decode prog_4_method_1_code 33 = .ok (.aload_n 0, 1) := by decide +kernel
theorem hc_d_Packing_34 : decode prog_4_method_1_code 34 = .ok (.aload_n 2, 1) := by decide +kernel
theorem hc_d_Packing_35 : decode prog_4_method_1_code 35 = .ok (.putfield 25, 3) := by decide +kernel
theorem hc_d_Packing_38 : decode prog_4_method_1_code 38 = .ok (.return_, 1) := by decide +kernel
abbrev hc_y_Packing : hbY := (⟨"HopeBank$Packing", "<init>", "(LHopeBank$Town;LHopeBank$Sets;)V"⟩, prog_4_method_1_code, 3, none)
set_option maxRecDepth 100000 in
theorem hc_cd_Packing : Cond.code ⟨"HopeBank$Packing", "<init>", "(LHopeBank$Town;LHopeBank$Sets;)V"⟩ prog_4_method_1_code 3 none ∈ hb_G.2.1.1 := List.mem_filter.mpr ⟨List.mem_of_getElem? (i := 423) rfl, rfl⟩
theorem hc_d_Hush_0 : decode prog_2_method_1_code 0 = .ok (.aload_n 0, 1) := by decide +kernel
theorem hc_d_Hush_1 : decode prog_2_method_1_code 1 = .ok (.invokespecial 3, 3) := by decide +kernel
theorem hc_d_Hush_4 : decode prog_2_method_1_code 4 = .ok (.aload_n 0, 1) := by decide +kernel
theorem hc_d_Hush_5 : decode prog_2_method_1_code 5 = .ok (.sipush 256, 3) := by decide +kernel
theorem hc_d_Hush_8 : decode prog_2_method_1_code 8 = .ok (.newarray .int, 2) := by decide +kernel
theorem hc_d_Hush_10 : decode prog_2_method_1_code 10 = .ok (.putfield 9, 3) := by decide +kernel
theorem hc_d_Hush_13 : decode prog_2_method_1_code 13 = .ok (.aload_n 0, 1) := by decide +kernel
theorem hc_d_Hush_14 : decode prog_2_method_1_code 14 = .ok (.sipush 256, 3) := by decide +kernel
theorem hc_d_Hush_17 : decode prog_2_method_1_code 17 = .ok (.newarray .int, 2) := by decide +kernel
theorem hc_d_Hush_19 : decode prog_2_method_1_code 19 = .ok (.putfield 15, 3) := by decide +kernel
theorem hc_d_Hush_22 : decode prog_2_method_1_code 22 = .ok (.aload_n 0, 1) := by decide +kernel
theorem hc_d_Hush_23 : decode prog_2_method_1_code 23 = .ok (.aload_n 1, 1) := by decide +kernel
theorem hc_d_Hush_24 : decode prog_2_method_1_code 24 = .ok (.putfield 18, 3) := by decide +kernel
theorem hc_d_Hush_27 : decode prog_2_method_1_code 27 = .ok (.aload_n 0, 1) := by decide +kernel
theorem hc_d_Hush_28 : decode prog_2_method_1_code 28 = .ok (.aload_n 2, 1) := by decide +kernel
theorem hc_d_Hush_29 : decode prog_2_method_1_code 29 = .ok (.putfield 22, 3) := by decide +kernel
theorem hc_d_Hush_32 : decode prog_2_method_1_code 32 = .ok (.return_, 1) := by decide +kernel
abbrev hc_y_Hush : hbY := (⟨"HopeBank$Hush", "<init>", "(LHopeBank$Town;LHopeBank$Sets;)V"⟩, prog_2_method_1_code, 3, none)
set_option maxRecDepth 100000 in
theorem hc_cd_Hush : Cond.code ⟨"HopeBank$Hush", "<init>", "(LHopeBank$Town;LHopeBank$Sets;)V"⟩ prog_2_method_1_code 3 none ∈ hb_G.2.1.1 := List.mem_filter.mpr ⟨List.mem_of_getElem? (i := 457) rfl, rfl⟩
theorem hc_d_Tilting_0 : decode prog_10_method_1_code 0 = .ok (.aload_n 0, 1) := by decide +kernel
theorem hc_d_Tilting_1 : decode prog_10_method_1_code 1 = .ok (.invokespecial 3, 3) := by decide +kernel
theorem hc_d_Tilting_4 : decode prog_10_method_1_code 4 = .ok (.aload_n 0, 1) := by decide +kernel
theorem hc_d_Tilting_5 : decode prog_10_method_1_code 5 = .ok (.sipush 256, 3) := by decide +kernel
theorem hc_d_Tilting_8 : decode prog_10_method_1_code 8 = .ok (.newarray .int, 2) := by decide +kernel
theorem hc_d_Tilting_10 : decode prog_10_method_1_code 10 = .ok (.putfield 9, 3) := by decide +kernel
theorem hc_d_Tilting_13 : decode prog_10_method_1_code 13 = .ok (.aload_n 0, 1) := by decide +kernel
theorem hc_d_Tilting_14 : decode prog_10_method_1_code 14 = .ok (.bipush 9, 2) := by decide +kernel
theorem hc_d_Tilting_16 : decode prog_10_method_1_code 16 = .ok (.newarray .int, 2) := by decide +kernel
theorem hc_d_Tilting_18 : decode prog_10_method_1_code 18 = .ok (.putfield 15, 3) := by decide +kernel
theorem hc_d_Tilting_21 : decode prog_10_method_1_code 21 = .ok (.aload_n 0, 1) := by decide +kernel
theorem hc_d_Tilting_22 : decode prog_10_method_1_code 22 = .ok (.aload_n 1, 1) := by decide +kernel
theorem hc_d_Tilting_23 : decode prog_10_method_1_code 23 = .ok (.putfield 18, 3) := by decide +kernel
theorem hc_d_Tilting_26 : decode prog_10_method_1_code 26 = .ok (.aload_n 0, 1) := by decide +kernel
theorem hc_d_Tilting_27 : decode prog_10_method_1_code 27 = .ok (.aload_n 2, 1) := by decide +kernel
theorem hc_d_Tilting_28 : decode prog_10_method_1_code 28 = .ok (.putfield 22, 3) := by decide +kernel
theorem hc_d_Tilting_31 : decode prog_10_method_1_code 31 = .ok (.aload_n 0, 1) := by decide +kernel
theorem hc_d_Tilting_32 : decode prog_10_method_1_code 32 = .ok (.aload_n 3, 1) := by decide +kernel
theorem hc_d_Tilting_33 : decode prog_10_method_1_code 33 = .ok (.putfield 26, 3) := by decide +kernel
theorem hc_d_Tilting_36 : decode prog_10_method_1_code 36 = .ok (.return_, 1) := by decide +kernel
abbrev hc_y_Tilting : hbY := (⟨"HopeBank$Tilting", "<init>", "(LHopeBank$Town;LHopeBank$Sets;LHopeBank$Slots;)V"⟩, prog_10_method_1_code, 4, none)
set_option maxRecDepth 100000 in
theorem hc_cd_Tilting : Cond.code ⟨"HopeBank$Tilting", "<init>", "(LHopeBank$Town;LHopeBank$Sets;LHopeBank$Slots;)V"⟩ prog_10_method_1_code 4 none ∈ hb_G.2.1.1 := List.mem_filter.mpr ⟨List.mem_of_getElem? (i := 501) rfl, rfl⟩
theorem hc_d_HopeBankModel_0 : decode prog_14_method_1_code 0 = .ok (.aload_n 0, 1) := by decide +kernel
theorem hc_d_HopeBankModel_1 : decode prog_14_method_1_code 1 = .ok (.invokespecial 3, 3) := by decide +kernel
theorem hc_d_HopeBankModel_4 : decode prog_14_method_1_code 4 = .ok (.aload_n 0, 1) := by decide +kernel
theorem hc_d_HopeBankModel_5 : decode prog_14_method_1_code 5 = .ok (.bipush 122, 2) := by decide +kernel
theorem hc_d_HopeBankModel_7 : decode prog_14_method_1_code 7 = .ok (.newarray .int, 2) := by decide +kernel
theorem hc_d_HopeBankModel_9 : decode prog_14_method_1_code 9 = .ok (.putfield 9, 3) := by decide +kernel
theorem hc_d_HopeBankModel_12 : decode prog_14_method_1_code 12 = .ok (.aload_n 0, 1) := by decide +kernel
theorem hc_d_HopeBankModel_13 : decode prog_14_method_1_code 13 = .ok (.sipush 366, 3) := by decide +kernel
theorem hc_d_HopeBankModel_16 : decode prog_14_method_1_code 16 = .ok (.newarray .int, 2) := by decide +kernel
theorem hc_d_HopeBankModel_18 : decode prog_14_method_1_code 18 = .ok (.putfield 13, 3) := by decide +kernel
theorem hc_d_HopeBankModel_21 : decode prog_14_method_1_code 21 = .ok (.aload_n 0, 1) := by decide +kernel
theorem hc_d_HopeBankModel_22 : decode prog_14_method_1_code 22 = .ok (.iconst 3, 1) := by decide +kernel
theorem hc_d_HopeBankModel_23 : decode prog_14_method_1_code 23 = .ok (.newarray .boolean, 2) := by decide +kernel
theorem hc_d_HopeBankModel_25 : decode prog_14_method_1_code 25 = .ok (.putfield 16, 3) := by decide +kernel
theorem hc_d_HopeBankModel_28 : decode prog_14_method_1_code 28 = .ok (.aload_n 0, 1) := by decide +kernel
theorem hc_d_HopeBankModel_29 : decode prog_14_method_1_code 29 = .ok (.sipush 900, 3) := by decide +kernel
theorem hc_d_HopeBankModel_32 : decode prog_14_method_1_code 32 = .ok (.newarray .byte, 2) := by decide +kernel
theorem hc_d_HopeBankModel_34 : decode prog_14_method_1_code 34 = .ok (.putfield 20, 3) := by decide +kernel
theorem hc_d_HopeBankModel_37 : decode prog_14_method_1_code 37 = .ok (.aload_n 0, 1) := by decide +kernel
theorem hc_d_HopeBankModel_38 : decode prog_14_method_1_code 38 = .ok (.iconst 5, 1) := by decide +kernel
theorem hc_d_HopeBankModel_39 : decode prog_14_method_1_code 39 = .ok (.newarray .int, 2) := by decide +kernel
theorem hc_d_HopeBankModel_41 : decode prog_14_method_1_code 41 = .ok (.putfield 24, 3) := by decide +kernel
theorem hc_d_HopeBankModel_44 : decode prog_14_method_1_code 44 = .ok (.aload_n 0, 1) := by decide +kernel
theorem hc_d_HopeBankModel_45 : decode prog_14_method_1_code 45 = .ok (.iconst (-1), 1) := by decide +kernel
theorem hc_d_HopeBankModel_46 : decode prog_14_method_1_code 46 = .ok (.putfield 27, 3) := by decide +kernel
theorem hc_d_HopeBankModel_49 : decode prog_14_method_1_code 49 = .ok (.aload_n 0, 1) := by decide +kernel
theorem hc_d_HopeBankModel_50 : decode prog_14_method_1_code 50 = .ok (.bipush 122, 2) := by decide +kernel
theorem hc_d_HopeBankModel_52 : decode prog_14_method_1_code 52 = .ok (.newarray .int, 2) := by decide +kernel
theorem hc_d_HopeBankModel_54 : decode prog_14_method_1_code 54 = .ok (.putfield 31, 3) := by decide +kernel
theorem hc_d_HopeBankModel_57 : decode prog_14_method_1_code 57 = .ok (.aload_n 0, 1) := by decide +kernel
theorem hc_d_HopeBankModel_58 : decode prog_14_method_1_code 58 = .ok (.iconst 5, 1) := by decide +kernel
theorem hc_d_HopeBankModel_59 : decode prog_14_method_1_code 59 = .ok (.newarray .int, 2) := by decide +kernel
theorem hc_d_HopeBankModel_61 : decode prog_14_method_1_code 61 = .ok (.putfield 34, 3) := by decide +kernel
theorem hc_d_HopeBankModel_64 : decode prog_14_method_1_code 64 = .ok (.aload_n 0, 1) := by decide +kernel
theorem hc_d_HopeBankModel_65 : decode prog_14_method_1_code 65 = .ok (.bipush 8, 2) := by decide +kernel
theorem hc_d_HopeBankModel_67 : decode prog_14_method_1_code 67 = .ok (.newarray .int, 2) := by decide +kernel
theorem hc_d_HopeBankModel_69 : decode prog_14_method_1_code 69 = .ok (.putfield 37, 3) := by decide +kernel
theorem hc_d_HopeBankModel_72 : decode prog_14_method_1_code 72 = .ok (.aload_n 0, 1) := by decide +kernel
theorem hc_d_HopeBankModel_73 : decode prog_14_method_1_code 73 = .ok (.sipush 160, 3) := by decide +kernel
theorem hc_d_HopeBankModel_76 : decode prog_14_method_1_code 76 = .ok (.newarray .int, 2) := by decide +kernel
theorem hc_d_HopeBankModel_78 : decode prog_14_method_1_code 78 = .ok (.putfield 40, 3) := by decide +kernel
theorem hc_d_HopeBankModel_81 : decode prog_14_method_1_code 81 = .ok (.aload_n 0, 1) := by decide +kernel
theorem hc_d_HopeBankModel_82 : decode prog_14_method_1_code 82 = .ok (.bipush 8, 2) := by decide +kernel
theorem hc_d_HopeBankModel_84 : decode prog_14_method_1_code 84 = .ok (.newarray .int, 2) := by decide +kernel
theorem hc_d_HopeBankModel_86 : decode prog_14_method_1_code 86 = .ok (.putfield 43, 3) := by decide +kernel
theorem hc_d_HopeBankModel_89 : decode prog_14_method_1_code 89 = .ok (.aload_n 0, 1) := by decide +kernel
theorem hc_d_HopeBankModel_90 : decode prog_14_method_1_code 90 = .ok (.bipush 8, 2) := by decide +kernel
theorem hc_d_HopeBankModel_92 : decode prog_14_method_1_code 92 = .ok (.newarray .int, 2) := by decide +kernel
theorem hc_d_HopeBankModel_94 : decode prog_14_method_1_code 94 = .ok (.putfield 46, 3) := by decide +kernel
theorem hc_d_HopeBankModel_97 : decode prog_14_method_1_code 97 = .ok (.aload_n 0, 1) := by decide +kernel
theorem hc_d_HopeBankModel_98 : decode prog_14_method_1_code 98 = .ok (.bipush 8, 2) := by decide +kernel
theorem hc_d_HopeBankModel_100 : decode prog_14_method_1_code 100 = .ok (.newarray .int, 2) := by decide +kernel
theorem hc_d_HopeBankModel_102 : decode prog_14_method_1_code 102 = .ok (.putfield 49, 3) := by decide +kernel
theorem hc_d_HopeBankModel_105 : decode prog_14_method_1_code 105 = .ok (.aload_n 0, 1) := by decide +kernel
theorem hc_d_HopeBankModel_106 : decode prog_14_method_1_code 106 = .ok (.bipush 6, 2) := by decide +kernel
theorem hc_d_HopeBankModel_108 : decode prog_14_method_1_code 108 = .ok (.newarray .int, 2) := by decide +kernel
theorem hc_d_HopeBankModel_110 : decode prog_14_method_1_code 110 = .ok (.putfield 52, 3) := by decide +kernel
theorem hc_d_HopeBankModel_113 : decode prog_14_method_1_code 113 = .ok (.aload_n 0, 1) := by decide +kernel
theorem hc_d_HopeBankModel_114 : decode prog_14_method_1_code 114 = .ok (.iconst 5, 1) := by decide +kernel
theorem hc_d_HopeBankModel_115 : decode prog_14_method_1_code 115 = .ok (.newarray .boolean, 2) := by decide +kernel
theorem hc_d_HopeBankModel_117 : decode prog_14_method_1_code 117 = .ok (.putfield 55, 3) := by decide +kernel
theorem hc_d_HopeBankModel_120 : decode prog_14_method_1_code 120 = .ok (.aload_n 0, 1) := by decide +kernel
theorem hc_d_HopeBankModel_121 : decode prog_14_method_1_code 121 = .ok (.sipush 1536, 3) := by decide +kernel
theorem hc_d_HopeBankModel_124 : decode prog_14_method_1_code 124 = .ok (.newarray .boolean, 2) := by decide +kernel
theorem hc_d_HopeBankModel_126 : decode prog_14_method_1_code 126 = .ok (.putfield 58, 3) := by decide +kernel
theorem hc_d_HopeBankModel_129 : decode prog_14_method_1_code 129 = .ok (.aload_n 0, 1) := by decide +kernel
theorem hc_d_HopeBankModel_130 : decode prog_14_method_1_code 130 = .ok (.iconst 5, 1) := by decide +kernel
theorem hc_d_HopeBankModel_131 : decode prog_14_method_1_code 131 = .ok (.newarray .int, 2) := by decide +kernel
theorem hc_d_HopeBankModel_133 : decode prog_14_method_1_code 133 = .ok (.putfield 61, 3) := by decide +kernel
theorem hc_d_HopeBankModel_136 : decode prog_14_method_1_code 136 = .ok (.aload_n 0, 1) := by decide +kernel
theorem hc_d_HopeBankModel_137 : decode prog_14_method_1_code 137 = .ok (.sipush 256, 3) := by decide +kernel
theorem hc_d_HopeBankModel_140 : decode prog_14_method_1_code 140 = .ok (.newarray .int, 2) := by decide +kernel
theorem hc_d_HopeBankModel_142 : decode prog_14_method_1_code 142 = .ok (.putfield 64, 3) := by decide +kernel
theorem hc_d_HopeBankModel_145 : decode prog_14_method_1_code 145 = .ok (.aload_n 0, 1) := by decide +kernel
theorem hc_d_HopeBankModel_146 : decode prog_14_method_1_code 146 = .ok (.sipush 256, 3) := by decide +kernel
theorem hc_d_HopeBankModel_149 : decode prog_14_method_1_code 149 = .ok (.newarray .int, 2) := by decide +kernel
theorem hc_d_HopeBankModel_151 : decode prog_14_method_1_code 151 = .ok (.putfield 67, 3) := by decide +kernel
theorem hc_d_HopeBankModel_154 : decode prog_14_method_1_code 154 = .ok (.aload_n 0, 1) := by decide +kernel
theorem hc_d_HopeBankModel_155 : decode prog_14_method_1_code 155 = .ok (.sipush 256, 3) := by decide +kernel
theorem hc_d_HopeBankModel_158 : decode prog_14_method_1_code 158 = .ok (.newarray .int, 2) := by decide +kernel
theorem hc_d_HopeBankModel_160 : decode prog_14_method_1_code 160 = .ok (.putfield 70, 3) := by decide +kernel
theorem hc_d_HopeBankModel_163 : decode prog_14_method_1_code 163 = .ok (.aload_n 0, 1) := by decide +kernel
theorem hc_d_HopeBankModel_164 : decode prog_14_method_1_code 164 = .ok (.iconst 4, 1) := by decide +kernel
theorem hc_d_HopeBankModel_165 : decode prog_14_method_1_code 165 = .ok (.newarray .int, 2) := by decide +kernel
theorem hc_d_HopeBankModel_167 : decode prog_14_method_1_code 167 = .ok (.dup, 1) := by decide +kernel
theorem hc_d_HopeBankModel_168 : decode prog_14_method_1_code 168 = .ok (.iconst 0, 1) := by decide +kernel
theorem hc_d_HopeBankModel_169 : decode prog_14_method_1_code 169 = .ok (.iconst (-1), 1) := by decide +kernel
theorem hc_d_HopeBankModel_170 : decode prog_14_method_1_code 170 = .ok (.iastore, 1) := by decide +kernel
theorem hc_d_HopeBankModel_171 : decode prog_14_method_1_code 171 = .ok (.dup, 1) := by decide +kernel
theorem hc_d_HopeBankModel_172 : decode prog_14_method_1_code 172 = .ok (.iconst 1, 1) := by decide +kernel
theorem hc_d_HopeBankModel_173 : decode prog_14_method_1_code 173 = .ok (.iconst (-1), 1) := by decide +kernel
theorem hc_d_HopeBankModel_174 : decode prog_14_method_1_code 174 = .ok (.iastore, 1) := by decide +kernel
theorem hc_d_HopeBankModel_175 : decode prog_14_method_1_code 175 = .ok (.dup, 1) := by decide +kernel
theorem hc_d_HopeBankModel_176 : decode prog_14_method_1_code 176 = .ok (.iconst 2, 1) := by decide +kernel
theorem hc_d_HopeBankModel_177 : decode prog_14_method_1_code 177 = .ok (.iconst (-1), 1) := by decide +kernel
theorem hc_d_HopeBankModel_178 : decode prog_14_method_1_code 178 = .ok (.iastore, 1) := by decide +kernel
theorem hc_d_HopeBankModel_179 : decode prog_14_method_1_code 179 = .ok (.dup, 1) := by decide +kernel
theorem hc_d_HopeBankModel_180 : decode prog_14_method_1_code 180 = .ok (.iconst 3, 1) := by decide +kernel
theorem hc_d_HopeBankModel_181 : decode prog_14_method_1_code 181 = .ok (.iconst (-1), 1) := by decide +kernel
theorem hc_d_HopeBankModel_182 : decode prog_14_method_1_code 182 = .ok (.iastore, 1) := by decide +kernel
theorem hc_d_HopeBankModel_183 : decode prog_14_method_1_code 183 = .ok (.putfield 73, 3) := by decide +kernel
theorem hc_d_HopeBankModel_186 : decode prog_14_method_1_code 186 = .ok (.aload_n 0, 1) := by decide +kernel
theorem hc_d_HopeBankModel_187 : decode prog_14_method_1_code 187 = .ok (.iconst 4, 1) := by decide +kernel
theorem hc_d_HopeBankModel_188 : decode prog_14_method_1_code 188 = .ok (.newarray .int, 2) := by decide +kernel
theorem hc_d_HopeBankModel_190 : decode prog_14_method_1_code 190 = .ok (.putfield 76, 3) := by decide +kernel
theorem hc_d_HopeBankModel_193 : decode prog_14_method_1_code 193 = .ok (.aload_n 0, 1) := by decide +kernel
theorem hc_d_HopeBankModel_194 : decode prog_14_method_1_code 194 = .ok (.sipush 240, 3) := by decide +kernel
theorem hc_d_HopeBankModel_197 : decode prog_14_method_1_code 197 = .ok (.newarray .long, 2) := by decide +kernel
theorem hc_d_HopeBankModel_199 : decode prog_14_method_1_code 199 = .ok (.putfield 79, 3) := by decide +kernel
theorem hc_d_HopeBankModel_202 : decode prog_14_method_1_code 202 = .ok (.aload_n 0, 1) := by decide +kernel
theorem hc_d_HopeBankModel_203 : decode prog_14_method_1_code 203 = .ok (.bipush 60, 2) := by decide +kernel
theorem hc_d_HopeBankModel_205 : decode prog_14_method_1_code 205 = .ok (.newarray .long, 2) := by decide +kernel
theorem hc_d_HopeBankModel_207 : decode prog_14_method_1_code 207 = .ok (.putfield 83, 3) := by decide +kernel
theorem hc_d_HopeBankModel_210 : decode prog_14_method_1_code 210 = .ok (.return_, 1) := by decide +kernel
abbrev hc_y_HopeBankModel : hbY := (⟨"HopeBankModel", "<init>", "()V"⟩, prog_14_method_1_code, 1, none)
set_option maxRecDepth 100000 in
theorem hc_cd_HopeBankModel : Cond.code ⟨"HopeBankModel", "<init>", "()V"⟩ prog_14_method_1_code 1 none ∈ hb_G.2.1.1 := List.mem_filter.mpr ⟨List.mem_of_getElem? (i := 1554) rfl, rfl⟩
def hc_F_Table (lm wn : Nat) (b : Nat → Nat) : List Value := [.int (nI wn), .ref (b 0), .int (nI 0)]
def hc_L_Table (k : hcK) (lm wn : Nat) (b : Nat → Nat) : va_W := [(b 0, .inl (k.1, lm * wn, .inl (fun _ => 0)))]
set_option maxHeartbeats 8000000 in
theorem hc_Table {l : Launch} {D : va_G} {U S : Nat → Nat} {wd : va_W} {n0 ki a : Nat} {lm wn : Nat} (hn : wd.length = n0) (hk : wd[ki]? = some (a, .inr (7, hc_Z_Table))) (hw1 : 1 ≤ wn) (hlw : lm * wn ≤ 1000 ∧ lm ≤ 1000 ∧ wn ≤ 1000) : hc_Met l hc_y_Table 1 20 1 (lm * wn) D U S wd [] [.ref a, .int (nI lm), .int (nI wn)] (fun t wd' => ∀ k, hc_K t k → ∃ b : Nat → Nat, wd' = wd.set ki (a, .inr (7, hc_F_Table lm wn b)) ++ hc_L_Table k lm wn b) := by
  refine hc_enter (by decide) (Nat.le_of_ble_eq_true rfl) ?_
  intro p e s m below meth c ls hBd hin hh hwd hGs hX hl
  obtain ⟨hx, hb, hml, hown, hlocks, hret, hTw⟩ := id hBd
  obtain ⟨k, hk0⟩ := hc_Kof hTw
  have hkn := (List.getElem?_eq_some_iff.mp hk).1
  rw [hn] at hkn
  have hh : hc_H D s wd (wd.set ki (a, .inr (7, [.int 0, .null, .int 0])) ++ []) s.heap [] := by rw [← hc_start (show wd[ki]? = some (a, .inr (7, [.int 0, .null, .int 0])) from hk)]; exact hh
  obtain ⟨hlw, hlm, hwn⟩ := hlw
  refine lv_aload_n hx hb hc_d_Table_0 rfl (lv_at hl 0 rfl) ?_
  refine hc_obj (own := "HopeBank$Table") hx hb (by rw [hml, hl.1]) hown hTw hc_w0 hc_oi hc_oc hc_d_Table_1 (Nat.le_of_ble_eq_true rfl) (Nat.le_of_ble_eq_true rfl) ?_
  refine lv_aload_n hx hb hc_d_Table_4 rfl (lv_at hl 0 rfl) ?_
  refine lv_iconst (v := nI 1) hx hb hc_d_Table_5 (by decide) ?_
  refine lv_iload_n hx hb hc_d_Table_6 rfl (lv_at hl 2 rfl) ?_
  refine hc_max (v := nI wn) (rest := [.ref a]) (own := "HopeBank$Table") hx hb hml hown hTw hc_w1 hc_ms hc_mi hc_mc hl.1 (Nat.le_of_ble_eq_true rfl) (Nat.le_of_ble_eq_true rfl) (Nat.zero_le _) (Nat.zero_le _) (hc_mx1 hw1 (by omega)) hc_d_Table_7 ?_
  refine hc_putF (ci := 7) (k := 0) (own := "HopeBank$Table") (C := RX7) (T := TX7) (N := 3) (t := tyX7 0) hx hb hown hTw hGs.1 hin hh rfl (hc_get hn hkn) (by decide) hc_w2 rfl rfl (tyX7_ok 0 (by decide)) rfl rfl (Nat.le_of_ble_eq_true rfl) hc_d_Table_10 (hc_set hn hkn) (fun Hhh1 locshh1 hh1 => ?_)
  have hh1 : hc_H D s wd (wd.set ki (a, .inr (7, [.int (nI wn), .null, .int 0])) ++ []) _ _ := hh1
  refine lv_aload_n hx hb hc_d_Table_13 rfl (lv_at hl 0 rfl) ?_
  refine lv_iconst (v := nI 0) hx hb hc_d_Table_14 (by decide) ?_
  refine lv_iload_n hx hb hc_d_Table_15 rfl (lv_at hl 1 rfl) ?_
  refine hc_max (v := nI lm) (rest := [.ref a]) (own := "HopeBank$Table") hx hb hml hown hTw hc_w1 hc_ms hc_mi hc_mc hl.1 (Nat.le_of_ble_eq_true rfl) (Nat.le_of_ble_eq_true rfl) (Nat.zero_le _) (Nat.zero_le _) (hc_mx0 (by omega)) hc_d_Table_16 ?_
  refine lv_aload_n hx hb hc_d_Table_19 rfl (lv_at hl 0 rfl) ?_
  refine hc_getf (ci := 7) (k := 0) (v := .int (nI wn)) (own := "HopeBank$Table") (C := RX7) (T := TX7) (N := 3) hx hb hown hTw hGs.1 hh1 rfl (hc_get hn hkn) (by decide) hc_w2 rfl hc_d_Table_20 ?_
  refine lv_imul hx hb hc_d_Table_23 ?_
  rw [hw_nmul]
  refine hc_newi (N' := (lm * wn)) (cA := k.1) hx hb hTw hGs.1 hh1 hc_w3 hk0.1.2 (hc_nneg (by omega)) (nI_clamp (by omega)) (by omega) (Nat.le_of_ble_eq_true rfl) (by show 0 + lm * wn ≤ lm * wn; omega) hc_d_Table_24 (fun q2 Hhh3 hh3 => ?_)
  rw [List.append_assoc] at hh3
  have hh3 : hc_H D s wd (wd.set ki (a, .inr (7, [.int (nI wn), .null, .int 0])) ++ [(q2, .inl (k.1, lm * wn, .inl (fun _ => 0)))]) _ _ := hh3
  refine hc_putF (ci := 7) (k := 1) (own := "HopeBank$Table") (C := RX7) (T := TX7) (N := 3) (t := tyX7 1) hx hb hown hTw hGs.1 hin hh3 rfl (hc_get hn hkn) (by decide) hc_w4 rfl rfl (tyX7_ok 1 (by decide)) rfl rfl (Nat.le_of_ble_eq_true rfl) hc_d_Table_26 (hc_set hn hkn) (fun Hhh4 locshh4 hh4 => ?_)
  have hh4 : hc_H D s wd (wd.set ki (a, .inr (7, [.int (nI wn), .ref q2, .int 0])) ++ [(q2, .inl (k.1, lm * wn, .inl (fun _ => 0)))]) _ _ := hh4
  refine lv_aload_n hx hb hc_d_Table_29 rfl (lv_at hl 0 rfl) ?_
  refine lv_iconst (v := nI 0) hx hb hc_d_Table_30 (by decide) ?_
  refine hc_put (ci := 7) (k := 2) (own := "HopeBank$Table") (C := RX7) (T := TX7) (N := 3) (t := tyX7 2) hx hb hown hTw hGs.1 hh4 rfl (hc_get hn hkn) (by decide) hc_w5 rfl (tyX7_ok 2 (by decide)) rfl rfl (Nat.le_of_ble_eq_true rfl) hc_d_Table_31 (hc_set hn hkn) (fun Hhh5 locshh5 hh5 => ?_)
  have hh5 : hc_H D s wd (wd.set ki (a, .inr (7, [.int (nI wn), .ref q2, .int (nI 0)])) ++ [(q2, .inl (k.1, lm * wn, .inl (fun _ => 0)))]) _ _ := hh5
  refine W.widen (k := 1) (n := lm * wn) (by omega) (by omega) ?_
  exact hc_ret hx hb hret hlocks hh5 hc_d_Table_34 (fun t hv k1 hk1 => ⟨fun i => [q2].getD i 0, by have e := hc_Ku hv hk0 hk1; subst e; rfl⟩)
def hc_F_Town (b : Nat → Nat) : List Value := [.ref (b 0), .ref (b 2), .ref (b 4), .ref (b 6), .ref (b 8), .ref (b 10), .ref (b 12), .int 0]
def hc_L_Town (k : hcK) (b : Nat → Nat) : va_W := [(b 0, .inr (7, hc_F_Table 1 4 (fun i => b (1 + i))))] ++ hc_L_Table k 1 4 (fun i => b (1 + i)) ++ [(b 2, .inr (7, hc_F_Table 5 2 (fun i => b (3 + i))))] ++ hc_L_Table k 5 2 (fun i => b (3 + i)) ++ [(b 4, .inr (7, hc_F_Table 8 3 (fun i => b (5 + i))))] ++ hc_L_Table k 8 3 (fun i => b (5 + i)) ++ [(b 6, .inr (7, hc_F_Table 10 3 (fun i => b (7 + i))))] ++ hc_L_Table k 10 3 (fun i => b (7 + i)) ++ [(b 8, .inr (7, hc_F_Table 6 3 (fun i => b (9 + i))))] ++ hc_L_Table k 6 3 (fun i => b (9 + i)) ++ [(b 10, .inr (7, hc_F_Table 30 3 (fun i => b (11 + i))))] ++ hc_L_Table k 30 3 (fun i => b (11 + i)) ++ [(b 12, .inr (7, hc_F_Table 46 3 (fun i => b (13 + i))))] ++ hc_L_Table k 46 3 (fun i => b (13 + i))
set_option maxHeartbeats 8000000 in
theorem hc_Town {l : Launch} {D : va_G} {U S : Nat → Nat} {wd : va_W} {n0 ki a : Nat} (hn : wd.length = n0) (hk : wd[ki]? = some (a, .inr (9, hc_Z_Town))) : hc_Met l hc_y_Town 2 42 14 335 D U S wd [] [.ref a] (fun t wd' => ∀ k, hc_K t k → ∃ b : Nat → Nat, wd' = wd.set ki (a, .inr (9, hc_F_Town b)) ++ hc_L_Town k b) := by
  refine hc_enter (by decide) (Nat.le_of_ble_eq_true rfl) ?_
  intro p e s m below meth c ls hBd hin hh hwd hGs hX hl
  obtain ⟨hx, hb, hml, hown, hlocks, hret, hTw⟩ := id hBd
  obtain ⟨k, hk0⟩ := hc_Kof hTw
  have hkn := (List.getElem?_eq_some_iff.mp hk).1
  rw [hn] at hkn
  have hh : hc_H D s wd (wd.set ki (a, .inr (9, [.null, .null, .null, .null, .null, .null, .null, .int 0])) ++ []) s.heap [] := by rw [← hc_start (show wd[ki]? = some (a, .inr (9, [.null, .null, .null, .null, .null, .null, .null, .int 0])) from hk)]; exact hh
  refine lv_aload_n hx hb hc_d_Town_0 rfl (lv_at hl 0 rfl) ?_
  refine hc_obj (own := "HopeBank$Town") hx hb (by rw [hml, hl.1]) hown hTw hc_w6 hc_oi hc_oc hc_d_Town_1 (Nat.le_of_ble_eq_true rfl) (Nat.le_of_ble_eq_true rfl) ?_
  refine lv_aload_n hx hb hc_d_Town_4 rfl (lv_at hl 0 rfl) ?_
  refine hc_new (ci := 7) (fs := hc_Z_Table) (own := "HopeBank$Town") (C := RX7) (T := TX7) (N := 3) (ty := tyX7) hx hb hown hTw hGs.1 hh rfl tyX7_ok hc_Zok_Table hc_w7 hc_w8 hc_w9 (Nat.le_of_ble_eq_true rfl) (Nat.le_of_ble_eq_true rfl) hc_d_Town_5 (fun q6 Hhh7 hh7 => ?_)
  rw [List.append_assoc] at hh7
  have hh7 : hc_H D s wd (wd.set ki (a, .inr (9, [.null, .null, .null, .null, .null, .null, .null, .int 0])) ++ [(q6, .inr (7, hc_Z_Table))]) _ _ := hh7
  refine lv_dup hx hb hc_d_Town_8 rfl ?_
  refine lv_iconst (v := nI 1) hx hb hc_d_Town_9 (by decide) ?_
  refine lv_iconst (v := nI 4) hx hb hc_d_Town_10 (by decide) ?_
  refine hc_cI (nm := ⟨"HopeBank$Table", "<init>", "(II)V"⟩) (bc := prog_9_method_1_code) (mL := 3) (b := q6) (As := [.int (nI 1), .int (nI 4)]) (rest := [.ref q6, .ref a]) (fp := []) (U := U) hBd hGs hX hh7 hc_nofp (hc_Table (U := U) (lm := 1) (wn := 4) (n0 := n0 + 1) (ki := n0 + 0) (by rw [List.length_append, List.length_set, hn]; rfl) ((hc_getr hn).trans rfl) (by decide) (by decide)) hc_cd_Table hc_w9 hc_w10 hc_w11 rfl (by decide) ⟨(Nat.le_of_ble_eq_true rfl), (Nat.le_of_ble_eq_true rfl)⟩ (fun sig h => by cases h; rfl) hl.1 rfl (Nat.le_of_ble_eq_true rfl) ⟨(Nat.le_of_ble_eq_true rfl), (Nat.le_of_ble_eq_true rfl)⟩ hc_d_Town_11 (fun t8 w8 H8 locs8 hv8 hp8 hh8 => ?_)
  obtain ⟨b8, hb8⟩ := hp8 k (hk0.moved hv8)
  rw [hc_setr hn, List.append_assoc] at hb8
  subst hb8
  have hh8 : hc_H D s wd (wd.set ki (a, .inr (9, [.null, .null, .null, .null, .null, .null, .null, .int 0])) ++ [(q6, .inr (7, hc_F_Table 1 4 b8)), (b8 0, .inl (k.1, 1 * 4, .inl (fun _ => 0)))]) _ _ := hh8
  refine hc_putF (ci := 9) (k := 0) (own := "HopeBank$Town") (C := RX9) (T := TX9) (N := 8) (t := tyX9 0) hx hb hown hTw hGs.1 hin hh8 rfl (hc_get hn hkn) (by decide) hc_w12 rfl rfl (tyX9_ok 0 (by decide)) rfl rfl (Nat.le_of_ble_eq_true rfl) hc_d_Town_14 (hc_set hn hkn) (fun Hhh9 locshh9 hh9 => ?_)
  have hh9 : hc_H D s wd (wd.set ki (a, .inr (9, [.ref q6, .null, .null, .null, .null, .null, .null, .int 0])) ++ [(q6, .inr (7, hc_F_Table 1 4 b8)), (b8 0, .inl (k.1, 1 * 4, .inl (fun _ => 0)))]) _ _ := hh9
  refine lv_aload_n hx hb hc_d_Town_17 rfl (lv_at hl 0 rfl) ?_
  refine hc_new (ci := 7) (fs := hc_Z_Table) (own := "HopeBank$Town") (C := RX7) (T := TX7) (N := 3) (ty := tyX7) hx hb hown hTw hGs.1 hh9 rfl tyX7_ok hc_Zok_Table hc_w7 hc_w8 hc_w9 (Nat.le_of_ble_eq_true rfl) (Nat.le_of_ble_eq_true rfl) hc_d_Town_18 (fun q10 Hhh11 hh11 => ?_)
  rw [List.append_assoc] at hh11
  have hh11 : hc_H D s wd (wd.set ki (a, .inr (9, [.ref q6, .null, .null, .null, .null, .null, .null, .int 0])) ++ [(q6, .inr (7, hc_F_Table 1 4 b8)), (b8 0, .inl (k.1, 1 * 4, .inl (fun _ => 0))), (q10, .inr (7, hc_Z_Table))]) _ _ := hh11
  refine lv_dup hx hb hc_d_Town_21 rfl ?_
  refine lv_iconst (v := nI 5) hx hb hc_d_Town_22 (by decide) ?_
  refine lv_iconst (v := nI 2) hx hb hc_d_Town_23 (by decide) ?_
  refine hc_cI (nm := ⟨"HopeBank$Table", "<init>", "(II)V"⟩) (bc := prog_9_method_1_code) (mL := 3) (b := q10) (As := [.int (nI 5), .int (nI 2)]) (rest := [.ref q10, .ref a]) (fp := []) (U := U) hBd hGs hX hh11 hc_nofp (hc_Table (U := U) (lm := 5) (wn := 2) (n0 := n0 + 3) (ki := n0 + 2) (by rw [List.length_append, List.length_set, hn]; rfl) ((hc_getr hn).trans rfl) (by decide) (by decide)) hc_cd_Table hc_w9 hc_w10 hc_w11 rfl (by decide) ⟨(Nat.le_of_ble_eq_true rfl), (Nat.le_of_ble_eq_true rfl)⟩ (fun sig h => by cases h; rfl) hl.1 rfl (Nat.le_of_ble_eq_true rfl) ⟨(Nat.le_of_ble_eq_true rfl), (Nat.le_of_ble_eq_true rfl)⟩ hc_d_Town_24 (fun t12 w12 H12 locs12 hv12 hp12 hh12 => ?_)
  obtain ⟨b12, hb12⟩ := hp12 k (hk0.moved hv12)
  rw [hc_setr hn, List.append_assoc] at hb12
  subst hb12
  have hh12 : hc_H D s wd (wd.set ki (a, .inr (9, [.ref q6, .null, .null, .null, .null, .null, .null, .int 0])) ++ [(q6, .inr (7, hc_F_Table 1 4 b8)), (b8 0, .inl (k.1, 1 * 4, .inl (fun _ => 0))), (q10, .inr (7, hc_F_Table 5 2 b12)), (b12 0, .inl (k.1, 5 * 2, .inl (fun _ => 0)))]) _ _ := hh12
  refine hc_putF (ci := 9) (k := 1) (own := "HopeBank$Town") (C := RX9) (T := TX9) (N := 8) (t := tyX9 1) hx hb hown hTw hGs.1 hin hh12 rfl (hc_get hn hkn) (by decide) hc_w13 rfl rfl (tyX9_ok 1 (by decide)) rfl rfl (Nat.le_of_ble_eq_true rfl) hc_d_Town_27 (hc_set hn hkn) (fun Hhh13 locshh13 hh13 => ?_)
  have hh13 : hc_H D s wd (wd.set ki (a, .inr (9, [.ref q6, .ref q10, .null, .null, .null, .null, .null, .int 0])) ++ [(q6, .inr (7, hc_F_Table 1 4 b8)), (b8 0, .inl (k.1, 1 * 4, .inl (fun _ => 0))), (q10, .inr (7, hc_F_Table 5 2 b12)), (b12 0, .inl (k.1, 5 * 2, .inl (fun _ => 0)))]) _ _ := hh13
  refine lv_aload_n hx hb hc_d_Town_30 rfl (lv_at hl 0 rfl) ?_
  refine hc_new (ci := 7) (fs := hc_Z_Table) (own := "HopeBank$Town") (C := RX7) (T := TX7) (N := 3) (ty := tyX7) hx hb hown hTw hGs.1 hh13 rfl tyX7_ok hc_Zok_Table hc_w7 hc_w8 hc_w9 (Nat.le_of_ble_eq_true rfl) (Nat.le_of_ble_eq_true rfl) hc_d_Town_31 (fun q14 Hhh15 hh15 => ?_)
  rw [List.append_assoc] at hh15
  have hh15 : hc_H D s wd (wd.set ki (a, .inr (9, [.ref q6, .ref q10, .null, .null, .null, .null, .null, .int 0])) ++ [(q6, .inr (7, hc_F_Table 1 4 b8)), (b8 0, .inl (k.1, 1 * 4, .inl (fun _ => 0))), (q10, .inr (7, hc_F_Table 5 2 b12)), (b12 0, .inl (k.1, 5 * 2, .inl (fun _ => 0))), (q14, .inr (7, hc_Z_Table))]) _ _ := hh15
  refine lv_dup hx hb hc_d_Town_34 rfl ?_
  refine lv_bipush (v := nI 8) hx hb hc_d_Town_35 (by decide) ?_
  refine lv_iconst (v := nI 3) hx hb hc_d_Town_37 (by decide) ?_
  refine hc_cI (nm := ⟨"HopeBank$Table", "<init>", "(II)V"⟩) (bc := prog_9_method_1_code) (mL := 3) (b := q14) (As := [.int (nI 8), .int (nI 3)]) (rest := [.ref q14, .ref a]) (fp := []) (U := U) hBd hGs hX hh15 hc_nofp (hc_Table (U := U) (lm := 8) (wn := 3) (n0 := n0 + 5) (ki := n0 + 4) (by rw [List.length_append, List.length_set, hn]; rfl) ((hc_getr hn).trans rfl) (by decide) (by decide)) hc_cd_Table hc_w9 hc_w10 hc_w11 rfl (by decide) ⟨(Nat.le_of_ble_eq_true rfl), (Nat.le_of_ble_eq_true rfl)⟩ (fun sig h => by cases h; rfl) hl.1 rfl (Nat.le_of_ble_eq_true rfl) ⟨(Nat.le_of_ble_eq_true rfl), (Nat.le_of_ble_eq_true rfl)⟩ hc_d_Town_38 (fun t16 w16 H16 locs16 hv16 hp16 hh16 => ?_)
  obtain ⟨b16, hb16⟩ := hp16 k (hk0.moved hv16)
  rw [hc_setr hn, List.append_assoc] at hb16
  subst hb16
  have hh16 : hc_H D s wd (wd.set ki (a, .inr (9, [.ref q6, .ref q10, .null, .null, .null, .null, .null, .int 0])) ++ [(q6, .inr (7, hc_F_Table 1 4 b8)), (b8 0, .inl (k.1, 1 * 4, .inl (fun _ => 0))), (q10, .inr (7, hc_F_Table 5 2 b12)), (b12 0, .inl (k.1, 5 * 2, .inl (fun _ => 0))), (q14, .inr (7, hc_F_Table 8 3 b16)), (b16 0, .inl (k.1, 8 * 3, .inl (fun _ => 0)))]) _ _ := hh16
  refine hc_putF (ci := 9) (k := 2) (own := "HopeBank$Town") (C := RX9) (T := TX9) (N := 8) (t := tyX9 2) hx hb hown hTw hGs.1 hin hh16 rfl (hc_get hn hkn) (by decide) hc_w14 rfl rfl (tyX9_ok 2 (by decide)) rfl rfl (Nat.le_of_ble_eq_true rfl) hc_d_Town_41 (hc_set hn hkn) (fun Hhh17 locshh17 hh17 => ?_)
  have hh17 : hc_H D s wd (wd.set ki (a, .inr (9, [.ref q6, .ref q10, .ref q14, .null, .null, .null, .null, .int 0])) ++ [(q6, .inr (7, hc_F_Table 1 4 b8)), (b8 0, .inl (k.1, 1 * 4, .inl (fun _ => 0))), (q10, .inr (7, hc_F_Table 5 2 b12)), (b12 0, .inl (k.1, 5 * 2, .inl (fun _ => 0))), (q14, .inr (7, hc_F_Table 8 3 b16)), (b16 0, .inl (k.1, 8 * 3, .inl (fun _ => 0)))]) _ _ := hh17
  refine lv_aload_n hx hb hc_d_Town_44 rfl (lv_at hl 0 rfl) ?_
  refine hc_new (ci := 7) (fs := hc_Z_Table) (own := "HopeBank$Town") (C := RX7) (T := TX7) (N := 3) (ty := tyX7) hx hb hown hTw hGs.1 hh17 rfl tyX7_ok hc_Zok_Table hc_w7 hc_w8 hc_w9 (Nat.le_of_ble_eq_true rfl) (Nat.le_of_ble_eq_true rfl) hc_d_Town_45 (fun q18 Hhh19 hh19 => ?_)
  rw [List.append_assoc] at hh19
  have hh19 : hc_H D s wd (wd.set ki (a, .inr (9, [.ref q6, .ref q10, .ref q14, .null, .null, .null, .null, .int 0])) ++ [(q6, .inr (7, hc_F_Table 1 4 b8)), (b8 0, .inl (k.1, 1 * 4, .inl (fun _ => 0))), (q10, .inr (7, hc_F_Table 5 2 b12)), (b12 0, .inl (k.1, 5 * 2, .inl (fun _ => 0))), (q14, .inr (7, hc_F_Table 8 3 b16)), (b16 0, .inl (k.1, 8 * 3, .inl (fun _ => 0))), (q18, .inr (7, hc_Z_Table))]) _ _ := hh19
  refine lv_dup hx hb hc_d_Town_48 rfl ?_
  refine lv_bipush (v := nI 10) hx hb hc_d_Town_49 (by decide) ?_
  refine lv_iconst (v := nI 3) hx hb hc_d_Town_51 (by decide) ?_
  refine hc_cI (nm := ⟨"HopeBank$Table", "<init>", "(II)V"⟩) (bc := prog_9_method_1_code) (mL := 3) (b := q18) (As := [.int (nI 10), .int (nI 3)]) (rest := [.ref q18, .ref a]) (fp := []) (U := U) hBd hGs hX hh19 hc_nofp (hc_Table (U := U) (lm := 10) (wn := 3) (n0 := n0 + 7) (ki := n0 + 6) (by rw [List.length_append, List.length_set, hn]; rfl) ((hc_getr hn).trans rfl) (by decide) (by decide)) hc_cd_Table hc_w9 hc_w10 hc_w11 rfl (by decide) ⟨(Nat.le_of_ble_eq_true rfl), (Nat.le_of_ble_eq_true rfl)⟩ (fun sig h => by cases h; rfl) hl.1 rfl (Nat.le_of_ble_eq_true rfl) ⟨(Nat.le_of_ble_eq_true rfl), (Nat.le_of_ble_eq_true rfl)⟩ hc_d_Town_52 (fun t20 w20 H20 locs20 hv20 hp20 hh20 => ?_)
  obtain ⟨b20, hb20⟩ := hp20 k (hk0.moved hv20)
  rw [hc_setr hn, List.append_assoc] at hb20
  subst hb20
  have hh20 : hc_H D s wd (wd.set ki (a, .inr (9, [.ref q6, .ref q10, .ref q14, .null, .null, .null, .null, .int 0])) ++ [(q6, .inr (7, hc_F_Table 1 4 b8)), (b8 0, .inl (k.1, 1 * 4, .inl (fun _ => 0))), (q10, .inr (7, hc_F_Table 5 2 b12)), (b12 0, .inl (k.1, 5 * 2, .inl (fun _ => 0))), (q14, .inr (7, hc_F_Table 8 3 b16)), (b16 0, .inl (k.1, 8 * 3, .inl (fun _ => 0))), (q18, .inr (7, hc_F_Table 10 3 b20)), (b20 0, .inl (k.1, 10 * 3, .inl (fun _ => 0)))]) _ _ := hh20
  refine hc_putF (ci := 9) (k := 3) (own := "HopeBank$Town") (C := RX9) (T := TX9) (N := 8) (t := tyX9 3) hx hb hown hTw hGs.1 hin hh20 rfl (hc_get hn hkn) (by decide) hc_w15 rfl rfl (tyX9_ok 3 (by decide)) rfl rfl (Nat.le_of_ble_eq_true rfl) hc_d_Town_55 (hc_set hn hkn) (fun Hhh21 locshh21 hh21 => ?_)
  have hh21 : hc_H D s wd (wd.set ki (a, .inr (9, [.ref q6, .ref q10, .ref q14, .ref q18, .null, .null, .null, .int 0])) ++ [(q6, .inr (7, hc_F_Table 1 4 b8)), (b8 0, .inl (k.1, 1 * 4, .inl (fun _ => 0))), (q10, .inr (7, hc_F_Table 5 2 b12)), (b12 0, .inl (k.1, 5 * 2, .inl (fun _ => 0))), (q14, .inr (7, hc_F_Table 8 3 b16)), (b16 0, .inl (k.1, 8 * 3, .inl (fun _ => 0))), (q18, .inr (7, hc_F_Table 10 3 b20)), (b20 0, .inl (k.1, 10 * 3, .inl (fun _ => 0)))]) _ _ := hh21
  refine lv_aload_n hx hb hc_d_Town_58 rfl (lv_at hl 0 rfl) ?_
  refine hc_new (ci := 7) (fs := hc_Z_Table) (own := "HopeBank$Town") (C := RX7) (T := TX7) (N := 3) (ty := tyX7) hx hb hown hTw hGs.1 hh21 rfl tyX7_ok hc_Zok_Table hc_w7 hc_w8 hc_w9 (Nat.le_of_ble_eq_true rfl) (Nat.le_of_ble_eq_true rfl) hc_d_Town_59 (fun q22 Hhh23 hh23 => ?_)
  rw [List.append_assoc] at hh23
  have hh23 : hc_H D s wd (wd.set ki (a, .inr (9, [.ref q6, .ref q10, .ref q14, .ref q18, .null, .null, .null, .int 0])) ++ [(q6, .inr (7, hc_F_Table 1 4 b8)), (b8 0, .inl (k.1, 1 * 4, .inl (fun _ => 0))), (q10, .inr (7, hc_F_Table 5 2 b12)), (b12 0, .inl (k.1, 5 * 2, .inl (fun _ => 0))), (q14, .inr (7, hc_F_Table 8 3 b16)), (b16 0, .inl (k.1, 8 * 3, .inl (fun _ => 0))), (q18, .inr (7, hc_F_Table 10 3 b20)), (b20 0, .inl (k.1, 10 * 3, .inl (fun _ => 0))), (q22, .inr (7, hc_Z_Table))]) _ _ := hh23
  refine lv_dup hx hb hc_d_Town_62 rfl ?_
  refine lv_bipush (v := nI 6) hx hb hc_d_Town_63 (by decide) ?_
  refine lv_iconst (v := nI 3) hx hb hc_d_Town_65 (by decide) ?_
  refine hc_cI (nm := ⟨"HopeBank$Table", "<init>", "(II)V"⟩) (bc := prog_9_method_1_code) (mL := 3) (b := q22) (As := [.int (nI 6), .int (nI 3)]) (rest := [.ref q22, .ref a]) (fp := []) (U := U) hBd hGs hX hh23 hc_nofp (hc_Table (U := U) (lm := 6) (wn := 3) (n0 := n0 + 9) (ki := n0 + 8) (by rw [List.length_append, List.length_set, hn]; rfl) ((hc_getr hn).trans rfl) (by decide) (by decide)) hc_cd_Table hc_w9 hc_w10 hc_w11 rfl (by decide) ⟨(Nat.le_of_ble_eq_true rfl), (Nat.le_of_ble_eq_true rfl)⟩ (fun sig h => by cases h; rfl) hl.1 rfl (Nat.le_of_ble_eq_true rfl) ⟨(Nat.le_of_ble_eq_true rfl), (Nat.le_of_ble_eq_true rfl)⟩ hc_d_Town_66 (fun t24 w24 H24 locs24 hv24 hp24 hh24 => ?_)
  obtain ⟨b24, hb24⟩ := hp24 k (hk0.moved hv24)
  rw [hc_setr hn, List.append_assoc] at hb24
  subst hb24
  have hh24 : hc_H D s wd (wd.set ki (a, .inr (9, [.ref q6, .ref q10, .ref q14, .ref q18, .null, .null, .null, .int 0])) ++ [(q6, .inr (7, hc_F_Table 1 4 b8)), (b8 0, .inl (k.1, 1 * 4, .inl (fun _ => 0))), (q10, .inr (7, hc_F_Table 5 2 b12)), (b12 0, .inl (k.1, 5 * 2, .inl (fun _ => 0))), (q14, .inr (7, hc_F_Table 8 3 b16)), (b16 0, .inl (k.1, 8 * 3, .inl (fun _ => 0))), (q18, .inr (7, hc_F_Table 10 3 b20)), (b20 0, .inl (k.1, 10 * 3, .inl (fun _ => 0))), (q22, .inr (7, hc_F_Table 6 3 b24)), (b24 0, .inl (k.1, 6 * 3, .inl (fun _ => 0)))]) _ _ := hh24
  refine hc_putF (ci := 9) (k := 4) (own := "HopeBank$Town") (C := RX9) (T := TX9) (N := 8) (t := tyX9 4) hx hb hown hTw hGs.1 hin hh24 rfl (hc_get hn hkn) (by decide) hc_w16 rfl rfl (tyX9_ok 4 (by decide)) rfl rfl (Nat.le_of_ble_eq_true rfl) hc_d_Town_69 (hc_set hn hkn) (fun Hhh25 locshh25 hh25 => ?_)
  have hh25 : hc_H D s wd (wd.set ki (a, .inr (9, [.ref q6, .ref q10, .ref q14, .ref q18, .ref q22, .null, .null, .int 0])) ++ [(q6, .inr (7, hc_F_Table 1 4 b8)), (b8 0, .inl (k.1, 1 * 4, .inl (fun _ => 0))), (q10, .inr (7, hc_F_Table 5 2 b12)), (b12 0, .inl (k.1, 5 * 2, .inl (fun _ => 0))), (q14, .inr (7, hc_F_Table 8 3 b16)), (b16 0, .inl (k.1, 8 * 3, .inl (fun _ => 0))), (q18, .inr (7, hc_F_Table 10 3 b20)), (b20 0, .inl (k.1, 10 * 3, .inl (fun _ => 0))), (q22, .inr (7, hc_F_Table 6 3 b24)), (b24 0, .inl (k.1, 6 * 3, .inl (fun _ => 0)))]) _ _ := hh25
  refine lv_aload_n hx hb hc_d_Town_72 rfl (lv_at hl 0 rfl) ?_
  refine hc_new (ci := 7) (fs := hc_Z_Table) (own := "HopeBank$Town") (C := RX7) (T := TX7) (N := 3) (ty := tyX7) hx hb hown hTw hGs.1 hh25 rfl tyX7_ok hc_Zok_Table hc_w7 hc_w8 hc_w9 (Nat.le_of_ble_eq_true rfl) (Nat.le_of_ble_eq_true rfl) hc_d_Town_73 (fun q26 Hhh27 hh27 => ?_)
  rw [List.append_assoc] at hh27
  have hh27 : hc_H D s wd (wd.set ki (a, .inr (9, [.ref q6, .ref q10, .ref q14, .ref q18, .ref q22, .null, .null, .int 0])) ++ [(q6, .inr (7, hc_F_Table 1 4 b8)), (b8 0, .inl (k.1, 1 * 4, .inl (fun _ => 0))), (q10, .inr (7, hc_F_Table 5 2 b12)), (b12 0, .inl (k.1, 5 * 2, .inl (fun _ => 0))), (q14, .inr (7, hc_F_Table 8 3 b16)), (b16 0, .inl (k.1, 8 * 3, .inl (fun _ => 0))), (q18, .inr (7, hc_F_Table 10 3 b20)), (b20 0, .inl (k.1, 10 * 3, .inl (fun _ => 0))), (q22, .inr (7, hc_F_Table 6 3 b24)), (b24 0, .inl (k.1, 6 * 3, .inl (fun _ => 0))), (q26, .inr (7, hc_Z_Table))]) _ _ := hh27
  refine lv_dup hx hb hc_d_Town_76 rfl ?_
  refine lv_bipush (v := nI 30) hx hb hc_d_Town_77 (by decide) ?_
  refine lv_iconst (v := nI 3) hx hb hc_d_Town_79 (by decide) ?_
  refine hc_cI (nm := ⟨"HopeBank$Table", "<init>", "(II)V"⟩) (bc := prog_9_method_1_code) (mL := 3) (b := q26) (As := [.int (nI 30), .int (nI 3)]) (rest := [.ref q26, .ref a]) (fp := []) (U := U) hBd hGs hX hh27 hc_nofp (hc_Table (U := U) (lm := 30) (wn := 3) (n0 := n0 + 11) (ki := n0 + 10) (by rw [List.length_append, List.length_set, hn]; rfl) ((hc_getr hn).trans rfl) (by decide) (by decide)) hc_cd_Table hc_w9 hc_w10 hc_w11 rfl (by decide) ⟨(Nat.le_of_ble_eq_true rfl), (Nat.le_of_ble_eq_true rfl)⟩ (fun sig h => by cases h; rfl) hl.1 rfl (Nat.le_of_ble_eq_true rfl) ⟨(Nat.le_of_ble_eq_true rfl), (Nat.le_of_ble_eq_true rfl)⟩ hc_d_Town_80 (fun t28 w28 H28 locs28 hv28 hp28 hh28 => ?_)
  obtain ⟨b28, hb28⟩ := hp28 k (hk0.moved hv28)
  rw [hc_setr hn, List.append_assoc] at hb28
  subst hb28
  have hh28 : hc_H D s wd (wd.set ki (a, .inr (9, [.ref q6, .ref q10, .ref q14, .ref q18, .ref q22, .null, .null, .int 0])) ++ [(q6, .inr (7, hc_F_Table 1 4 b8)), (b8 0, .inl (k.1, 1 * 4, .inl (fun _ => 0))), (q10, .inr (7, hc_F_Table 5 2 b12)), (b12 0, .inl (k.1, 5 * 2, .inl (fun _ => 0))), (q14, .inr (7, hc_F_Table 8 3 b16)), (b16 0, .inl (k.1, 8 * 3, .inl (fun _ => 0))), (q18, .inr (7, hc_F_Table 10 3 b20)), (b20 0, .inl (k.1, 10 * 3, .inl (fun _ => 0))), (q22, .inr (7, hc_F_Table 6 3 b24)), (b24 0, .inl (k.1, 6 * 3, .inl (fun _ => 0))), (q26, .inr (7, hc_F_Table 30 3 b28)), (b28 0, .inl (k.1, 30 * 3, .inl (fun _ => 0)))]) _ _ := hh28
  refine hc_putF (ci := 9) (k := 5) (own := "HopeBank$Town") (C := RX9) (T := TX9) (N := 8) (t := tyX9 5) hx hb hown hTw hGs.1 hin hh28 rfl (hc_get hn hkn) (by decide) hc_w17 rfl rfl (tyX9_ok 5 (by decide)) rfl rfl (Nat.le_of_ble_eq_true rfl) hc_d_Town_83 (hc_set hn hkn) (fun Hhh29 locshh29 hh29 => ?_)
  have hh29 : hc_H D s wd (wd.set ki (a, .inr (9, [.ref q6, .ref q10, .ref q14, .ref q18, .ref q22, .ref q26, .null, .int 0])) ++ [(q6, .inr (7, hc_F_Table 1 4 b8)), (b8 0, .inl (k.1, 1 * 4, .inl (fun _ => 0))), (q10, .inr (7, hc_F_Table 5 2 b12)), (b12 0, .inl (k.1, 5 * 2, .inl (fun _ => 0))), (q14, .inr (7, hc_F_Table 8 3 b16)), (b16 0, .inl (k.1, 8 * 3, .inl (fun _ => 0))), (q18, .inr (7, hc_F_Table 10 3 b20)), (b20 0, .inl (k.1, 10 * 3, .inl (fun _ => 0))), (q22, .inr (7, hc_F_Table 6 3 b24)), (b24 0, .inl (k.1, 6 * 3, .inl (fun _ => 0))), (q26, .inr (7, hc_F_Table 30 3 b28)), (b28 0, .inl (k.1, 30 * 3, .inl (fun _ => 0)))]) _ _ := hh29
  refine lv_aload_n hx hb hc_d_Town_86 rfl (lv_at hl 0 rfl) ?_
  refine hc_new (ci := 7) (fs := hc_Z_Table) (own := "HopeBank$Town") (C := RX7) (T := TX7) (N := 3) (ty := tyX7) hx hb hown hTw hGs.1 hh29 rfl tyX7_ok hc_Zok_Table hc_w7 hc_w8 hc_w9 (Nat.le_of_ble_eq_true rfl) (Nat.le_of_ble_eq_true rfl) hc_d_Town_87 (fun q30 Hhh31 hh31 => ?_)
  rw [List.append_assoc] at hh31
  have hh31 : hc_H D s wd (wd.set ki (a, .inr (9, [.ref q6, .ref q10, .ref q14, .ref q18, .ref q22, .ref q26, .null, .int 0])) ++ [(q6, .inr (7, hc_F_Table 1 4 b8)), (b8 0, .inl (k.1, 1 * 4, .inl (fun _ => 0))), (q10, .inr (7, hc_F_Table 5 2 b12)), (b12 0, .inl (k.1, 5 * 2, .inl (fun _ => 0))), (q14, .inr (7, hc_F_Table 8 3 b16)), (b16 0, .inl (k.1, 8 * 3, .inl (fun _ => 0))), (q18, .inr (7, hc_F_Table 10 3 b20)), (b20 0, .inl (k.1, 10 * 3, .inl (fun _ => 0))), (q22, .inr (7, hc_F_Table 6 3 b24)), (b24 0, .inl (k.1, 6 * 3, .inl (fun _ => 0))), (q26, .inr (7, hc_F_Table 30 3 b28)), (b28 0, .inl (k.1, 30 * 3, .inl (fun _ => 0))), (q30, .inr (7, hc_Z_Table))]) _ _ := hh31
  refine lv_dup hx hb hc_d_Town_90 rfl ?_
  refine lv_bipush (v := nI 46) hx hb hc_d_Town_91 (by decide) ?_
  refine lv_iconst (v := nI 3) hx hb hc_d_Town_93 (by decide) ?_
  refine hc_cI (nm := ⟨"HopeBank$Table", "<init>", "(II)V"⟩) (bc := prog_9_method_1_code) (mL := 3) (b := q30) (As := [.int (nI 46), .int (nI 3)]) (rest := [.ref q30, .ref a]) (fp := []) (U := U) hBd hGs hX hh31 hc_nofp (hc_Table (U := U) (lm := 46) (wn := 3) (n0 := n0 + 13) (ki := n0 + 12) (by rw [List.length_append, List.length_set, hn]; rfl) ((hc_getr hn).trans rfl) (by decide) (by decide)) hc_cd_Table hc_w9 hc_w10 hc_w11 rfl (by decide) ⟨(Nat.le_of_ble_eq_true rfl), (Nat.le_of_ble_eq_true rfl)⟩ (fun sig h => by cases h; rfl) hl.1 rfl (Nat.le_of_ble_eq_true rfl) ⟨(Nat.le_of_ble_eq_true rfl), (Nat.le_of_ble_eq_true rfl)⟩ hc_d_Town_94 (fun t32 w32 H32 locs32 hv32 hp32 hh32 => ?_)
  obtain ⟨b32, hb32⟩ := hp32 k (hk0.moved hv32)
  rw [hc_setr hn, List.append_assoc] at hb32
  subst hb32
  have hh32 : hc_H D s wd (wd.set ki (a, .inr (9, [.ref q6, .ref q10, .ref q14, .ref q18, .ref q22, .ref q26, .null, .int 0])) ++ [(q6, .inr (7, hc_F_Table 1 4 b8)), (b8 0, .inl (k.1, 1 * 4, .inl (fun _ => 0))), (q10, .inr (7, hc_F_Table 5 2 b12)), (b12 0, .inl (k.1, 5 * 2, .inl (fun _ => 0))), (q14, .inr (7, hc_F_Table 8 3 b16)), (b16 0, .inl (k.1, 8 * 3, .inl (fun _ => 0))), (q18, .inr (7, hc_F_Table 10 3 b20)), (b20 0, .inl (k.1, 10 * 3, .inl (fun _ => 0))), (q22, .inr (7, hc_F_Table 6 3 b24)), (b24 0, .inl (k.1, 6 * 3, .inl (fun _ => 0))), (q26, .inr (7, hc_F_Table 30 3 b28)), (b28 0, .inl (k.1, 30 * 3, .inl (fun _ => 0))), (q30, .inr (7, hc_F_Table 46 3 b32)), (b32 0, .inl (k.1, 46 * 3, .inl (fun _ => 0)))]) _ _ := hh32
  refine hc_putF (ci := 9) (k := 6) (own := "HopeBank$Town") (C := RX9) (T := TX9) (N := 8) (t := tyX9 6) hx hb hown hTw hGs.1 hin hh32 rfl (hc_get hn hkn) (by decide) hc_w18 rfl rfl (tyX9_ok 6 (by decide)) rfl rfl (Nat.le_of_ble_eq_true rfl) hc_d_Town_97 (hc_set hn hkn) (fun Hhh33 locshh33 hh33 => ?_)
  have hh33 : hc_H D s wd (wd.set ki (a, .inr (9, [.ref q6, .ref q10, .ref q14, .ref q18, .ref q22, .ref q26, .ref q30, .int 0])) ++ [(q6, .inr (7, hc_F_Table 1 4 b8)), (b8 0, .inl (k.1, 1 * 4, .inl (fun _ => 0))), (q10, .inr (7, hc_F_Table 5 2 b12)), (b12 0, .inl (k.1, 5 * 2, .inl (fun _ => 0))), (q14, .inr (7, hc_F_Table 8 3 b16)), (b16 0, .inl (k.1, 8 * 3, .inl (fun _ => 0))), (q18, .inr (7, hc_F_Table 10 3 b20)), (b20 0, .inl (k.1, 10 * 3, .inl (fun _ => 0))), (q22, .inr (7, hc_F_Table 6 3 b24)), (b24 0, .inl (k.1, 6 * 3, .inl (fun _ => 0))), (q26, .inr (7, hc_F_Table 30 3 b28)), (b28 0, .inl (k.1, 30 * 3, .inl (fun _ => 0))), (q30, .inr (7, hc_F_Table 46 3 b32)), (b32 0, .inl (k.1, 46 * 3, .inl (fun _ => 0)))]) _ _ := hh33
  refine W.widen (k := 14) (n := 335) (by omega) (by omega) ?_
  exact hc_ret hx hb hret hlocks hh33 hc_d_Town_100 (fun t hv k1 hk1 => ⟨fun i => [q6, b8 0, q10, b12 0, q14, b16 0, q18, b20 0, q22, b24 0, q26, b28 0, q30, b32 0].getD i 0, by have e := hc_Ku hv hk0 hk1; subst e; rfl⟩)
def hc_F_Reader (b : Nat → Nat) : List Value := [.ref (b 0), .int 0, .ref (b 1), .int 0, .int (-1 : Int32), .int 0, .int 0, .int 0, .ref (b 16), .int 0]
def hc_L_Reader (k : hcK) (b : Nat → Nat) : va_W := [(b 0, .inl (k.2.1, 900, .inl (fun _ => 0))), (b 1, .inr (9, hc_F_Town (fun i => b (2 + i))))] ++ hc_L_Town k (fun i => b (2 + i)) ++ [(b 16, .inl (k.1, 4, .inl (fun _ => 0)))]
set_option maxHeartbeats 8000000 in
theorem hc_Reader {l : Launch} {D : va_G} {U S : Nat → Nat} {wd : va_W} {n0 ki a : Nat} (hn : wd.length = n0) (hk : wd[ki]? = some (a, .inr (4, hc_Z_Reader))) : hc_Met l hc_y_Reader 3 62 17 1247 D U S wd [] [.ref a] (fun t wd' => ∀ k, hc_K t k → ∃ b : Nat → Nat, wd' = wd.set ki (a, .inr (4, hc_F_Reader b)) ++ hc_L_Reader k b) := by
  refine hc_enter (by decide) (Nat.le_of_ble_eq_true rfl) ?_
  intro p e s m below meth c ls hBd hin hh hwd hGs hX hl
  obtain ⟨hx, hb, hml, hown, hlocks, hret, hTw⟩ := id hBd
  obtain ⟨k, hk0⟩ := hc_Kof hTw
  have hkn := (List.getElem?_eq_some_iff.mp hk).1
  rw [hn] at hkn
  have hh : hc_H D s wd (wd.set ki (a, .inr (4, [.null, .int 0, .null, .int 0, .int 0, .int 0, .int 0, .int 0, .null, .int 0])) ++ []) s.heap [] := by rw [← hc_start (show wd[ki]? = some (a, .inr (4, [.null, .int 0, .null, .int 0, .int 0, .int 0, .int 0, .int 0, .null, .int 0])) from hk)]; exact hh
  refine lv_aload_n hx hb hc_d_Reader_0 rfl (lv_at hl 0 rfl) ?_
  refine hc_obj (own := "HopeBank$Reader") hx hb (by rw [hml, hl.1]) hown hTw hc_w19 hc_oi hc_oc hc_d_Reader_1 (Nat.le_of_ble_eq_true rfl) (Nat.le_of_ble_eq_true rfl) ?_
  refine lv_aload_n hx hb hc_d_Reader_4 rfl (lv_at hl 0 rfl) ?_
  refine lv_sipush (v := nI 900) hx hb hc_d_Reader_5 (by decide) ?_
  refine hc_newb (N' := 900) (cA := k.2.1) hx hb hTw hGs.1 hh hc_w20 hk0.2.1.2 (by decide) (by decide) (Nat.le_of_ble_eq_true rfl) (Nat.le_of_ble_eq_true rfl) (Nat.le_of_ble_eq_true rfl) hc_d_Reader_8 (fun q34 Hhh35 hh35 => ?_)
  rw [List.append_assoc] at hh35
  have hh35 : hc_H D s wd (wd.set ki (a, .inr (4, [.null, .int 0, .null, .int 0, .int 0, .int 0, .int 0, .int 0, .null, .int 0])) ++ [(q34, .inl (k.2.1, 900, .inl (fun _ => 0)))]) _ _ := hh35
  refine hc_putF (ci := 4) (k := 0) (own := "HopeBank$Reader") (C := RX4) (T := TX4) (N := 10) (t := tyX4 0) hx hb hown hTw hGs.1 hin hh35 rfl (hc_get hn hkn) (by decide) hc_w21 rfl rfl (tyX4_ok 0 (by decide)) rfl rfl (Nat.le_of_ble_eq_true rfl) hc_d_Reader_10 (hc_set hn hkn) (fun Hhh36 locshh36 hh36 => ?_)
  have hh36 : hc_H D s wd (wd.set ki (a, .inr (4, [.ref q34, .int 0, .null, .int 0, .int 0, .int 0, .int 0, .int 0, .null, .int 0])) ++ [(q34, .inl (k.2.1, 900, .inl (fun _ => 0)))]) _ _ := hh36
  refine lv_aload_n hx hb hc_d_Reader_13 rfl (lv_at hl 0 rfl) ?_
  refine hc_new (ci := 9) (fs := hc_Z_Town) (own := "HopeBank$Reader") (C := RX9) (T := TX9) (N := 8) (ty := tyX9) hx hb hown hTw hGs.1 hh36 rfl tyX9_ok hc_Zok_Town hc_w22 hc_w23 hc_w24 (Nat.le_of_ble_eq_true rfl) (Nat.le_of_ble_eq_true rfl) hc_d_Reader_14 (fun q37 Hhh38 hh38 => ?_)
  rw [List.append_assoc] at hh38
  have hh38 : hc_H D s wd (wd.set ki (a, .inr (4, [.ref q34, .int 0, .null, .int 0, .int 0, .int 0, .int 0, .int 0, .null, .int 0])) ++ [(q34, .inl (k.2.1, 900, .inl (fun _ => 0))), (q37, .inr (9, hc_Z_Town))]) _ _ := hh38
  refine lv_dup hx hb hc_d_Reader_17 rfl ?_
  refine hc_cIN (nm := ⟨"HopeBank$Town", "<init>", "()V"⟩) (bc := prog_11_method_1_code) (mL := 1) (b := q37) (As := []) (rest := [.ref q37, .ref a]) (fp := []) (U := U) hBd hGs hX hh38 hc_nofp (hc_Town (U := U) (n0 := n0 + 2) (ki := n0 + 1) (by rw [List.length_append, List.length_set, hn]; rfl) ((hc_getr hn).trans rfl)) hc_cd_Town hc_w24 hX.2.2.2.1 hc_w25 rfl (by decide) ⟨(Nat.le_of_ble_eq_true rfl), (Nat.le_of_ble_eq_true rfl)⟩ (fun sig h => by cases h; rfl) hl.1 rfl (Nat.le_of_ble_eq_true rfl) ⟨(Nat.le_of_ble_eq_true rfl), (Nat.le_of_ble_eq_true rfl)⟩ hc_d_Reader_18 (fun t39 w39 H39 locs39 hv39 hp39 hh39 => ?_)
  obtain ⟨b39, hb39⟩ := hp39 k (hk0.moved hv39)
  rw [hc_setr hn, List.append_assoc] at hb39
  subst hb39
  have hh39 : hc_H D s wd (wd.set ki (a, .inr (4, [.ref q34, .int 0, .null, .int 0, .int 0, .int 0, .int 0, .int 0, .null, .int 0])) ++ [(q34, .inl (k.2.1, 900, .inl (fun _ => 0))), (q37, .inr (9, hc_F_Town b39)), (b39 0, .inr (7, hc_F_Table 1 4 (fun i => b39 (1 + i)))), ((fun i => b39 (1 + i)) 0, .inl (k.1, 1 * 4, .inl (fun _ => 0))), (b39 2, .inr (7, hc_F_Table 5 2 (fun i => b39 (3 + i)))), ((fun i => b39 (3 + i)) 0, .inl (k.1, 5 * 2, .inl (fun _ => 0))), (b39 4, .inr (7, hc_F_Table 8 3 (fun i => b39 (5 + i)))), ((fun i => b39 (5 + i)) 0, .inl (k.1, 8 * 3, .inl (fun _ => 0))), (b39 6, .inr (7, hc_F_Table 10 3 (fun i => b39 (7 + i)))), ((fun i => b39 (7 + i)) 0, .inl (k.1, 10 * 3, .inl (fun _ => 0))), (b39 8, .inr (7, hc_F_Table 6 3 (fun i => b39 (9 + i)))), ((fun i => b39 (9 + i)) 0, .inl (k.1, 6 * 3, .inl (fun _ => 0))), (b39 10, .inr (7, hc_F_Table 30 3 (fun i => b39 (11 + i)))), ((fun i => b39 (11 + i)) 0, .inl (k.1, 30 * 3, .inl (fun _ => 0))), (b39 12, .inr (7, hc_F_Table 46 3 (fun i => b39 (13 + i)))), ((fun i => b39 (13 + i)) 0, .inl (k.1, 46 * 3, .inl (fun _ => 0)))]) _ _ := hh39
  refine hc_putF (ci := 4) (k := 2) (own := "HopeBank$Reader") (C := RX4) (T := TX4) (N := 10) (t := tyX4 2) hx hb hown hTw hGs.1 hin hh39 rfl (hc_get hn hkn) (by decide) hc_w26 rfl rfl (tyX4_ok 2 (by decide)) rfl rfl (Nat.le_of_ble_eq_true rfl) hc_d_Reader_21 (hc_set hn hkn) (fun Hhh40 locshh40 hh40 => ?_)
  have hh40 : hc_H D s wd (wd.set ki (a, .inr (4, [.ref q34, .int 0, .ref q37, .int 0, .int 0, .int 0, .int 0, .int 0, .null, .int 0])) ++ [(q34, .inl (k.2.1, 900, .inl (fun _ => 0))), (q37, .inr (9, hc_F_Town b39)), (b39 0, .inr (7, hc_F_Table 1 4 (fun i => b39 (1 + i)))), ((fun i => b39 (1 + i)) 0, .inl (k.1, 1 * 4, .inl (fun _ => 0))), (b39 2, .inr (7, hc_F_Table 5 2 (fun i => b39 (3 + i)))), ((fun i => b39 (3 + i)) 0, .inl (k.1, 5 * 2, .inl (fun _ => 0))), (b39 4, .inr (7, hc_F_Table 8 3 (fun i => b39 (5 + i)))), ((fun i => b39 (5 + i)) 0, .inl (k.1, 8 * 3, .inl (fun _ => 0))), (b39 6, .inr (7, hc_F_Table 10 3 (fun i => b39 (7 + i)))), ((fun i => b39 (7 + i)) 0, .inl (k.1, 10 * 3, .inl (fun _ => 0))), (b39 8, .inr (7, hc_F_Table 6 3 (fun i => b39 (9 + i)))), ((fun i => b39 (9 + i)) 0, .inl (k.1, 6 * 3, .inl (fun _ => 0))), (b39 10, .inr (7, hc_F_Table 30 3 (fun i => b39 (11 + i)))), ((fun i => b39 (11 + i)) 0, .inl (k.1, 30 * 3, .inl (fun _ => 0))), (b39 12, .inr (7, hc_F_Table 46 3 (fun i => b39 (13 + i)))), ((fun i => b39 (13 + i)) 0, .inl (k.1, 46 * 3, .inl (fun _ => 0)))]) _ _ := hh40
  refine lv_aload_n hx hb hc_d_Reader_24 rfl (lv_at hl 0 rfl) ?_
  refine lv_iconst (v := (-1 : Int32)) hx hb hc_d_Reader_25 (by decide) ?_
  refine hc_put (ci := 4) (k := 4) (own := "HopeBank$Reader") (C := RX4) (T := TX4) (N := 10) (t := tyX4 4) hx hb hown hTw hGs.1 hh40 rfl (hc_get hn hkn) (by decide) hc_w27 rfl (tyX4_ok 4 (by decide)) rfl rfl (Nat.le_of_ble_eq_true rfl) hc_d_Reader_26 (hc_set hn hkn) (fun Hhh41 locshh41 hh41 => ?_)
  have hh41 : hc_H D s wd (wd.set ki (a, .inr (4, [.ref q34, .int 0, .ref q37, .int 0, .int (-1 : Int32), .int 0, .int 0, .int 0, .null, .int 0])) ++ [(q34, .inl (k.2.1, 900, .inl (fun _ => 0))), (q37, .inr (9, hc_F_Town b39)), (b39 0, .inr (7, hc_F_Table 1 4 (fun i => b39 (1 + i)))), ((fun i => b39 (1 + i)) 0, .inl (k.1, 1 * 4, .inl (fun _ => 0))), (b39 2, .inr (7, hc_F_Table 5 2 (fun i => b39 (3 + i)))), ((fun i => b39 (3 + i)) 0, .inl (k.1, 5 * 2, .inl (fun _ => 0))), (b39 4, .inr (7, hc_F_Table 8 3 (fun i => b39 (5 + i)))), ((fun i => b39 (5 + i)) 0, .inl (k.1, 8 * 3, .inl (fun _ => 0))), (b39 6, .inr (7, hc_F_Table 10 3 (fun i => b39 (7 + i)))), ((fun i => b39 (7 + i)) 0, .inl (k.1, 10 * 3, .inl (fun _ => 0))), (b39 8, .inr (7, hc_F_Table 6 3 (fun i => b39 (9 + i)))), ((fun i => b39 (9 + i)) 0, .inl (k.1, 6 * 3, .inl (fun _ => 0))), (b39 10, .inr (7, hc_F_Table 30 3 (fun i => b39 (11 + i)))), ((fun i => b39 (11 + i)) 0, .inl (k.1, 30 * 3, .inl (fun _ => 0))), (b39 12, .inr (7, hc_F_Table 46 3 (fun i => b39 (13 + i)))), ((fun i => b39 (13 + i)) 0, .inl (k.1, 46 * 3, .inl (fun _ => 0)))]) _ _ := hh41
  refine lv_aload_n hx hb hc_d_Reader_29 rfl (lv_at hl 0 rfl) ?_
  refine lv_iconst (v := nI 4) hx hb hc_d_Reader_30 (by decide) ?_
  refine hc_newi (N' := 4) (cA := k.1) hx hb hTw hGs.1 hh41 hc_w3 hk0.1.2 (by decide) (by decide) (Nat.le_of_ble_eq_true rfl) (Nat.le_of_ble_eq_true rfl) (Nat.le_of_ble_eq_true rfl) hc_d_Reader_31 (fun q42 Hhh43 hh43 => ?_)
  rw [List.append_assoc] at hh43
  have hh43 : hc_H D s wd (wd.set ki (a, .inr (4, [.ref q34, .int 0, .ref q37, .int 0, .int (-1 : Int32), .int 0, .int 0, .int 0, .null, .int 0])) ++ [(q34, .inl (k.2.1, 900, .inl (fun _ => 0))), (q37, .inr (9, hc_F_Town b39)), (b39 0, .inr (7, hc_F_Table 1 4 (fun i => b39 (1 + i)))), ((fun i => b39 (1 + i)) 0, .inl (k.1, 1 * 4, .inl (fun _ => 0))), (b39 2, .inr (7, hc_F_Table 5 2 (fun i => b39 (3 + i)))), ((fun i => b39 (3 + i)) 0, .inl (k.1, 5 * 2, .inl (fun _ => 0))), (b39 4, .inr (7, hc_F_Table 8 3 (fun i => b39 (5 + i)))), ((fun i => b39 (5 + i)) 0, .inl (k.1, 8 * 3, .inl (fun _ => 0))), (b39 6, .inr (7, hc_F_Table 10 3 (fun i => b39 (7 + i)))), ((fun i => b39 (7 + i)) 0, .inl (k.1, 10 * 3, .inl (fun _ => 0))), (b39 8, .inr (7, hc_F_Table 6 3 (fun i => b39 (9 + i)))), ((fun i => b39 (9 + i)) 0, .inl (k.1, 6 * 3, .inl (fun _ => 0))), (b39 10, .inr (7, hc_F_Table 30 3 (fun i => b39 (11 + i)))), ((fun i => b39 (11 + i)) 0, .inl (k.1, 30 * 3, .inl (fun _ => 0))), (b39 12, .inr (7, hc_F_Table 46 3 (fun i => b39 (13 + i)))), ((fun i => b39 (13 + i)) 0, .inl (k.1, 46 * 3, .inl (fun _ => 0))), (q42, .inl (k.1, 4, .inl (fun _ => 0)))]) _ _ := hh43
  refine hc_putF (ci := 4) (k := 8) (own := "HopeBank$Reader") (C := RX4) (T := TX4) (N := 10) (t := tyX4 8) hx hb hown hTw hGs.1 hin hh43 rfl (hc_get hn hkn) (by decide) hc_w28 rfl rfl (tyX4_ok 8 (by decide)) rfl rfl (Nat.le_of_ble_eq_true rfl) hc_d_Reader_33 (hc_set hn hkn) (fun Hhh44 locshh44 hh44 => ?_)
  have hh44 : hc_H D s wd (wd.set ki (a, .inr (4, [.ref q34, .int 0, .ref q37, .int 0, .int (-1 : Int32), .int 0, .int 0, .int 0, .ref q42, .int 0])) ++ [(q34, .inl (k.2.1, 900, .inl (fun _ => 0))), (q37, .inr (9, hc_F_Town b39)), (b39 0, .inr (7, hc_F_Table 1 4 (fun i => b39 (1 + i)))), ((fun i => b39 (1 + i)) 0, .inl (k.1, 1 * 4, .inl (fun _ => 0))), (b39 2, .inr (7, hc_F_Table 5 2 (fun i => b39 (3 + i)))), ((fun i => b39 (3 + i)) 0, .inl (k.1, 5 * 2, .inl (fun _ => 0))), (b39 4, .inr (7, hc_F_Table 8 3 (fun i => b39 (5 + i)))), ((fun i => b39 (5 + i)) 0, .inl (k.1, 8 * 3, .inl (fun _ => 0))), (b39 6, .inr (7, hc_F_Table 10 3 (fun i => b39 (7 + i)))), ((fun i => b39 (7 + i)) 0, .inl (k.1, 10 * 3, .inl (fun _ => 0))), (b39 8, .inr (7, hc_F_Table 6 3 (fun i => b39 (9 + i)))), ((fun i => b39 (9 + i)) 0, .inl (k.1, 6 * 3, .inl (fun _ => 0))), (b39 10, .inr (7, hc_F_Table 30 3 (fun i => b39 (11 + i)))), ((fun i => b39 (11 + i)) 0, .inl (k.1, 30 * 3, .inl (fun _ => 0))), (b39 12, .inr (7, hc_F_Table 46 3 (fun i => b39 (13 + i)))), ((fun i => b39 (13 + i)) 0, .inl (k.1, 46 * 3, .inl (fun _ => 0))), (q42, .inl (k.1, 4, .inl (fun _ => 0)))]) _ _ := hh44
  refine W.widen (k := 17) (n := 1247) (by omega) (by omega) ?_
  exact hc_ret hx hb hret hlocks hh44 hc_d_Reader_36 (fun t hv k1 hk1 => ⟨fun i => [q34, q37, b39 0, b39 1, b39 2, b39 3, b39 4, b39 5, b39 6, b39 7, b39 8, b39 9, b39 10, b39 11, b39 12, b39 13, q42].getD i 0, by have e := hc_Ku hv hk0 hk1; subst e; rfl⟩)
def hc_F_Look (x1 x2 : Nat) (_ : Nat → Nat) : List Value := [.ref x1, .ref x2]
def hc_L_Look (k : hcK) (x1 x2 : Nat) (b : Nat → Nat) : va_W := []
set_option maxHeartbeats 8000000 in
theorem hc_Look {l : Launch} {D : va_G} {U S : Nat → Nat} {wd : va_W} {n0 ki a : Nat} {x1 x2 : Nat} (hn : wd.length = n0) (hk : wd[ki]? = some (a, .inr (1, hc_Z_Look))) : hc_Met l hc_y_Look 1 20 0 0 D U S wd [] [.ref a, .ref x1, .ref x2] (fun t wd' => ∀ k, hc_K t k → ∃ b : Nat → Nat, wd' = wd.set ki (a, .inr (1, hc_F_Look x1 x2 b)) ++ hc_L_Look k x1 x2 b) := by
  refine hc_enter (by decide) (Nat.le_of_ble_eq_true rfl) ?_
  intro p e s m below meth c ls hBd hin hh hwd hGs hX hl
  obtain ⟨hx, hb, hml, hown, hlocks, hret, hTw⟩ := id hBd
  obtain ⟨k, hk0⟩ := hc_Kof hTw
  have hkn := (List.getElem?_eq_some_iff.mp hk).1
  rw [hn] at hkn
  have hh : hc_H D s wd (wd.set ki (a, .inr (1, [.null, .null])) ++ []) s.heap [] := by rw [← hc_start (show wd[ki]? = some (a, .inr (1, [.null, .null])) from hk)]; exact hh
  refine lv_aload_n hx hb hc_d_Look_0 rfl (lv_at hl 0 rfl) ?_
  refine hc_obj (own := "HopeBank$Look") hx hb (by rw [hml, hl.1]) hown hTw hc_w29 hc_oi hc_oc hc_d_Look_1 (Nat.le_of_ble_eq_true rfl) (Nat.le_of_ble_eq_true rfl) ?_
  refine lv_aload_n hx hb hc_d_Look_4 rfl (lv_at hl 0 rfl) ?_
  refine lv_aload_n hx hb hc_d_Look_5 rfl (lv_at hl 1 rfl) ?_
  refine hc_putF (ci := 1) (k := 0) (own := "HopeBank$Look") (C := RX1) (T := TX1) (N := 2) (t := tyX1 0) hx hb hown hTw hGs.1 hin hh rfl (hc_get hn hkn) (by decide) hc_w30 rfl rfl (tyX1_ok 0 (by decide)) rfl rfl (Nat.le_of_ble_eq_true rfl) hc_d_Look_6 (hc_set hn hkn) (fun Hhh45 locshh45 hh45 => ?_)
  have hh45 : hc_H D s wd (wd.set ki (a, .inr (1, [.ref x1, .null])) ++ []) _ _ := hh45
  refine lv_aload_n hx hb hc_d_Look_9 rfl (lv_at hl 0 rfl) ?_
  refine lv_aload_n hx hb hc_d_Look_10 rfl (lv_at hl 2 rfl) ?_
  refine hc_putF (ci := 1) (k := 1) (own := "HopeBank$Look") (C := RX1) (T := TX1) (N := 2) (t := tyX1 1) hx hb hown hTw hGs.1 hin hh45 rfl (hc_get hn hkn) (by decide) hc_w31 rfl rfl (tyX1_ok 1 (by decide)) rfl rfl (Nat.le_of_ble_eq_true rfl) hc_d_Look_11 (hc_set hn hkn) (fun Hhh46 locshh46 hh46 => ?_)
  have hh46 : hc_H D s wd (wd.set ki (a, .inr (1, [.ref x1, .ref x2])) ++ []) _ _ := hh46
  refine W.widen (k := 0) (n := 0) (by omega) (by omega) ?_
  exact hc_ret hx hb hret hlocks hh46 hc_d_Look_14 (fun t hv k1 hk1 => ⟨fun i => [].getD i 0, by have e := hc_Ku hv hk0 hk1; subst e; rfl⟩)
def hc_F_Sets (x1 : Nat) (b : Nat → Nat) : List Value := [.ref x1, .ref (b 0), .ref (b 1), .int 0]
def hc_L_Sets (k : hcK) (x1 : Nat) (b : Nat → Nat) : va_W := [(b 0, .inl (k.1, 256, .inl (fun _ => 0))), (b 1, .inl (k.1, 256, .inl (fun _ => 0)))]
set_option maxHeartbeats 8000000 in
theorem hc_Sets {l : Launch} {D : va_G} {U S : Nat → Nat} {wd : va_W} {n0 ki a : Nat} {x1 : Nat} (hn : wd.length = n0) (hk : wd[ki]? = some (a, .inr (5, hc_Z_Sets))) : hc_Met l hc_y_Sets 1 20 2 512 D U S wd [] [.ref a, .ref x1] (fun t wd' => ∀ k, hc_K t k → ∃ b : Nat → Nat, wd' = wd.set ki (a, .inr (5, hc_F_Sets x1 b)) ++ hc_L_Sets k x1 b) := by
  refine hc_enter (by decide) (Nat.le_of_ble_eq_true rfl) ?_
  intro p e s m below meth c ls hBd hin hh hwd hGs hX hl
  obtain ⟨hx, hb, hml, hown, hlocks, hret, hTw⟩ := id hBd
  obtain ⟨k, hk0⟩ := hc_Kof hTw
  have hkn := (List.getElem?_eq_some_iff.mp hk).1
  rw [hn] at hkn
  have hh : hc_H D s wd (wd.set ki (a, .inr (5, [.null, .null, .null, .int 0])) ++ []) s.heap [] := by rw [← hc_start (show wd[ki]? = some (a, .inr (5, [.null, .null, .null, .int 0])) from hk)]; exact hh
  refine lv_aload_n hx hb hc_d_Sets_0 rfl (lv_at hl 0 rfl) ?_
  refine hc_obj (own := "HopeBank$Sets") hx hb (by rw [hml, hl.1]) hown hTw hc_w32 hc_oi hc_oc hc_d_Sets_1 (Nat.le_of_ble_eq_true rfl) (Nat.le_of_ble_eq_true rfl) ?_
  refine lv_aload_n hx hb hc_d_Sets_4 rfl (lv_at hl 0 rfl) ?_
  refine lv_sipush (v := nI 256) hx hb hc_d_Sets_5 (by decide) ?_
  refine hc_newi (N' := 256) (cA := k.1) hx hb hTw hGs.1 hh hc_w3 hk0.1.2 (by decide) (by decide) (Nat.le_of_ble_eq_true rfl) (Nat.le_of_ble_eq_true rfl) (Nat.le_of_ble_eq_true rfl) hc_d_Sets_8 (fun q47 Hhh48 hh48 => ?_)
  rw [List.append_assoc] at hh48
  have hh48 : hc_H D s wd (wd.set ki (a, .inr (5, [.null, .null, .null, .int 0])) ++ [(q47, .inl (k.1, 256, .inl (fun _ => 0)))]) _ _ := hh48
  refine hc_putF (ci := 5) (k := 1) (own := "HopeBank$Sets") (C := RX5) (T := TX5) (N := 4) (t := tyX5 1) hx hb hown hTw hGs.1 hin hh48 rfl (hc_get hn hkn) (by decide) hc_w33 rfl rfl (tyX5_ok 1 (by decide)) rfl rfl (Nat.le_of_ble_eq_true rfl) hc_d_Sets_10 (hc_set hn hkn) (fun Hhh49 locshh49 hh49 => ?_)
  have hh49 : hc_H D s wd (wd.set ki (a, .inr (5, [.null, .ref q47, .null, .int 0])) ++ [(q47, .inl (k.1, 256, .inl (fun _ => 0)))]) _ _ := hh49
  refine lv_aload_n hx hb hc_d_Sets_13 rfl (lv_at hl 0 rfl) ?_
  refine lv_sipush (v := nI 256) hx hb hc_d_Sets_14 (by decide) ?_
  refine hc_newi (N' := 256) (cA := k.1) hx hb hTw hGs.1 hh49 hc_w3 hk0.1.2 (by decide) (by decide) (Nat.le_of_ble_eq_true rfl) (Nat.le_of_ble_eq_true rfl) (Nat.le_of_ble_eq_true rfl) hc_d_Sets_17 (fun q50 Hhh51 hh51 => ?_)
  rw [List.append_assoc] at hh51
  have hh51 : hc_H D s wd (wd.set ki (a, .inr (5, [.null, .ref q47, .null, .int 0])) ++ [(q47, .inl (k.1, 256, .inl (fun _ => 0))), (q50, .inl (k.1, 256, .inl (fun _ => 0)))]) _ _ := hh51
  refine hc_putF (ci := 5) (k := 2) (own := "HopeBank$Sets") (C := RX5) (T := TX5) (N := 4) (t := tyX5 2) hx hb hown hTw hGs.1 hin hh51 rfl (hc_get hn hkn) (by decide) hc_w34 rfl rfl (tyX5_ok 2 (by decide)) rfl rfl (Nat.le_of_ble_eq_true rfl) hc_d_Sets_19 (hc_set hn hkn) (fun Hhh52 locshh52 hh52 => ?_)
  have hh52 : hc_H D s wd (wd.set ki (a, .inr (5, [.null, .ref q47, .ref q50, .int 0])) ++ [(q47, .inl (k.1, 256, .inl (fun _ => 0))), (q50, .inl (k.1, 256, .inl (fun _ => 0)))]) _ _ := hh52
  refine lv_aload_n hx hb hc_d_Sets_22 rfl (lv_at hl 0 rfl) ?_
  refine lv_aload_n hx hb hc_d_Sets_23 rfl (lv_at hl 1 rfl) ?_
  refine hc_putF (ci := 5) (k := 0) (own := "HopeBank$Sets") (C := RX5) (T := TX5) (N := 4) (t := tyX5 0) hx hb hown hTw hGs.1 hin hh52 rfl (hc_get hn hkn) (by decide) hc_w35 rfl rfl (tyX5_ok 0 (by decide)) rfl rfl (Nat.le_of_ble_eq_true rfl) hc_d_Sets_24 (hc_set hn hkn) (fun Hhh53 locshh53 hh53 => ?_)
  have hh53 : hc_H D s wd (wd.set ki (a, .inr (5, [.ref x1, .ref q47, .ref q50, .int 0])) ++ [(q47, .inl (k.1, 256, .inl (fun _ => 0))), (q50, .inl (k.1, 256, .inl (fun _ => 0)))]) _ _ := hh53
  refine W.widen (k := 2) (n := 512) (by omega) (by omega) ?_
  exact hc_ret hx hb hret hlocks hh53 hc_d_Sets_27 (fun t hv k1 hk1 => ⟨fun i => [q47, q50].getD i 0, by have e := hc_Ku hv hk0 hk1; subst e; rfl⟩)
def hc_F_Packing (x1 x2 : Nat) (b : Nat → Nat) : List Value := [.ref x1, .ref x2, .ref (b 0), .ref (b 1), .ref (b 2), .int 0, .int 0, .int 0]
def hc_L_Packing (k : hcK) (x1 x2 : Nat) (b : Nat → Nat) : va_W := [(b 0, .inl (k.1, 256, .inl (fun _ => 0))), (b 1, .inl (k.1, 5, .inl (fun _ => 0))), (b 2, .inl (k.1, 8, .inl (fun _ => 0)))]
set_option maxHeartbeats 8000000 in
theorem hc_Packing {l : Launch} {D : va_G} {U S : Nat → Nat} {wd : va_W} {n0 ki a : Nat} {x1 x2 : Nat} (hn : wd.length = n0) (hk : wd[ki]? = some (a, .inr (2, hc_Z_Packing))) : hc_Met l hc_y_Packing 1 20 3 269 D U S wd [] [.ref a, .ref x1, .ref x2] (fun t wd' => ∀ k, hc_K t k → ∃ b : Nat → Nat, wd' = wd.set ki (a, .inr (2, hc_F_Packing x1 x2 b)) ++ hc_L_Packing k x1 x2 b) := by
  refine hc_enter (by decide) (Nat.le_of_ble_eq_true rfl) ?_
  intro p e s m below meth c ls hBd hin hh hwd hGs hX hl
  obtain ⟨hx, hb, hml, hown, hlocks, hret, hTw⟩ := id hBd
  obtain ⟨k, hk0⟩ := hc_Kof hTw
  have hkn := (List.getElem?_eq_some_iff.mp hk).1
  rw [hn] at hkn
  have hh : hc_H D s wd (wd.set ki (a, .inr (2, [.null, .null, .null, .null, .null, .int 0, .int 0, .int 0])) ++ []) s.heap [] := by rw [← hc_start (show wd[ki]? = some (a, .inr (2, [.null, .null, .null, .null, .null, .int 0, .int 0, .int 0])) from hk)]; exact hh
  refine lv_aload_n hx hb hc_d_Packing_0 rfl (lv_at hl 0 rfl) ?_
  refine hc_obj (own := "HopeBank$Packing") hx hb (by rw [hml, hl.1]) hown hTw hc_w36 hc_oi hc_oc hc_d_Packing_1 (Nat.le_of_ble_eq_true rfl) (Nat.le_of_ble_eq_true rfl) ?_
  refine lv_aload_n hx hb hc_d_Packing_4 rfl (lv_at hl 0 rfl) ?_
  refine lv_sipush (v := nI 256) hx hb hc_d_Packing_5 (by decide) ?_
  refine hc_newi (N' := 256) (cA := k.1) hx hb hTw hGs.1 hh hc_w3 hk0.1.2 (by decide) (by decide) (Nat.le_of_ble_eq_true rfl) (Nat.le_of_ble_eq_true rfl) (Nat.le_of_ble_eq_true rfl) hc_d_Packing_8 (fun q54 Hhh55 hh55 => ?_)
  rw [List.append_assoc] at hh55
  have hh55 : hc_H D s wd (wd.set ki (a, .inr (2, [.null, .null, .null, .null, .null, .int 0, .int 0, .int 0])) ++ [(q54, .inl (k.1, 256, .inl (fun _ => 0)))]) _ _ := hh55
  refine hc_putF (ci := 2) (k := 2) (own := "HopeBank$Packing") (C := RX2) (T := TX2) (N := 8) (t := tyX2 2) hx hb hown hTw hGs.1 hin hh55 rfl (hc_get hn hkn) (by decide) hc_w37 rfl rfl (tyX2_ok 2 (by decide)) rfl rfl (Nat.le_of_ble_eq_true rfl) hc_d_Packing_10 (hc_set hn hkn) (fun Hhh56 locshh56 hh56 => ?_)
  have hh56 : hc_H D s wd (wd.set ki (a, .inr (2, [.null, .null, .ref q54, .null, .null, .int 0, .int 0, .int 0])) ++ [(q54, .inl (k.1, 256, .inl (fun _ => 0)))]) _ _ := hh56
  refine lv_aload_n hx hb hc_d_Packing_13 rfl (lv_at hl 0 rfl) ?_
  refine lv_iconst (v := nI 5) hx hb hc_d_Packing_14 (by decide) ?_
  refine hc_newi (N' := 5) (cA := k.1) hx hb hTw hGs.1 hh56 hc_w3 hk0.1.2 (by decide) (by decide) (Nat.le_of_ble_eq_true rfl) (Nat.le_of_ble_eq_true rfl) (Nat.le_of_ble_eq_true rfl) hc_d_Packing_15 (fun q57 Hhh58 hh58 => ?_)
  rw [List.append_assoc] at hh58
  have hh58 : hc_H D s wd (wd.set ki (a, .inr (2, [.null, .null, .ref q54, .null, .null, .int 0, .int 0, .int 0])) ++ [(q54, .inl (k.1, 256, .inl (fun _ => 0))), (q57, .inl (k.1, 5, .inl (fun _ => 0)))]) _ _ := hh58
  refine hc_putF (ci := 2) (k := 3) (own := "HopeBank$Packing") (C := RX2) (T := TX2) (N := 8) (t := tyX2 3) hx hb hown hTw hGs.1 hin hh58 rfl (hc_get hn hkn) (by decide) hc_w38 rfl rfl (tyX2_ok 3 (by decide)) rfl rfl (Nat.le_of_ble_eq_true rfl) hc_d_Packing_17 (hc_set hn hkn) (fun Hhh59 locshh59 hh59 => ?_)
  have hh59 : hc_H D s wd (wd.set ki (a, .inr (2, [.null, .null, .ref q54, .ref q57, .null, .int 0, .int 0, .int 0])) ++ [(q54, .inl (k.1, 256, .inl (fun _ => 0))), (q57, .inl (k.1, 5, .inl (fun _ => 0)))]) _ _ := hh59
  refine lv_aload_n hx hb hc_d_Packing_20 rfl (lv_at hl 0 rfl) ?_
  refine lv_bipush (v := nI 8) hx hb hc_d_Packing_21 (by decide) ?_
  refine hc_newi (N' := 8) (cA := k.1) hx hb hTw hGs.1 hh59 hc_w3 hk0.1.2 (by decide) (by decide) (Nat.le_of_ble_eq_true rfl) (Nat.le_of_ble_eq_true rfl) (Nat.le_of_ble_eq_true rfl) hc_d_Packing_23 (fun q60 Hhh61 hh61 => ?_)
  rw [List.append_assoc] at hh61
  have hh61 : hc_H D s wd (wd.set ki (a, .inr (2, [.null, .null, .ref q54, .ref q57, .null, .int 0, .int 0, .int 0])) ++ [(q54, .inl (k.1, 256, .inl (fun _ => 0))), (q57, .inl (k.1, 5, .inl (fun _ => 0))), (q60, .inl (k.1, 8, .inl (fun _ => 0)))]) _ _ := hh61
  refine hc_putF (ci := 2) (k := 4) (own := "HopeBank$Packing") (C := RX2) (T := TX2) (N := 8) (t := tyX2 4) hx hb hown hTw hGs.1 hin hh61 rfl (hc_get hn hkn) (by decide) hc_w39 rfl rfl (tyX2_ok 4 (by decide)) rfl rfl (Nat.le_of_ble_eq_true rfl) hc_d_Packing_25 (hc_set hn hkn) (fun Hhh62 locshh62 hh62 => ?_)
  have hh62 : hc_H D s wd (wd.set ki (a, .inr (2, [.null, .null, .ref q54, .ref q57, .ref q60, .int 0, .int 0, .int 0])) ++ [(q54, .inl (k.1, 256, .inl (fun _ => 0))), (q57, .inl (k.1, 5, .inl (fun _ => 0))), (q60, .inl (k.1, 8, .inl (fun _ => 0)))]) _ _ := hh62
  refine lv_aload_n hx hb hc_d_Packing_28 rfl (lv_at hl 0 rfl) ?_
  refine lv_aload_n hx hb hc_d_Packing_29 rfl (lv_at hl 1 rfl) ?_
  refine hc_putF (ci := 2) (k := 0) (own := "HopeBank$Packing") (C := RX2) (T := TX2) (N := 8) (t := tyX2 0) hx hb hown hTw hGs.1 hin hh62 rfl (hc_get hn hkn) (by decide) hc_w40 rfl rfl (tyX2_ok 0 (by decide)) rfl rfl (Nat.le_of_ble_eq_true rfl) hc_d_Packing_30 (hc_set hn hkn) (fun Hhh63 locshh63 hh63 => ?_)
  have hh63 : hc_H D s wd (wd.set ki (a, .inr (2, [.ref x1, .null, .ref q54, .ref q57, .ref q60, .int 0, .int 0, .int 0])) ++ [(q54, .inl (k.1, 256, .inl (fun _ => 0))), (q57, .inl (k.1, 5, .inl (fun _ => 0))), (q60, .inl (k.1, 8, .inl (fun _ => 0)))]) _ _ := hh63
  refine lv_aload_n hx hb hc_d_Packing_33 rfl (lv_at hl 0 rfl) ?_
  refine lv_aload_n hx hb hc_d_Packing_34 rfl (lv_at hl 2 rfl) ?_
  refine hc_putF (ci := 2) (k := 1) (own := "HopeBank$Packing") (C := RX2) (T := TX2) (N := 8) (t := tyX2 1) hx hb hown hTw hGs.1 hin hh63 rfl (hc_get hn hkn) (by decide) hc_w41 rfl rfl (tyX2_ok 1 (by decide)) rfl rfl (Nat.le_of_ble_eq_true rfl) hc_d_Packing_35 (hc_set hn hkn) (fun Hhh64 locshh64 hh64 => ?_)
  have hh64 : hc_H D s wd (wd.set ki (a, .inr (2, [.ref x1, .ref x2, .ref q54, .ref q57, .ref q60, .int 0, .int 0, .int 0])) ++ [(q54, .inl (k.1, 256, .inl (fun _ => 0))), (q57, .inl (k.1, 5, .inl (fun _ => 0))), (q60, .inl (k.1, 8, .inl (fun _ => 0)))]) _ _ := hh64
  refine W.widen (k := 3) (n := 269) (by omega) (by omega) ?_
  exact hc_ret hx hb hret hlocks hh64 hc_d_Packing_38 (fun t hv k1 hk1 => ⟨fun i => [q54, q57, q60].getD i 0, by have e := hc_Ku hv hk0 hk1; subst e; rfl⟩)
def hc_F_Hush (x1 x2 : Nat) (b : Nat → Nat) : List Value := [.ref x1, .ref x2, .ref (b 0), .ref (b 1), .int 0]
def hc_L_Hush (k : hcK) (x1 x2 : Nat) (b : Nat → Nat) : va_W := [(b 0, .inl (k.1, 256, .inl (fun _ => 0))), (b 1, .inl (k.1, 256, .inl (fun _ => 0)))]
set_option maxHeartbeats 8000000 in
theorem hc_Hush {l : Launch} {D : va_G} {U S : Nat → Nat} {wd : va_W} {n0 ki a : Nat} {x1 x2 : Nat} (hn : wd.length = n0) (hk : wd[ki]? = some (a, .inr (0, hc_Z_Hush))) : hc_Met l hc_y_Hush 1 20 2 512 D U S wd [] [.ref a, .ref x1, .ref x2] (fun t wd' => ∀ k, hc_K t k → ∃ b : Nat → Nat, wd' = wd.set ki (a, .inr (0, hc_F_Hush x1 x2 b)) ++ hc_L_Hush k x1 x2 b) := by
  refine hc_enter (by decide) (Nat.le_of_ble_eq_true rfl) ?_
  intro p e s m below meth c ls hBd hin hh hwd hGs hX hl
  obtain ⟨hx, hb, hml, hown, hlocks, hret, hTw⟩ := id hBd
  obtain ⟨k, hk0⟩ := hc_Kof hTw
  have hkn := (List.getElem?_eq_some_iff.mp hk).1
  rw [hn] at hkn
  have hh : hc_H D s wd (wd.set ki (a, .inr (0, [.null, .null, .null, .null, .int 0])) ++ []) s.heap [] := by rw [← hc_start (show wd[ki]? = some (a, .inr (0, [.null, .null, .null, .null, .int 0])) from hk)]; exact hh
  refine lv_aload_n hx hb hc_d_Hush_0 rfl (lv_at hl 0 rfl) ?_
  refine hc_obj (own := "HopeBank$Hush") hx hb (by rw [hml, hl.1]) hown hTw hc_w42 hc_oi hc_oc hc_d_Hush_1 (Nat.le_of_ble_eq_true rfl) (Nat.le_of_ble_eq_true rfl) ?_
  refine lv_aload_n hx hb hc_d_Hush_4 rfl (lv_at hl 0 rfl) ?_
  refine lv_sipush (v := nI 256) hx hb hc_d_Hush_5 (by decide) ?_
  refine hc_newi (N' := 256) (cA := k.1) hx hb hTw hGs.1 hh hc_w3 hk0.1.2 (by decide) (by decide) (Nat.le_of_ble_eq_true rfl) (Nat.le_of_ble_eq_true rfl) (Nat.le_of_ble_eq_true rfl) hc_d_Hush_8 (fun q65 Hhh66 hh66 => ?_)
  rw [List.append_assoc] at hh66
  have hh66 : hc_H D s wd (wd.set ki (a, .inr (0, [.null, .null, .null, .null, .int 0])) ++ [(q65, .inl (k.1, 256, .inl (fun _ => 0)))]) _ _ := hh66
  refine hc_putF (ci := 0) (k := 2) (own := "HopeBank$Hush") (C := RX0) (T := TX0) (N := 5) (t := tyX0 2) hx hb hown hTw hGs.1 hin hh66 rfl (hc_get hn hkn) (by decide) hc_w43 rfl rfl (tyX0_ok 2 (by decide)) rfl rfl (Nat.le_of_ble_eq_true rfl) hc_d_Hush_10 (hc_set hn hkn) (fun Hhh67 locshh67 hh67 => ?_)
  have hh67 : hc_H D s wd (wd.set ki (a, .inr (0, [.null, .null, .ref q65, .null, .int 0])) ++ [(q65, .inl (k.1, 256, .inl (fun _ => 0)))]) _ _ := hh67
  refine lv_aload_n hx hb hc_d_Hush_13 rfl (lv_at hl 0 rfl) ?_
  refine lv_sipush (v := nI 256) hx hb hc_d_Hush_14 (by decide) ?_
  refine hc_newi (N' := 256) (cA := k.1) hx hb hTw hGs.1 hh67 hc_w3 hk0.1.2 (by decide) (by decide) (Nat.le_of_ble_eq_true rfl) (Nat.le_of_ble_eq_true rfl) (Nat.le_of_ble_eq_true rfl) hc_d_Hush_17 (fun q68 Hhh69 hh69 => ?_)
  rw [List.append_assoc] at hh69
  have hh69 : hc_H D s wd (wd.set ki (a, .inr (0, [.null, .null, .ref q65, .null, .int 0])) ++ [(q65, .inl (k.1, 256, .inl (fun _ => 0))), (q68, .inl (k.1, 256, .inl (fun _ => 0)))]) _ _ := hh69
  refine hc_putF (ci := 0) (k := 3) (own := "HopeBank$Hush") (C := RX0) (T := TX0) (N := 5) (t := tyX0 3) hx hb hown hTw hGs.1 hin hh69 rfl (hc_get hn hkn) (by decide) hc_w44 rfl rfl (tyX0_ok 3 (by decide)) rfl rfl (Nat.le_of_ble_eq_true rfl) hc_d_Hush_19 (hc_set hn hkn) (fun Hhh70 locshh70 hh70 => ?_)
  have hh70 : hc_H D s wd (wd.set ki (a, .inr (0, [.null, .null, .ref q65, .ref q68, .int 0])) ++ [(q65, .inl (k.1, 256, .inl (fun _ => 0))), (q68, .inl (k.1, 256, .inl (fun _ => 0)))]) _ _ := hh70
  refine lv_aload_n hx hb hc_d_Hush_22 rfl (lv_at hl 0 rfl) ?_
  refine lv_aload_n hx hb hc_d_Hush_23 rfl (lv_at hl 1 rfl) ?_
  refine hc_putF (ci := 0) (k := 0) (own := "HopeBank$Hush") (C := RX0) (T := TX0) (N := 5) (t := tyX0 0) hx hb hown hTw hGs.1 hin hh70 rfl (hc_get hn hkn) (by decide) hc_w45 rfl rfl (tyX0_ok 0 (by decide)) rfl rfl (Nat.le_of_ble_eq_true rfl) hc_d_Hush_24 (hc_set hn hkn) (fun Hhh71 locshh71 hh71 => ?_)
  have hh71 : hc_H D s wd (wd.set ki (a, .inr (0, [.ref x1, .null, .ref q65, .ref q68, .int 0])) ++ [(q65, .inl (k.1, 256, .inl (fun _ => 0))), (q68, .inl (k.1, 256, .inl (fun _ => 0)))]) _ _ := hh71
  refine lv_aload_n hx hb hc_d_Hush_27 rfl (lv_at hl 0 rfl) ?_
  refine lv_aload_n hx hb hc_d_Hush_28 rfl (lv_at hl 2 rfl) ?_
  refine hc_putF (ci := 0) (k := 1) (own := "HopeBank$Hush") (C := RX0) (T := TX0) (N := 5) (t := tyX0 1) hx hb hown hTw hGs.1 hin hh71 rfl (hc_get hn hkn) (by decide) hc_w46 rfl rfl (tyX0_ok 1 (by decide)) rfl rfl (Nat.le_of_ble_eq_true rfl) hc_d_Hush_29 (hc_set hn hkn) (fun Hhh72 locshh72 hh72 => ?_)
  have hh72 : hc_H D s wd (wd.set ki (a, .inr (0, [.ref x1, .ref x2, .ref q65, .ref q68, .int 0])) ++ [(q65, .inl (k.1, 256, .inl (fun _ => 0))), (q68, .inl (k.1, 256, .inl (fun _ => 0)))]) _ _ := hh72
  refine W.widen (k := 2) (n := 512) (by omega) (by omega) ?_
  exact hc_ret hx hb hret hlocks hh72 hc_d_Hush_32 (fun t hv k1 hk1 => ⟨fun i => [q65, q68].getD i 0, by have e := hc_Ku hv hk0 hk1; subst e; rfl⟩)
def hc_F_Tilting (x1 x2 x3 : Nat) (b : Nat → Nat) : List Value := [.ref x1, .ref x2, .ref x3, .ref (b 0), .ref (b 1), .int 0]
def hc_L_Tilting (k : hcK) (x1 x2 x3 : Nat) (b : Nat → Nat) : va_W := [(b 0, .inl (k.1, 256, .inl (fun _ => 0))), (b 1, .inl (k.1, 9, .inl (fun _ => 0)))]
set_option maxHeartbeats 8000000 in
theorem hc_Tilting {l : Launch} {D : va_G} {U S : Nat → Nat} {wd : va_W} {n0 ki a : Nat} {x1 x2 x3 : Nat} (hn : wd.length = n0) (hk : wd[ki]? = some (a, .inr (8, hc_Z_Tilting))) : hc_Met l hc_y_Tilting 1 20 2 265 D U S wd [] [.ref a, .ref x1, .ref x2, .ref x3] (fun t wd' => ∀ k, hc_K t k → ∃ b : Nat → Nat, wd' = wd.set ki (a, .inr (8, hc_F_Tilting x1 x2 x3 b)) ++ hc_L_Tilting k x1 x2 x3 b) := by
  refine hc_enter (by decide) (Nat.le_of_ble_eq_true rfl) ?_
  intro p e s m below meth c ls hBd hin hh hwd hGs hX hl
  obtain ⟨hx, hb, hml, hown, hlocks, hret, hTw⟩ := id hBd
  obtain ⟨k, hk0⟩ := hc_Kof hTw
  have hkn := (List.getElem?_eq_some_iff.mp hk).1
  rw [hn] at hkn
  have hh : hc_H D s wd (wd.set ki (a, .inr (8, [.null, .null, .null, .null, .null, .int 0])) ++ []) s.heap [] := by rw [← hc_start (show wd[ki]? = some (a, .inr (8, [.null, .null, .null, .null, .null, .int 0])) from hk)]; exact hh
  refine lv_aload_n hx hb hc_d_Tilting_0 rfl (lv_at hl 0 rfl) ?_
  refine hc_obj (own := "HopeBank$Tilting") hx hb (by rw [hml, hl.1]) hown hTw hc_w47 hc_oi hc_oc hc_d_Tilting_1 (Nat.le_of_ble_eq_true rfl) (Nat.le_of_ble_eq_true rfl) ?_
  refine lv_aload_n hx hb hc_d_Tilting_4 rfl (lv_at hl 0 rfl) ?_
  refine lv_sipush (v := nI 256) hx hb hc_d_Tilting_5 (by decide) ?_
  refine hc_newi (N' := 256) (cA := k.1) hx hb hTw hGs.1 hh hc_w3 hk0.1.2 (by decide) (by decide) (Nat.le_of_ble_eq_true rfl) (Nat.le_of_ble_eq_true rfl) (Nat.le_of_ble_eq_true rfl) hc_d_Tilting_8 (fun q73 Hhh74 hh74 => ?_)
  rw [List.append_assoc] at hh74
  have hh74 : hc_H D s wd (wd.set ki (a, .inr (8, [.null, .null, .null, .null, .null, .int 0])) ++ [(q73, .inl (k.1, 256, .inl (fun _ => 0)))]) _ _ := hh74
  refine hc_putF (ci := 8) (k := 3) (own := "HopeBank$Tilting") (C := RX8) (T := TX8) (N := 6) (t := tyX8 3) hx hb hown hTw hGs.1 hin hh74 rfl (hc_get hn hkn) (by decide) hc_w48 rfl rfl (tyX8_ok 3 (by decide)) rfl rfl (Nat.le_of_ble_eq_true rfl) hc_d_Tilting_10 (hc_set hn hkn) (fun Hhh75 locshh75 hh75 => ?_)
  have hh75 : hc_H D s wd (wd.set ki (a, .inr (8, [.null, .null, .null, .ref q73, .null, .int 0])) ++ [(q73, .inl (k.1, 256, .inl (fun _ => 0)))]) _ _ := hh75
  refine lv_aload_n hx hb hc_d_Tilting_13 rfl (lv_at hl 0 rfl) ?_
  refine lv_bipush (v := nI 9) hx hb hc_d_Tilting_14 (by decide) ?_
  refine hc_newi (N' := 9) (cA := k.1) hx hb hTw hGs.1 hh75 hc_w3 hk0.1.2 (by decide) (by decide) (Nat.le_of_ble_eq_true rfl) (Nat.le_of_ble_eq_true rfl) (Nat.le_of_ble_eq_true rfl) hc_d_Tilting_16 (fun q76 Hhh77 hh77 => ?_)
  rw [List.append_assoc] at hh77
  have hh77 : hc_H D s wd (wd.set ki (a, .inr (8, [.null, .null, .null, .ref q73, .null, .int 0])) ++ [(q73, .inl (k.1, 256, .inl (fun _ => 0))), (q76, .inl (k.1, 9, .inl (fun _ => 0)))]) _ _ := hh77
  refine hc_putF (ci := 8) (k := 4) (own := "HopeBank$Tilting") (C := RX8) (T := TX8) (N := 6) (t := tyX8 4) hx hb hown hTw hGs.1 hin hh77 rfl (hc_get hn hkn) (by decide) hc_w49 rfl rfl (tyX8_ok 4 (by decide)) rfl rfl (Nat.le_of_ble_eq_true rfl) hc_d_Tilting_18 (hc_set hn hkn) (fun Hhh78 locshh78 hh78 => ?_)
  have hh78 : hc_H D s wd (wd.set ki (a, .inr (8, [.null, .null, .null, .ref q73, .ref q76, .int 0])) ++ [(q73, .inl (k.1, 256, .inl (fun _ => 0))), (q76, .inl (k.1, 9, .inl (fun _ => 0)))]) _ _ := hh78
  refine lv_aload_n hx hb hc_d_Tilting_21 rfl (lv_at hl 0 rfl) ?_
  refine lv_aload_n hx hb hc_d_Tilting_22 rfl (lv_at hl 1 rfl) ?_
  refine hc_putF (ci := 8) (k := 0) (own := "HopeBank$Tilting") (C := RX8) (T := TX8) (N := 6) (t := tyX8 0) hx hb hown hTw hGs.1 hin hh78 rfl (hc_get hn hkn) (by decide) hc_w50 rfl rfl (tyX8_ok 0 (by decide)) rfl rfl (Nat.le_of_ble_eq_true rfl) hc_d_Tilting_23 (hc_set hn hkn) (fun Hhh79 locshh79 hh79 => ?_)
  have hh79 : hc_H D s wd (wd.set ki (a, .inr (8, [.ref x1, .null, .null, .ref q73, .ref q76, .int 0])) ++ [(q73, .inl (k.1, 256, .inl (fun _ => 0))), (q76, .inl (k.1, 9, .inl (fun _ => 0)))]) _ _ := hh79
  refine lv_aload_n hx hb hc_d_Tilting_26 rfl (lv_at hl 0 rfl) ?_
  refine lv_aload_n hx hb hc_d_Tilting_27 rfl (lv_at hl 2 rfl) ?_
  refine hc_putF (ci := 8) (k := 1) (own := "HopeBank$Tilting") (C := RX8) (T := TX8) (N := 6) (t := tyX8 1) hx hb hown hTw hGs.1 hin hh79 rfl (hc_get hn hkn) (by decide) hc_w51 rfl rfl (tyX8_ok 1 (by decide)) rfl rfl (Nat.le_of_ble_eq_true rfl) hc_d_Tilting_28 (hc_set hn hkn) (fun Hhh80 locshh80 hh80 => ?_)
  have hh80 : hc_H D s wd (wd.set ki (a, .inr (8, [.ref x1, .ref x2, .null, .ref q73, .ref q76, .int 0])) ++ [(q73, .inl (k.1, 256, .inl (fun _ => 0))), (q76, .inl (k.1, 9, .inl (fun _ => 0)))]) _ _ := hh80
  refine lv_aload_n hx hb hc_d_Tilting_31 rfl (lv_at hl 0 rfl) ?_
  refine lv_aload_n hx hb hc_d_Tilting_32 rfl (lv_at hl 3 rfl) ?_
  refine hc_putF (ci := 8) (k := 2) (own := "HopeBank$Tilting") (C := RX8) (T := TX8) (N := 6) (t := tyX8 2) hx hb hown hTw hGs.1 hin hh80 rfl (hc_get hn hkn) (by decide) hc_w52 rfl rfl (tyX8_ok 2 (by decide)) rfl rfl (Nat.le_of_ble_eq_true rfl) hc_d_Tilting_33 (hc_set hn hkn) (fun Hhh81 locshh81 hh81 => ?_)
  have hh81 : hc_H D s wd (wd.set ki (a, .inr (8, [.ref x1, .ref x2, .ref x3, .ref q73, .ref q76, .int 0])) ++ [(q73, .inl (k.1, 256, .inl (fun _ => 0))), (q76, .inl (k.1, 9, .inl (fun _ => 0)))]) _ _ := hh81
  refine W.widen (k := 2) (n := 265) (by omega) (by omega) ?_
  exact hc_ret hx hb hret hlocks hh81 hc_d_Tilting_36 (fun t hv k1 hk1 => ⟨fun i => [q73, q76].getD i 0, by have e := hc_Ku hv hk0 hk1; subst e; rfl⟩)
def hc_F_HopeBankModel (b : Nat → Nat) : List Value := [.int 0, .ref (b 0), .ref (b 1), .ref (b 2), .ref (b 3), .int 0, .ref (b 4), .int 0, .int 0, .int 0, .int 0, .int 0, .int 0, .int (-1 : Int32), .ref (b 5), .ref (b 6), .ref (b 7), .ref (b 8), .ref (b 9), .ref (b 10), .ref (b 11), .ref (b 12), .ref (b 13), .int 0, .int 0, .int 0, .int 0, .int 0, .int 0, .int 0, .int 0, .ref (b 14), .ref (b 15), .ref (b 16), .ref (b 17), .ref (b 18), .int 0, .int 0, .int 0, .long 0, .long 0, .long 0, .ref (b 19), .ref (b 20), .ref (b 21), .ref (b 22)]
def hc_L_HopeBankModel (k : hcK) (b : Nat → Nat) : va_W := [(b 0, .inl (k.1, 122, .inl (fun _ => 0))), (b 1, .inl (k.1, 366, .inl (fun _ => 0))), (b 2, .inl (k.2.2.1, 3, .inl (fun _ => 0))), (b 3, .inl (k.2.1, 900, .inl (fun _ => 0))), (b 4, .inl (k.1, 5, .inl (fun _ => 0))), (b 5, .inl (k.1, 122, .inl (fun _ => 0))), (b 6, .inl (k.1, 5, .inl (fun _ => 0))), (b 7, .inl (k.1, 8, .inl (fun _ => 0))), (b 8, .inl (k.1, 160, .inl (fun _ => 0))), (b 9, .inl (k.1, 8, .inl (fun _ => 0))), (b 10, .inl (k.1, 8, .inl (fun _ => 0))), (b 11, .inl (k.1, 8, .inl (fun _ => 0))), (b 12, .inl (k.1, 6, .inl (fun _ => 0))), (b 13, .inl (k.2.2.1, 5, .inl (fun _ => 0))), (b 14, .inl (k.2.2.1, 1536, .inl (fun _ => 0))), (b 15, .inl (k.1, 5, .inl (fun _ => 0))), (b 16, .inl (k.1, 256, .inl (fun _ => 0))), (b 17, .inl (k.1, 256, .inl (fun _ => 0))), (b 18, .inl (k.1, 256, .inl (fun _ => 0))), (b 19, .inl (k.1, 4, .inl (upd (upd (upd (upd (fun _ => 0) 0 (-1 : Int32)) 1 (-1 : Int32)) 2 (-1 : Int32)) 3 (-1 : Int32)))), (b 20, .inl (k.1, 4, .inl (fun _ => 0))), (b 21, .inl (k.2.2.2, 240, .inr (.inl (fun _ => 0)))), (b 22, .inl (k.2.2.2, 60, .inr (.inl (fun _ => 0))))]
set_option maxHeartbeats 8000000 in
theorem hc_HopeBankModel {l : Launch} {D : va_G} {U S : Nat → Nat} {wd : va_W} {n0 ki a : Nat} (hn : wd.length = n0) (hk : wd[ki]? = some (a, .inr (12, hc_Z_HopeBankModel))) : hc_Met l hc_y_HopeBankModel 1 20 23 4343 D U S wd [] [.ref a] (fun t wd' => ∀ k, hc_K t k → ∃ b : Nat → Nat, wd' = wd.set ki (a, .inr (12, hc_F_HopeBankModel b)) ++ hc_L_HopeBankModel k b) := by
  refine hc_enter (by decide) (Nat.le_of_ble_eq_true rfl) ?_
  intro p e s m below meth c ls hBd hin hh hwd hGs hX hl
  obtain ⟨hx, hb, hml, hown, hlocks, hret, hTw⟩ := id hBd
  obtain ⟨k, hk0⟩ := hc_Kof hTw
  have hkn := (List.getElem?_eq_some_iff.mp hk).1
  rw [hn] at hkn
  have hh : hc_H D s wd (wd.set ki (a, .inr (12, [.int 0, .null, .null, .null, .null, .int 0, .null, .int 0, .int 0, .int 0, .int 0, .int 0, .int 0, .int 0, .null, .null, .null, .null, .null, .null, .null, .null, .null, .int 0, .int 0, .int 0, .int 0, .int 0, .int 0, .int 0, .int 0, .null, .null, .null, .null, .null, .int 0, .int 0, .int 0, .long 0, .long 0, .long 0, .null, .null, .null, .null])) ++ []) s.heap [] := by rw [← hc_start (show wd[ki]? = some (a, .inr (12, [.int 0, .null, .null, .null, .null, .int 0, .null, .int 0, .int 0, .int 0, .int 0, .int 0, .int 0, .int 0, .null, .null, .null, .null, .null, .null, .null, .null, .null, .int 0, .int 0, .int 0, .int 0, .int 0, .int 0, .int 0, .int 0, .null, .null, .null, .null, .null, .int 0, .int 0, .int 0, .long 0, .long 0, .long 0, .null, .null, .null, .null])) from hk)]; exact hh
  refine lv_aload_n hx hb hc_d_HopeBankModel_0 rfl (lv_at hl 0 rfl) ?_
  refine hc_obj (own := "HopeBankModel") hx hb (by rw [hml, hl.1]) hown hTw hc_w53 hc_oi hc_oc hc_d_HopeBankModel_1 (Nat.le_of_ble_eq_true rfl) (Nat.le_of_ble_eq_true rfl) ?_
  refine lv_aload_n hx hb hc_d_HopeBankModel_4 rfl (lv_at hl 0 rfl) ?_
  refine lv_bipush (v := nI 122) hx hb hc_d_HopeBankModel_5 (by decide) ?_
  refine hc_newi (N' := 122) (cA := k.1) hx hb hTw hGs.1 hh hc_w3 hk0.1.2 (by decide) (by decide) (Nat.le_of_ble_eq_true rfl) (Nat.le_of_ble_eq_true rfl) (Nat.le_of_ble_eq_true rfl) hc_d_HopeBankModel_7 (fun q82 Hhh83 hh83 => ?_)
  rw [List.append_assoc] at hh83
  have hh83 : hc_H D s wd (wd.set ki (a, .inr (12, [.int 0, .null, .null, .null, .null, .int 0, .null, .int 0, .int 0, .int 0, .int 0, .int 0, .int 0, .int 0, .null, .null, .null, .null, .null, .null, .null, .null, .null, .int 0, .int 0, .int 0, .int 0, .int 0, .int 0, .int 0, .int 0, .null, .null, .null, .null, .null, .int 0, .int 0, .int 0, .long 0, .long 0, .long 0, .null, .null, .null, .null])) ++ [(q82, .inl (k.1, 122, .inl (fun _ => 0)))]) _ _ := hh83
  refine hc_putF (ci := 12) (k := 1) (own := "HopeBankModel") (C := RX12) (T := TX12) (N := 46) (t := tyX12 1) hx hb hown hTw hGs.1 hin hh83 rfl (hc_get hn hkn) (by decide) hc_w54 rfl rfl (tyX12_ok 1 (by decide)) rfl rfl (Nat.le_of_ble_eq_true rfl) hc_d_HopeBankModel_9 (hc_set hn hkn) (fun Hhh84 locshh84 hh84 => ?_)
  have hh84 : hc_H D s wd (wd.set ki (a, .inr (12, [.int 0, .ref q82, .null, .null, .null, .int 0, .null, .int 0, .int 0, .int 0, .int 0, .int 0, .int 0, .int 0, .null, .null, .null, .null, .null, .null, .null, .null, .null, .int 0, .int 0, .int 0, .int 0, .int 0, .int 0, .int 0, .int 0, .null, .null, .null, .null, .null, .int 0, .int 0, .int 0, .long 0, .long 0, .long 0, .null, .null, .null, .null])) ++ [(q82, .inl (k.1, 122, .inl (fun _ => 0)))]) _ _ := hh84
  refine lv_aload_n hx hb hc_d_HopeBankModel_12 rfl (lv_at hl 0 rfl) ?_
  refine lv_sipush (v := nI 366) hx hb hc_d_HopeBankModel_13 (by decide) ?_
  refine hc_newi (N' := 366) (cA := k.1) hx hb hTw hGs.1 hh84 hc_w3 hk0.1.2 (by decide) (by decide) (Nat.le_of_ble_eq_true rfl) (Nat.le_of_ble_eq_true rfl) (Nat.le_of_ble_eq_true rfl) hc_d_HopeBankModel_16 (fun q85 Hhh86 hh86 => ?_)
  rw [List.append_assoc] at hh86
  have hh86 : hc_H D s wd (wd.set ki (a, .inr (12, [.int 0, .ref q82, .null, .null, .null, .int 0, .null, .int 0, .int 0, .int 0, .int 0, .int 0, .int 0, .int 0, .null, .null, .null, .null, .null, .null, .null, .null, .null, .int 0, .int 0, .int 0, .int 0, .int 0, .int 0, .int 0, .int 0, .null, .null, .null, .null, .null, .int 0, .int 0, .int 0, .long 0, .long 0, .long 0, .null, .null, .null, .null])) ++ [(q82, .inl (k.1, 122, .inl (fun _ => 0))), (q85, .inl (k.1, 366, .inl (fun _ => 0)))]) _ _ := hh86
  refine hc_putF (ci := 12) (k := 2) (own := "HopeBankModel") (C := RX12) (T := TX12) (N := 46) (t := tyX12 2) hx hb hown hTw hGs.1 hin hh86 rfl (hc_get hn hkn) (by decide) hc_w55 rfl rfl (tyX12_ok 2 (by decide)) rfl rfl (Nat.le_of_ble_eq_true rfl) hc_d_HopeBankModel_18 (hc_set hn hkn) (fun Hhh87 locshh87 hh87 => ?_)
  have hh87 : hc_H D s wd (wd.set ki (a, .inr (12, [.int 0, .ref q82, .ref q85, .null, .null, .int 0, .null, .int 0, .int 0, .int 0, .int 0, .int 0, .int 0, .int 0, .null, .null, .null, .null, .null, .null, .null, .null, .null, .int 0, .int 0, .int 0, .int 0, .int 0, .int 0, .int 0, .int 0, .null, .null, .null, .null, .null, .int 0, .int 0, .int 0, .long 0, .long 0, .long 0, .null, .null, .null, .null])) ++ [(q82, .inl (k.1, 122, .inl (fun _ => 0))), (q85, .inl (k.1, 366, .inl (fun _ => 0)))]) _ _ := hh87
  refine lv_aload_n hx hb hc_d_HopeBankModel_21 rfl (lv_at hl 0 rfl) ?_
  refine lv_iconst (v := nI 3) hx hb hc_d_HopeBankModel_22 (by decide) ?_
  refine hc_newz (N' := 3) (cA := k.2.2.1) hx hb hTw hGs.1 hh87 hc_w56 hk0.2.2.1.2 (by decide) (by decide) (Nat.le_of_ble_eq_true rfl) (Nat.le_of_ble_eq_true rfl) (Nat.le_of_ble_eq_true rfl) hc_d_HopeBankModel_23 (fun q88 Hhh89 hh89 => ?_)
  rw [List.append_assoc] at hh89
  have hh89 : hc_H D s wd (wd.set ki (a, .inr (12, [.int 0, .ref q82, .ref q85, .null, .null, .int 0, .null, .int 0, .int 0, .int 0, .int 0, .int 0, .int 0, .int 0, .null, .null, .null, .null, .null, .null, .null, .null, .null, .int 0, .int 0, .int 0, .int 0, .int 0, .int 0, .int 0, .int 0, .null, .null, .null, .null, .null, .int 0, .int 0, .int 0, .long 0, .long 0, .long 0, .null, .null, .null, .null])) ++ [(q82, .inl (k.1, 122, .inl (fun _ => 0))), (q85, .inl (k.1, 366, .inl (fun _ => 0))), (q88, .inl (k.2.2.1, 3, .inl (fun _ => 0)))]) _ _ := hh89
  refine hc_putF (ci := 12) (k := 3) (own := "HopeBankModel") (C := RX12) (T := TX12) (N := 46) (t := tyX12 3) hx hb hown hTw hGs.1 hin hh89 rfl (hc_get hn hkn) (by decide) hc_w57 rfl rfl (tyX12_ok 3 (by decide)) rfl rfl (Nat.le_of_ble_eq_true rfl) hc_d_HopeBankModel_25 (hc_set hn hkn) (fun Hhh90 locshh90 hh90 => ?_)
  have hh90 : hc_H D s wd (wd.set ki (a, .inr (12, [.int 0, .ref q82, .ref q85, .ref q88, .null, .int 0, .null, .int 0, .int 0, .int 0, .int 0, .int 0, .int 0, .int 0, .null, .null, .null, .null, .null, .null, .null, .null, .null, .int 0, .int 0, .int 0, .int 0, .int 0, .int 0, .int 0, .int 0, .null, .null, .null, .null, .null, .int 0, .int 0, .int 0, .long 0, .long 0, .long 0, .null, .null, .null, .null])) ++ [(q82, .inl (k.1, 122, .inl (fun _ => 0))), (q85, .inl (k.1, 366, .inl (fun _ => 0))), (q88, .inl (k.2.2.1, 3, .inl (fun _ => 0)))]) _ _ := hh90
  refine lv_aload_n hx hb hc_d_HopeBankModel_28 rfl (lv_at hl 0 rfl) ?_
  refine lv_sipush (v := nI 900) hx hb hc_d_HopeBankModel_29 (by decide) ?_
  refine hc_newb (N' := 900) (cA := k.2.1) hx hb hTw hGs.1 hh90 hc_w20 hk0.2.1.2 (by decide) (by decide) (Nat.le_of_ble_eq_true rfl) (Nat.le_of_ble_eq_true rfl) (Nat.le_of_ble_eq_true rfl) hc_d_HopeBankModel_32 (fun q91 Hhh92 hh92 => ?_)
  rw [List.append_assoc] at hh92
  have hh92 : hc_H D s wd (wd.set ki (a, .inr (12, [.int 0, .ref q82, .ref q85, .ref q88, .null, .int 0, .null, .int 0, .int 0, .int 0, .int 0, .int 0, .int 0, .int 0, .null, .null, .null, .null, .null, .null, .null, .null, .null, .int 0, .int 0, .int 0, .int 0, .int 0, .int 0, .int 0, .int 0, .null, .null, .null, .null, .null, .int 0, .int 0, .int 0, .long 0, .long 0, .long 0, .null, .null, .null, .null])) ++ [(q82, .inl (k.1, 122, .inl (fun _ => 0))), (q85, .inl (k.1, 366, .inl (fun _ => 0))), (q88, .inl (k.2.2.1, 3, .inl (fun _ => 0))), (q91, .inl (k.2.1, 900, .inl (fun _ => 0)))]) _ _ := hh92
  refine hc_putF (ci := 12) (k := 4) (own := "HopeBankModel") (C := RX12) (T := TX12) (N := 46) (t := tyX12 4) hx hb hown hTw hGs.1 hin hh92 rfl (hc_get hn hkn) (by decide) hc_w58 rfl rfl (tyX12_ok 4 (by decide)) rfl rfl (Nat.le_of_ble_eq_true rfl) hc_d_HopeBankModel_34 (hc_set hn hkn) (fun Hhh93 locshh93 hh93 => ?_)
  have hh93 : hc_H D s wd (wd.set ki (a, .inr (12, [.int 0, .ref q82, .ref q85, .ref q88, .ref q91, .int 0, .null, .int 0, .int 0, .int 0, .int 0, .int 0, .int 0, .int 0, .null, .null, .null, .null, .null, .null, .null, .null, .null, .int 0, .int 0, .int 0, .int 0, .int 0, .int 0, .int 0, .int 0, .null, .null, .null, .null, .null, .int 0, .int 0, .int 0, .long 0, .long 0, .long 0, .null, .null, .null, .null])) ++ [(q82, .inl (k.1, 122, .inl (fun _ => 0))), (q85, .inl (k.1, 366, .inl (fun _ => 0))), (q88, .inl (k.2.2.1, 3, .inl (fun _ => 0))), (q91, .inl (k.2.1, 900, .inl (fun _ => 0)))]) _ _ := hh93
  refine lv_aload_n hx hb hc_d_HopeBankModel_37 rfl (lv_at hl 0 rfl) ?_
  refine lv_iconst (v := nI 5) hx hb hc_d_HopeBankModel_38 (by decide) ?_
  refine hc_newi (N' := 5) (cA := k.1) hx hb hTw hGs.1 hh93 hc_w3 hk0.1.2 (by decide) (by decide) (Nat.le_of_ble_eq_true rfl) (Nat.le_of_ble_eq_true rfl) (Nat.le_of_ble_eq_true rfl) hc_d_HopeBankModel_39 (fun q94 Hhh95 hh95 => ?_)
  rw [List.append_assoc] at hh95
  have hh95 : hc_H D s wd (wd.set ki (a, .inr (12, [.int 0, .ref q82, .ref q85, .ref q88, .ref q91, .int 0, .null, .int 0, .int 0, .int 0, .int 0, .int 0, .int 0, .int 0, .null, .null, .null, .null, .null, .null, .null, .null, .null, .int 0, .int 0, .int 0, .int 0, .int 0, .int 0, .int 0, .int 0, .null, .null, .null, .null, .null, .int 0, .int 0, .int 0, .long 0, .long 0, .long 0, .null, .null, .null, .null])) ++ [(q82, .inl (k.1, 122, .inl (fun _ => 0))), (q85, .inl (k.1, 366, .inl (fun _ => 0))), (q88, .inl (k.2.2.1, 3, .inl (fun _ => 0))), (q91, .inl (k.2.1, 900, .inl (fun _ => 0))), (q94, .inl (k.1, 5, .inl (fun _ => 0)))]) _ _ := hh95
  refine hc_putF (ci := 12) (k := 6) (own := "HopeBankModel") (C := RX12) (T := TX12) (N := 46) (t := tyX12 6) hx hb hown hTw hGs.1 hin hh95 rfl (hc_get hn hkn) (by decide) hc_w59 rfl rfl (tyX12_ok 6 (by decide)) rfl rfl (Nat.le_of_ble_eq_true rfl) hc_d_HopeBankModel_41 (hc_set hn hkn) (fun Hhh96 locshh96 hh96 => ?_)
  have hh96 : hc_H D s wd (wd.set ki (a, .inr (12, [.int 0, .ref q82, .ref q85, .ref q88, .ref q91, .int 0, .ref q94, .int 0, .int 0, .int 0, .int 0, .int 0, .int 0, .int 0, .null, .null, .null, .null, .null, .null, .null, .null, .null, .int 0, .int 0, .int 0, .int 0, .int 0, .int 0, .int 0, .int 0, .null, .null, .null, .null, .null, .int 0, .int 0, .int 0, .long 0, .long 0, .long 0, .null, .null, .null, .null])) ++ [(q82, .inl (k.1, 122, .inl (fun _ => 0))), (q85, .inl (k.1, 366, .inl (fun _ => 0))), (q88, .inl (k.2.2.1, 3, .inl (fun _ => 0))), (q91, .inl (k.2.1, 900, .inl (fun _ => 0))), (q94, .inl (k.1, 5, .inl (fun _ => 0)))]) _ _ := hh96
  refine lv_aload_n hx hb hc_d_HopeBankModel_44 rfl (lv_at hl 0 rfl) ?_
  refine lv_iconst (v := (-1 : Int32)) hx hb hc_d_HopeBankModel_45 (by decide) ?_
  refine hc_put (ci := 12) (k := 13) (own := "HopeBankModel") (C := RX12) (T := TX12) (N := 46) (t := tyX12 13) hx hb hown hTw hGs.1 hh96 rfl (hc_get hn hkn) (by decide) hc_w60 rfl (tyX12_ok 13 (by decide)) rfl rfl (Nat.le_of_ble_eq_true rfl) hc_d_HopeBankModel_46 (hc_set hn hkn) (fun Hhh97 locshh97 hh97 => ?_)
  have hh97 : hc_H D s wd (wd.set ki (a, .inr (12, [.int 0, .ref q82, .ref q85, .ref q88, .ref q91, .int 0, .ref q94, .int 0, .int 0, .int 0, .int 0, .int 0, .int 0, .int (-1 : Int32), .null, .null, .null, .null, .null, .null, .null, .null, .null, .int 0, .int 0, .int 0, .int 0, .int 0, .int 0, .int 0, .int 0, .null, .null, .null, .null, .null, .int 0, .int 0, .int 0, .long 0, .long 0, .long 0, .null, .null, .null, .null])) ++ [(q82, .inl (k.1, 122, .inl (fun _ => 0))), (q85, .inl (k.1, 366, .inl (fun _ => 0))), (q88, .inl (k.2.2.1, 3, .inl (fun _ => 0))), (q91, .inl (k.2.1, 900, .inl (fun _ => 0))), (q94, .inl (k.1, 5, .inl (fun _ => 0)))]) _ _ := hh97
  refine lv_aload_n hx hb hc_d_HopeBankModel_49 rfl (lv_at hl 0 rfl) ?_
  refine lv_bipush (v := nI 122) hx hb hc_d_HopeBankModel_50 (by decide) ?_
  refine hc_newi (N' := 122) (cA := k.1) hx hb hTw hGs.1 hh97 hc_w3 hk0.1.2 (by decide) (by decide) (Nat.le_of_ble_eq_true rfl) (Nat.le_of_ble_eq_true rfl) (Nat.le_of_ble_eq_true rfl) hc_d_HopeBankModel_52 (fun q98 Hhh99 hh99 => ?_)
  rw [List.append_assoc] at hh99
  have hh99 : hc_H D s wd (wd.set ki (a, .inr (12, [.int 0, .ref q82, .ref q85, .ref q88, .ref q91, .int 0, .ref q94, .int 0, .int 0, .int 0, .int 0, .int 0, .int 0, .int (-1 : Int32), .null, .null, .null, .null, .null, .null, .null, .null, .null, .int 0, .int 0, .int 0, .int 0, .int 0, .int 0, .int 0, .int 0, .null, .null, .null, .null, .null, .int 0, .int 0, .int 0, .long 0, .long 0, .long 0, .null, .null, .null, .null])) ++ [(q82, .inl (k.1, 122, .inl (fun _ => 0))), (q85, .inl (k.1, 366, .inl (fun _ => 0))), (q88, .inl (k.2.2.1, 3, .inl (fun _ => 0))), (q91, .inl (k.2.1, 900, .inl (fun _ => 0))), (q94, .inl (k.1, 5, .inl (fun _ => 0))), (q98, .inl (k.1, 122, .inl (fun _ => 0)))]) _ _ := hh99
  refine hc_putF (ci := 12) (k := 14) (own := "HopeBankModel") (C := RX12) (T := TX12) (N := 46) (t := tyX12 14) hx hb hown hTw hGs.1 hin hh99 rfl (hc_get hn hkn) (by decide) hc_w61 rfl rfl (tyX12_ok 14 (by decide)) rfl rfl (Nat.le_of_ble_eq_true rfl) hc_d_HopeBankModel_54 (hc_set hn hkn) (fun Hhh100 locshh100 hh100 => ?_)
  have hh100 : hc_H D s wd (wd.set ki (a, .inr (12, [.int 0, .ref q82, .ref q85, .ref q88, .ref q91, .int 0, .ref q94, .int 0, .int 0, .int 0, .int 0, .int 0, .int 0, .int (-1 : Int32), .ref q98, .null, .null, .null, .null, .null, .null, .null, .null, .int 0, .int 0, .int 0, .int 0, .int 0, .int 0, .int 0, .int 0, .null, .null, .null, .null, .null, .int 0, .int 0, .int 0, .long 0, .long 0, .long 0, .null, .null, .null, .null])) ++ [(q82, .inl (k.1, 122, .inl (fun _ => 0))), (q85, .inl (k.1, 366, .inl (fun _ => 0))), (q88, .inl (k.2.2.1, 3, .inl (fun _ => 0))), (q91, .inl (k.2.1, 900, .inl (fun _ => 0))), (q94, .inl (k.1, 5, .inl (fun _ => 0))), (q98, .inl (k.1, 122, .inl (fun _ => 0)))]) _ _ := hh100
  refine lv_aload_n hx hb hc_d_HopeBankModel_57 rfl (lv_at hl 0 rfl) ?_
  refine lv_iconst (v := nI 5) hx hb hc_d_HopeBankModel_58 (by decide) ?_
  refine hc_newi (N' := 5) (cA := k.1) hx hb hTw hGs.1 hh100 hc_w3 hk0.1.2 (by decide) (by decide) (Nat.le_of_ble_eq_true rfl) (Nat.le_of_ble_eq_true rfl) (Nat.le_of_ble_eq_true rfl) hc_d_HopeBankModel_59 (fun q101 Hhh102 hh102 => ?_)
  rw [List.append_assoc] at hh102
  have hh102 : hc_H D s wd (wd.set ki (a, .inr (12, [.int 0, .ref q82, .ref q85, .ref q88, .ref q91, .int 0, .ref q94, .int 0, .int 0, .int 0, .int 0, .int 0, .int 0, .int (-1 : Int32), .ref q98, .null, .null, .null, .null, .null, .null, .null, .null, .int 0, .int 0, .int 0, .int 0, .int 0, .int 0, .int 0, .int 0, .null, .null, .null, .null, .null, .int 0, .int 0, .int 0, .long 0, .long 0, .long 0, .null, .null, .null, .null])) ++ [(q82, .inl (k.1, 122, .inl (fun _ => 0))), (q85, .inl (k.1, 366, .inl (fun _ => 0))), (q88, .inl (k.2.2.1, 3, .inl (fun _ => 0))), (q91, .inl (k.2.1, 900, .inl (fun _ => 0))), (q94, .inl (k.1, 5, .inl (fun _ => 0))), (q98, .inl (k.1, 122, .inl (fun _ => 0))), (q101, .inl (k.1, 5, .inl (fun _ => 0)))]) _ _ := hh102
  refine hc_putF (ci := 12) (k := 15) (own := "HopeBankModel") (C := RX12) (T := TX12) (N := 46) (t := tyX12 15) hx hb hown hTw hGs.1 hin hh102 rfl (hc_get hn hkn) (by decide) hc_w62 rfl rfl (tyX12_ok 15 (by decide)) rfl rfl (Nat.le_of_ble_eq_true rfl) hc_d_HopeBankModel_61 (hc_set hn hkn) (fun Hhh103 locshh103 hh103 => ?_)
  have hh103 : hc_H D s wd (wd.set ki (a, .inr (12, [.int 0, .ref q82, .ref q85, .ref q88, .ref q91, .int 0, .ref q94, .int 0, .int 0, .int 0, .int 0, .int 0, .int 0, .int (-1 : Int32), .ref q98, .ref q101, .null, .null, .null, .null, .null, .null, .null, .int 0, .int 0, .int 0, .int 0, .int 0, .int 0, .int 0, .int 0, .null, .null, .null, .null, .null, .int 0, .int 0, .int 0, .long 0, .long 0, .long 0, .null, .null, .null, .null])) ++ [(q82, .inl (k.1, 122, .inl (fun _ => 0))), (q85, .inl (k.1, 366, .inl (fun _ => 0))), (q88, .inl (k.2.2.1, 3, .inl (fun _ => 0))), (q91, .inl (k.2.1, 900, .inl (fun _ => 0))), (q94, .inl (k.1, 5, .inl (fun _ => 0))), (q98, .inl (k.1, 122, .inl (fun _ => 0))), (q101, .inl (k.1, 5, .inl (fun _ => 0)))]) _ _ := hh103
  refine lv_aload_n hx hb hc_d_HopeBankModel_64 rfl (lv_at hl 0 rfl) ?_
  refine lv_bipush (v := nI 8) hx hb hc_d_HopeBankModel_65 (by decide) ?_
  refine hc_newi (N' := 8) (cA := k.1) hx hb hTw hGs.1 hh103 hc_w3 hk0.1.2 (by decide) (by decide) (Nat.le_of_ble_eq_true rfl) (Nat.le_of_ble_eq_true rfl) (Nat.le_of_ble_eq_true rfl) hc_d_HopeBankModel_67 (fun q104 Hhh105 hh105 => ?_)
  rw [List.append_assoc] at hh105
  have hh105 : hc_H D s wd (wd.set ki (a, .inr (12, [.int 0, .ref q82, .ref q85, .ref q88, .ref q91, .int 0, .ref q94, .int 0, .int 0, .int 0, .int 0, .int 0, .int 0, .int (-1 : Int32), .ref q98, .ref q101, .null, .null, .null, .null, .null, .null, .null, .int 0, .int 0, .int 0, .int 0, .int 0, .int 0, .int 0, .int 0, .null, .null, .null, .null, .null, .int 0, .int 0, .int 0, .long 0, .long 0, .long 0, .null, .null, .null, .null])) ++ [(q82, .inl (k.1, 122, .inl (fun _ => 0))), (q85, .inl (k.1, 366, .inl (fun _ => 0))), (q88, .inl (k.2.2.1, 3, .inl (fun _ => 0))), (q91, .inl (k.2.1, 900, .inl (fun _ => 0))), (q94, .inl (k.1, 5, .inl (fun _ => 0))), (q98, .inl (k.1, 122, .inl (fun _ => 0))), (q101, .inl (k.1, 5, .inl (fun _ => 0))), (q104, .inl (k.1, 8, .inl (fun _ => 0)))]) _ _ := hh105
  refine hc_putF (ci := 12) (k := 16) (own := "HopeBankModel") (C := RX12) (T := TX12) (N := 46) (t := tyX12 16) hx hb hown hTw hGs.1 hin hh105 rfl (hc_get hn hkn) (by decide) hc_w63 rfl rfl (tyX12_ok 16 (by decide)) rfl rfl (Nat.le_of_ble_eq_true rfl) hc_d_HopeBankModel_69 (hc_set hn hkn) (fun Hhh106 locshh106 hh106 => ?_)
  have hh106 : hc_H D s wd (wd.set ki (a, .inr (12, [.int 0, .ref q82, .ref q85, .ref q88, .ref q91, .int 0, .ref q94, .int 0, .int 0, .int 0, .int 0, .int 0, .int 0, .int (-1 : Int32), .ref q98, .ref q101, .ref q104, .null, .null, .null, .null, .null, .null, .int 0, .int 0, .int 0, .int 0, .int 0, .int 0, .int 0, .int 0, .null, .null, .null, .null, .null, .int 0, .int 0, .int 0, .long 0, .long 0, .long 0, .null, .null, .null, .null])) ++ [(q82, .inl (k.1, 122, .inl (fun _ => 0))), (q85, .inl (k.1, 366, .inl (fun _ => 0))), (q88, .inl (k.2.2.1, 3, .inl (fun _ => 0))), (q91, .inl (k.2.1, 900, .inl (fun _ => 0))), (q94, .inl (k.1, 5, .inl (fun _ => 0))), (q98, .inl (k.1, 122, .inl (fun _ => 0))), (q101, .inl (k.1, 5, .inl (fun _ => 0))), (q104, .inl (k.1, 8, .inl (fun _ => 0)))]) _ _ := hh106
  refine lv_aload_n hx hb hc_d_HopeBankModel_72 rfl (lv_at hl 0 rfl) ?_
  refine lv_sipush (v := nI 160) hx hb hc_d_HopeBankModel_73 (by decide) ?_
  refine hc_newi (N' := 160) (cA := k.1) hx hb hTw hGs.1 hh106 hc_w3 hk0.1.2 (by decide) (by decide) (Nat.le_of_ble_eq_true rfl) (Nat.le_of_ble_eq_true rfl) (Nat.le_of_ble_eq_true rfl) hc_d_HopeBankModel_76 (fun q107 Hhh108 hh108 => ?_)
  rw [List.append_assoc] at hh108
  have hh108 : hc_H D s wd (wd.set ki (a, .inr (12, [.int 0, .ref q82, .ref q85, .ref q88, .ref q91, .int 0, .ref q94, .int 0, .int 0, .int 0, .int 0, .int 0, .int 0, .int (-1 : Int32), .ref q98, .ref q101, .ref q104, .null, .null, .null, .null, .null, .null, .int 0, .int 0, .int 0, .int 0, .int 0, .int 0, .int 0, .int 0, .null, .null, .null, .null, .null, .int 0, .int 0, .int 0, .long 0, .long 0, .long 0, .null, .null, .null, .null])) ++ [(q82, .inl (k.1, 122, .inl (fun _ => 0))), (q85, .inl (k.1, 366, .inl (fun _ => 0))), (q88, .inl (k.2.2.1, 3, .inl (fun _ => 0))), (q91, .inl (k.2.1, 900, .inl (fun _ => 0))), (q94, .inl (k.1, 5, .inl (fun _ => 0))), (q98, .inl (k.1, 122, .inl (fun _ => 0))), (q101, .inl (k.1, 5, .inl (fun _ => 0))), (q104, .inl (k.1, 8, .inl (fun _ => 0))), (q107, .inl (k.1, 160, .inl (fun _ => 0)))]) _ _ := hh108
  refine hc_putF (ci := 12) (k := 17) (own := "HopeBankModel") (C := RX12) (T := TX12) (N := 46) (t := tyX12 17) hx hb hown hTw hGs.1 hin hh108 rfl (hc_get hn hkn) (by decide) hc_w64 rfl rfl (tyX12_ok 17 (by decide)) rfl rfl (Nat.le_of_ble_eq_true rfl) hc_d_HopeBankModel_78 (hc_set hn hkn) (fun Hhh109 locshh109 hh109 => ?_)
  have hh109 : hc_H D s wd (wd.set ki (a, .inr (12, [.int 0, .ref q82, .ref q85, .ref q88, .ref q91, .int 0, .ref q94, .int 0, .int 0, .int 0, .int 0, .int 0, .int 0, .int (-1 : Int32), .ref q98, .ref q101, .ref q104, .ref q107, .null, .null, .null, .null, .null, .int 0, .int 0, .int 0, .int 0, .int 0, .int 0, .int 0, .int 0, .null, .null, .null, .null, .null, .int 0, .int 0, .int 0, .long 0, .long 0, .long 0, .null, .null, .null, .null])) ++ [(q82, .inl (k.1, 122, .inl (fun _ => 0))), (q85, .inl (k.1, 366, .inl (fun _ => 0))), (q88, .inl (k.2.2.1, 3, .inl (fun _ => 0))), (q91, .inl (k.2.1, 900, .inl (fun _ => 0))), (q94, .inl (k.1, 5, .inl (fun _ => 0))), (q98, .inl (k.1, 122, .inl (fun _ => 0))), (q101, .inl (k.1, 5, .inl (fun _ => 0))), (q104, .inl (k.1, 8, .inl (fun _ => 0))), (q107, .inl (k.1, 160, .inl (fun _ => 0)))]) _ _ := hh109
  refine lv_aload_n hx hb hc_d_HopeBankModel_81 rfl (lv_at hl 0 rfl) ?_
  refine lv_bipush (v := nI 8) hx hb hc_d_HopeBankModel_82 (by decide) ?_
  refine hc_newi (N' := 8) (cA := k.1) hx hb hTw hGs.1 hh109 hc_w3 hk0.1.2 (by decide) (by decide) (Nat.le_of_ble_eq_true rfl) (Nat.le_of_ble_eq_true rfl) (Nat.le_of_ble_eq_true rfl) hc_d_HopeBankModel_84 (fun q110 Hhh111 hh111 => ?_)
  rw [List.append_assoc] at hh111
  have hh111 : hc_H D s wd (wd.set ki (a, .inr (12, [.int 0, .ref q82, .ref q85, .ref q88, .ref q91, .int 0, .ref q94, .int 0, .int 0, .int 0, .int 0, .int 0, .int 0, .int (-1 : Int32), .ref q98, .ref q101, .ref q104, .ref q107, .null, .null, .null, .null, .null, .int 0, .int 0, .int 0, .int 0, .int 0, .int 0, .int 0, .int 0, .null, .null, .null, .null, .null, .int 0, .int 0, .int 0, .long 0, .long 0, .long 0, .null, .null, .null, .null])) ++ [(q82, .inl (k.1, 122, .inl (fun _ => 0))), (q85, .inl (k.1, 366, .inl (fun _ => 0))), (q88, .inl (k.2.2.1, 3, .inl (fun _ => 0))), (q91, .inl (k.2.1, 900, .inl (fun _ => 0))), (q94, .inl (k.1, 5, .inl (fun _ => 0))), (q98, .inl (k.1, 122, .inl (fun _ => 0))), (q101, .inl (k.1, 5, .inl (fun _ => 0))), (q104, .inl (k.1, 8, .inl (fun _ => 0))), (q107, .inl (k.1, 160, .inl (fun _ => 0))), (q110, .inl (k.1, 8, .inl (fun _ => 0)))]) _ _ := hh111
  refine hc_putF (ci := 12) (k := 18) (own := "HopeBankModel") (C := RX12) (T := TX12) (N := 46) (t := tyX12 18) hx hb hown hTw hGs.1 hin hh111 rfl (hc_get hn hkn) (by decide) hc_w65 rfl rfl (tyX12_ok 18 (by decide)) rfl rfl (Nat.le_of_ble_eq_true rfl) hc_d_HopeBankModel_86 (hc_set hn hkn) (fun Hhh112 locshh112 hh112 => ?_)
  have hh112 : hc_H D s wd (wd.set ki (a, .inr (12, [.int 0, .ref q82, .ref q85, .ref q88, .ref q91, .int 0, .ref q94, .int 0, .int 0, .int 0, .int 0, .int 0, .int 0, .int (-1 : Int32), .ref q98, .ref q101, .ref q104, .ref q107, .ref q110, .null, .null, .null, .null, .int 0, .int 0, .int 0, .int 0, .int 0, .int 0, .int 0, .int 0, .null, .null, .null, .null, .null, .int 0, .int 0, .int 0, .long 0, .long 0, .long 0, .null, .null, .null, .null])) ++ [(q82, .inl (k.1, 122, .inl (fun _ => 0))), (q85, .inl (k.1, 366, .inl (fun _ => 0))), (q88, .inl (k.2.2.1, 3, .inl (fun _ => 0))), (q91, .inl (k.2.1, 900, .inl (fun _ => 0))), (q94, .inl (k.1, 5, .inl (fun _ => 0))), (q98, .inl (k.1, 122, .inl (fun _ => 0))), (q101, .inl (k.1, 5, .inl (fun _ => 0))), (q104, .inl (k.1, 8, .inl (fun _ => 0))), (q107, .inl (k.1, 160, .inl (fun _ => 0))), (q110, .inl (k.1, 8, .inl (fun _ => 0)))]) _ _ := hh112
  refine lv_aload_n hx hb hc_d_HopeBankModel_89 rfl (lv_at hl 0 rfl) ?_
  refine lv_bipush (v := nI 8) hx hb hc_d_HopeBankModel_90 (by decide) ?_
  refine hc_newi (N' := 8) (cA := k.1) hx hb hTw hGs.1 hh112 hc_w3 hk0.1.2 (by decide) (by decide) (Nat.le_of_ble_eq_true rfl) (Nat.le_of_ble_eq_true rfl) (Nat.le_of_ble_eq_true rfl) hc_d_HopeBankModel_92 (fun q113 Hhh114 hh114 => ?_)
  rw [List.append_assoc] at hh114
  have hh114 : hc_H D s wd (wd.set ki (a, .inr (12, [.int 0, .ref q82, .ref q85, .ref q88, .ref q91, .int 0, .ref q94, .int 0, .int 0, .int 0, .int 0, .int 0, .int 0, .int (-1 : Int32), .ref q98, .ref q101, .ref q104, .ref q107, .ref q110, .null, .null, .null, .null, .int 0, .int 0, .int 0, .int 0, .int 0, .int 0, .int 0, .int 0, .null, .null, .null, .null, .null, .int 0, .int 0, .int 0, .long 0, .long 0, .long 0, .null, .null, .null, .null])) ++ [(q82, .inl (k.1, 122, .inl (fun _ => 0))), (q85, .inl (k.1, 366, .inl (fun _ => 0))), (q88, .inl (k.2.2.1, 3, .inl (fun _ => 0))), (q91, .inl (k.2.1, 900, .inl (fun _ => 0))), (q94, .inl (k.1, 5, .inl (fun _ => 0))), (q98, .inl (k.1, 122, .inl (fun _ => 0))), (q101, .inl (k.1, 5, .inl (fun _ => 0))), (q104, .inl (k.1, 8, .inl (fun _ => 0))), (q107, .inl (k.1, 160, .inl (fun _ => 0))), (q110, .inl (k.1, 8, .inl (fun _ => 0))), (q113, .inl (k.1, 8, .inl (fun _ => 0)))]) _ _ := hh114
  refine hc_putF (ci := 12) (k := 19) (own := "HopeBankModel") (C := RX12) (T := TX12) (N := 46) (t := tyX12 19) hx hb hown hTw hGs.1 hin hh114 rfl (hc_get hn hkn) (by decide) hc_w66 rfl rfl (tyX12_ok 19 (by decide)) rfl rfl (Nat.le_of_ble_eq_true rfl) hc_d_HopeBankModel_94 (hc_set hn hkn) (fun Hhh115 locshh115 hh115 => ?_)
  have hh115 : hc_H D s wd (wd.set ki (a, .inr (12, [.int 0, .ref q82, .ref q85, .ref q88, .ref q91, .int 0, .ref q94, .int 0, .int 0, .int 0, .int 0, .int 0, .int 0, .int (-1 : Int32), .ref q98, .ref q101, .ref q104, .ref q107, .ref q110, .ref q113, .null, .null, .null, .int 0, .int 0, .int 0, .int 0, .int 0, .int 0, .int 0, .int 0, .null, .null, .null, .null, .null, .int 0, .int 0, .int 0, .long 0, .long 0, .long 0, .null, .null, .null, .null])) ++ [(q82, .inl (k.1, 122, .inl (fun _ => 0))), (q85, .inl (k.1, 366, .inl (fun _ => 0))), (q88, .inl (k.2.2.1, 3, .inl (fun _ => 0))), (q91, .inl (k.2.1, 900, .inl (fun _ => 0))), (q94, .inl (k.1, 5, .inl (fun _ => 0))), (q98, .inl (k.1, 122, .inl (fun _ => 0))), (q101, .inl (k.1, 5, .inl (fun _ => 0))), (q104, .inl (k.1, 8, .inl (fun _ => 0))), (q107, .inl (k.1, 160, .inl (fun _ => 0))), (q110, .inl (k.1, 8, .inl (fun _ => 0))), (q113, .inl (k.1, 8, .inl (fun _ => 0)))]) _ _ := hh115
  refine lv_aload_n hx hb hc_d_HopeBankModel_97 rfl (lv_at hl 0 rfl) ?_
  refine lv_bipush (v := nI 8) hx hb hc_d_HopeBankModel_98 (by decide) ?_
  refine hc_newi (N' := 8) (cA := k.1) hx hb hTw hGs.1 hh115 hc_w3 hk0.1.2 (by decide) (by decide) (Nat.le_of_ble_eq_true rfl) (Nat.le_of_ble_eq_true rfl) (Nat.le_of_ble_eq_true rfl) hc_d_HopeBankModel_100 (fun q116 Hhh117 hh117 => ?_)
  rw [List.append_assoc] at hh117
  have hh117 : hc_H D s wd (wd.set ki (a, .inr (12, [.int 0, .ref q82, .ref q85, .ref q88, .ref q91, .int 0, .ref q94, .int 0, .int 0, .int 0, .int 0, .int 0, .int 0, .int (-1 : Int32), .ref q98, .ref q101, .ref q104, .ref q107, .ref q110, .ref q113, .null, .null, .null, .int 0, .int 0, .int 0, .int 0, .int 0, .int 0, .int 0, .int 0, .null, .null, .null, .null, .null, .int 0, .int 0, .int 0, .long 0, .long 0, .long 0, .null, .null, .null, .null])) ++ [(q82, .inl (k.1, 122, .inl (fun _ => 0))), (q85, .inl (k.1, 366, .inl (fun _ => 0))), (q88, .inl (k.2.2.1, 3, .inl (fun _ => 0))), (q91, .inl (k.2.1, 900, .inl (fun _ => 0))), (q94, .inl (k.1, 5, .inl (fun _ => 0))), (q98, .inl (k.1, 122, .inl (fun _ => 0))), (q101, .inl (k.1, 5, .inl (fun _ => 0))), (q104, .inl (k.1, 8, .inl (fun _ => 0))), (q107, .inl (k.1, 160, .inl (fun _ => 0))), (q110, .inl (k.1, 8, .inl (fun _ => 0))), (q113, .inl (k.1, 8, .inl (fun _ => 0))), (q116, .inl (k.1, 8, .inl (fun _ => 0)))]) _ _ := hh117
  refine hc_putF (ci := 12) (k := 20) (own := "HopeBankModel") (C := RX12) (T := TX12) (N := 46) (t := tyX12 20) hx hb hown hTw hGs.1 hin hh117 rfl (hc_get hn hkn) (by decide) hc_w67 rfl rfl (tyX12_ok 20 (by decide)) rfl rfl (Nat.le_of_ble_eq_true rfl) hc_d_HopeBankModel_102 (hc_set hn hkn) (fun Hhh118 locshh118 hh118 => ?_)
  have hh118 : hc_H D s wd (wd.set ki (a, .inr (12, [.int 0, .ref q82, .ref q85, .ref q88, .ref q91, .int 0, .ref q94, .int 0, .int 0, .int 0, .int 0, .int 0, .int 0, .int (-1 : Int32), .ref q98, .ref q101, .ref q104, .ref q107, .ref q110, .ref q113, .ref q116, .null, .null, .int 0, .int 0, .int 0, .int 0, .int 0, .int 0, .int 0, .int 0, .null, .null, .null, .null, .null, .int 0, .int 0, .int 0, .long 0, .long 0, .long 0, .null, .null, .null, .null])) ++ [(q82, .inl (k.1, 122, .inl (fun _ => 0))), (q85, .inl (k.1, 366, .inl (fun _ => 0))), (q88, .inl (k.2.2.1, 3, .inl (fun _ => 0))), (q91, .inl (k.2.1, 900, .inl (fun _ => 0))), (q94, .inl (k.1, 5, .inl (fun _ => 0))), (q98, .inl (k.1, 122, .inl (fun _ => 0))), (q101, .inl (k.1, 5, .inl (fun _ => 0))), (q104, .inl (k.1, 8, .inl (fun _ => 0))), (q107, .inl (k.1, 160, .inl (fun _ => 0))), (q110, .inl (k.1, 8, .inl (fun _ => 0))), (q113, .inl (k.1, 8, .inl (fun _ => 0))), (q116, .inl (k.1, 8, .inl (fun _ => 0)))]) _ _ := hh118
  refine lv_aload_n hx hb hc_d_HopeBankModel_105 rfl (lv_at hl 0 rfl) ?_
  refine lv_bipush (v := nI 6) hx hb hc_d_HopeBankModel_106 (by decide) ?_
  refine hc_newi (N' := 6) (cA := k.1) hx hb hTw hGs.1 hh118 hc_w3 hk0.1.2 (by decide) (by decide) (Nat.le_of_ble_eq_true rfl) (Nat.le_of_ble_eq_true rfl) (Nat.le_of_ble_eq_true rfl) hc_d_HopeBankModel_108 (fun q119 Hhh120 hh120 => ?_)
  rw [List.append_assoc] at hh120
  have hh120 : hc_H D s wd (wd.set ki (a, .inr (12, [.int 0, .ref q82, .ref q85, .ref q88, .ref q91, .int 0, .ref q94, .int 0, .int 0, .int 0, .int 0, .int 0, .int 0, .int (-1 : Int32), .ref q98, .ref q101, .ref q104, .ref q107, .ref q110, .ref q113, .ref q116, .null, .null, .int 0, .int 0, .int 0, .int 0, .int 0, .int 0, .int 0, .int 0, .null, .null, .null, .null, .null, .int 0, .int 0, .int 0, .long 0, .long 0, .long 0, .null, .null, .null, .null])) ++ [(q82, .inl (k.1, 122, .inl (fun _ => 0))), (q85, .inl (k.1, 366, .inl (fun _ => 0))), (q88, .inl (k.2.2.1, 3, .inl (fun _ => 0))), (q91, .inl (k.2.1, 900, .inl (fun _ => 0))), (q94, .inl (k.1, 5, .inl (fun _ => 0))), (q98, .inl (k.1, 122, .inl (fun _ => 0))), (q101, .inl (k.1, 5, .inl (fun _ => 0))), (q104, .inl (k.1, 8, .inl (fun _ => 0))), (q107, .inl (k.1, 160, .inl (fun _ => 0))), (q110, .inl (k.1, 8, .inl (fun _ => 0))), (q113, .inl (k.1, 8, .inl (fun _ => 0))), (q116, .inl (k.1, 8, .inl (fun _ => 0))), (q119, .inl (k.1, 6, .inl (fun _ => 0)))]) _ _ := hh120
  refine hc_putF (ci := 12) (k := 21) (own := "HopeBankModel") (C := RX12) (T := TX12) (N := 46) (t := tyX12 21) hx hb hown hTw hGs.1 hin hh120 rfl (hc_get hn hkn) (by decide) hc_w68 rfl rfl (tyX12_ok 21 (by decide)) rfl rfl (Nat.le_of_ble_eq_true rfl) hc_d_HopeBankModel_110 (hc_set hn hkn) (fun Hhh121 locshh121 hh121 => ?_)
  have hh121 : hc_H D s wd (wd.set ki (a, .inr (12, [.int 0, .ref q82, .ref q85, .ref q88, .ref q91, .int 0, .ref q94, .int 0, .int 0, .int 0, .int 0, .int 0, .int 0, .int (-1 : Int32), .ref q98, .ref q101, .ref q104, .ref q107, .ref q110, .ref q113, .ref q116, .ref q119, .null, .int 0, .int 0, .int 0, .int 0, .int 0, .int 0, .int 0, .int 0, .null, .null, .null, .null, .null, .int 0, .int 0, .int 0, .long 0, .long 0, .long 0, .null, .null, .null, .null])) ++ [(q82, .inl (k.1, 122, .inl (fun _ => 0))), (q85, .inl (k.1, 366, .inl (fun _ => 0))), (q88, .inl (k.2.2.1, 3, .inl (fun _ => 0))), (q91, .inl (k.2.1, 900, .inl (fun _ => 0))), (q94, .inl (k.1, 5, .inl (fun _ => 0))), (q98, .inl (k.1, 122, .inl (fun _ => 0))), (q101, .inl (k.1, 5, .inl (fun _ => 0))), (q104, .inl (k.1, 8, .inl (fun _ => 0))), (q107, .inl (k.1, 160, .inl (fun _ => 0))), (q110, .inl (k.1, 8, .inl (fun _ => 0))), (q113, .inl (k.1, 8, .inl (fun _ => 0))), (q116, .inl (k.1, 8, .inl (fun _ => 0))), (q119, .inl (k.1, 6, .inl (fun _ => 0)))]) _ _ := hh121
  refine lv_aload_n hx hb hc_d_HopeBankModel_113 rfl (lv_at hl 0 rfl) ?_
  refine lv_iconst (v := nI 5) hx hb hc_d_HopeBankModel_114 (by decide) ?_
  refine hc_newz (N' := 5) (cA := k.2.2.1) hx hb hTw hGs.1 hh121 hc_w56 hk0.2.2.1.2 (by decide) (by decide) (Nat.le_of_ble_eq_true rfl) (Nat.le_of_ble_eq_true rfl) (Nat.le_of_ble_eq_true rfl) hc_d_HopeBankModel_115 (fun q122 Hhh123 hh123 => ?_)
  rw [List.append_assoc] at hh123
  have hh123 : hc_H D s wd (wd.set ki (a, .inr (12, [.int 0, .ref q82, .ref q85, .ref q88, .ref q91, .int 0, .ref q94, .int 0, .int 0, .int 0, .int 0, .int 0, .int 0, .int (-1 : Int32), .ref q98, .ref q101, .ref q104, .ref q107, .ref q110, .ref q113, .ref q116, .ref q119, .null, .int 0, .int 0, .int 0, .int 0, .int 0, .int 0, .int 0, .int 0, .null, .null, .null, .null, .null, .int 0, .int 0, .int 0, .long 0, .long 0, .long 0, .null, .null, .null, .null])) ++ [(q82, .inl (k.1, 122, .inl (fun _ => 0))), (q85, .inl (k.1, 366, .inl (fun _ => 0))), (q88, .inl (k.2.2.1, 3, .inl (fun _ => 0))), (q91, .inl (k.2.1, 900, .inl (fun _ => 0))), (q94, .inl (k.1, 5, .inl (fun _ => 0))), (q98, .inl (k.1, 122, .inl (fun _ => 0))), (q101, .inl (k.1, 5, .inl (fun _ => 0))), (q104, .inl (k.1, 8, .inl (fun _ => 0))), (q107, .inl (k.1, 160, .inl (fun _ => 0))), (q110, .inl (k.1, 8, .inl (fun _ => 0))), (q113, .inl (k.1, 8, .inl (fun _ => 0))), (q116, .inl (k.1, 8, .inl (fun _ => 0))), (q119, .inl (k.1, 6, .inl (fun _ => 0))), (q122, .inl (k.2.2.1, 5, .inl (fun _ => 0)))]) _ _ := hh123
  refine hc_putF (ci := 12) (k := 22) (own := "HopeBankModel") (C := RX12) (T := TX12) (N := 46) (t := tyX12 22) hx hb hown hTw hGs.1 hin hh123 rfl (hc_get hn hkn) (by decide) hc_w69 rfl rfl (tyX12_ok 22 (by decide)) rfl rfl (Nat.le_of_ble_eq_true rfl) hc_d_HopeBankModel_117 (hc_set hn hkn) (fun Hhh124 locshh124 hh124 => ?_)
  have hh124 : hc_H D s wd (wd.set ki (a, .inr (12, [.int 0, .ref q82, .ref q85, .ref q88, .ref q91, .int 0, .ref q94, .int 0, .int 0, .int 0, .int 0, .int 0, .int 0, .int (-1 : Int32), .ref q98, .ref q101, .ref q104, .ref q107, .ref q110, .ref q113, .ref q116, .ref q119, .ref q122, .int 0, .int 0, .int 0, .int 0, .int 0, .int 0, .int 0, .int 0, .null, .null, .null, .null, .null, .int 0, .int 0, .int 0, .long 0, .long 0, .long 0, .null, .null, .null, .null])) ++ [(q82, .inl (k.1, 122, .inl (fun _ => 0))), (q85, .inl (k.1, 366, .inl (fun _ => 0))), (q88, .inl (k.2.2.1, 3, .inl (fun _ => 0))), (q91, .inl (k.2.1, 900, .inl (fun _ => 0))), (q94, .inl (k.1, 5, .inl (fun _ => 0))), (q98, .inl (k.1, 122, .inl (fun _ => 0))), (q101, .inl (k.1, 5, .inl (fun _ => 0))), (q104, .inl (k.1, 8, .inl (fun _ => 0))), (q107, .inl (k.1, 160, .inl (fun _ => 0))), (q110, .inl (k.1, 8, .inl (fun _ => 0))), (q113, .inl (k.1, 8, .inl (fun _ => 0))), (q116, .inl (k.1, 8, .inl (fun _ => 0))), (q119, .inl (k.1, 6, .inl (fun _ => 0))), (q122, .inl (k.2.2.1, 5, .inl (fun _ => 0)))]) _ _ := hh124
  refine lv_aload_n hx hb hc_d_HopeBankModel_120 rfl (lv_at hl 0 rfl) ?_
  refine lv_sipush (v := nI 1536) hx hb hc_d_HopeBankModel_121 (by decide) ?_
  refine hc_newz (N' := 1536) (cA := k.2.2.1) hx hb hTw hGs.1 hh124 hc_w56 hk0.2.2.1.2 (by decide) (by decide) (Nat.le_of_ble_eq_true rfl) (Nat.le_of_ble_eq_true rfl) (Nat.le_of_ble_eq_true rfl) hc_d_HopeBankModel_124 (fun q125 Hhh126 hh126 => ?_)
  rw [List.append_assoc] at hh126
  have hh126 : hc_H D s wd (wd.set ki (a, .inr (12, [.int 0, .ref q82, .ref q85, .ref q88, .ref q91, .int 0, .ref q94, .int 0, .int 0, .int 0, .int 0, .int 0, .int 0, .int (-1 : Int32), .ref q98, .ref q101, .ref q104, .ref q107, .ref q110, .ref q113, .ref q116, .ref q119, .ref q122, .int 0, .int 0, .int 0, .int 0, .int 0, .int 0, .int 0, .int 0, .null, .null, .null, .null, .null, .int 0, .int 0, .int 0, .long 0, .long 0, .long 0, .null, .null, .null, .null])) ++ [(q82, .inl (k.1, 122, .inl (fun _ => 0))), (q85, .inl (k.1, 366, .inl (fun _ => 0))), (q88, .inl (k.2.2.1, 3, .inl (fun _ => 0))), (q91, .inl (k.2.1, 900, .inl (fun _ => 0))), (q94, .inl (k.1, 5, .inl (fun _ => 0))), (q98, .inl (k.1, 122, .inl (fun _ => 0))), (q101, .inl (k.1, 5, .inl (fun _ => 0))), (q104, .inl (k.1, 8, .inl (fun _ => 0))), (q107, .inl (k.1, 160, .inl (fun _ => 0))), (q110, .inl (k.1, 8, .inl (fun _ => 0))), (q113, .inl (k.1, 8, .inl (fun _ => 0))), (q116, .inl (k.1, 8, .inl (fun _ => 0))), (q119, .inl (k.1, 6, .inl (fun _ => 0))), (q122, .inl (k.2.2.1, 5, .inl (fun _ => 0))), (q125, .inl (k.2.2.1, 1536, .inl (fun _ => 0)))]) _ _ := hh126
  refine hc_putF (ci := 12) (k := 31) (own := "HopeBankModel") (C := RX12) (T := TX12) (N := 46) (t := tyX12 31) hx hb hown hTw hGs.1 hin hh126 rfl (hc_get hn hkn) (by decide) hc_w70 rfl rfl (tyX12_ok 31 (by decide)) rfl rfl (Nat.le_of_ble_eq_true rfl) hc_d_HopeBankModel_126 (hc_set hn hkn) (fun Hhh127 locshh127 hh127 => ?_)
  have hh127 : hc_H D s wd (wd.set ki (a, .inr (12, [.int 0, .ref q82, .ref q85, .ref q88, .ref q91, .int 0, .ref q94, .int 0, .int 0, .int 0, .int 0, .int 0, .int 0, .int (-1 : Int32), .ref q98, .ref q101, .ref q104, .ref q107, .ref q110, .ref q113, .ref q116, .ref q119, .ref q122, .int 0, .int 0, .int 0, .int 0, .int 0, .int 0, .int 0, .int 0, .ref q125, .null, .null, .null, .null, .int 0, .int 0, .int 0, .long 0, .long 0, .long 0, .null, .null, .null, .null])) ++ [(q82, .inl (k.1, 122, .inl (fun _ => 0))), (q85, .inl (k.1, 366, .inl (fun _ => 0))), (q88, .inl (k.2.2.1, 3, .inl (fun _ => 0))), (q91, .inl (k.2.1, 900, .inl (fun _ => 0))), (q94, .inl (k.1, 5, .inl (fun _ => 0))), (q98, .inl (k.1, 122, .inl (fun _ => 0))), (q101, .inl (k.1, 5, .inl (fun _ => 0))), (q104, .inl (k.1, 8, .inl (fun _ => 0))), (q107, .inl (k.1, 160, .inl (fun _ => 0))), (q110, .inl (k.1, 8, .inl (fun _ => 0))), (q113, .inl (k.1, 8, .inl (fun _ => 0))), (q116, .inl (k.1, 8, .inl (fun _ => 0))), (q119, .inl (k.1, 6, .inl (fun _ => 0))), (q122, .inl (k.2.2.1, 5, .inl (fun _ => 0))), (q125, .inl (k.2.2.1, 1536, .inl (fun _ => 0)))]) _ _ := hh127
  refine lv_aload_n hx hb hc_d_HopeBankModel_129 rfl (lv_at hl 0 rfl) ?_
  refine lv_iconst (v := nI 5) hx hb hc_d_HopeBankModel_130 (by decide) ?_
  refine hc_newi (N' := 5) (cA := k.1) hx hb hTw hGs.1 hh127 hc_w3 hk0.1.2 (by decide) (by decide) (Nat.le_of_ble_eq_true rfl) (Nat.le_of_ble_eq_true rfl) (Nat.le_of_ble_eq_true rfl) hc_d_HopeBankModel_131 (fun q128 Hhh129 hh129 => ?_)
  rw [List.append_assoc] at hh129
  have hh129 : hc_H D s wd (wd.set ki (a, .inr (12, [.int 0, .ref q82, .ref q85, .ref q88, .ref q91, .int 0, .ref q94, .int 0, .int 0, .int 0, .int 0, .int 0, .int 0, .int (-1 : Int32), .ref q98, .ref q101, .ref q104, .ref q107, .ref q110, .ref q113, .ref q116, .ref q119, .ref q122, .int 0, .int 0, .int 0, .int 0, .int 0, .int 0, .int 0, .int 0, .ref q125, .null, .null, .null, .null, .int 0, .int 0, .int 0, .long 0, .long 0, .long 0, .null, .null, .null, .null])) ++ [(q82, .inl (k.1, 122, .inl (fun _ => 0))), (q85, .inl (k.1, 366, .inl (fun _ => 0))), (q88, .inl (k.2.2.1, 3, .inl (fun _ => 0))), (q91, .inl (k.2.1, 900, .inl (fun _ => 0))), (q94, .inl (k.1, 5, .inl (fun _ => 0))), (q98, .inl (k.1, 122, .inl (fun _ => 0))), (q101, .inl (k.1, 5, .inl (fun _ => 0))), (q104, .inl (k.1, 8, .inl (fun _ => 0))), (q107, .inl (k.1, 160, .inl (fun _ => 0))), (q110, .inl (k.1, 8, .inl (fun _ => 0))), (q113, .inl (k.1, 8, .inl (fun _ => 0))), (q116, .inl (k.1, 8, .inl (fun _ => 0))), (q119, .inl (k.1, 6, .inl (fun _ => 0))), (q122, .inl (k.2.2.1, 5, .inl (fun _ => 0))), (q125, .inl (k.2.2.1, 1536, .inl (fun _ => 0))), (q128, .inl (k.1, 5, .inl (fun _ => 0)))]) _ _ := hh129
  refine hc_putF (ci := 12) (k := 32) (own := "HopeBankModel") (C := RX12) (T := TX12) (N := 46) (t := tyX12 32) hx hb hown hTw hGs.1 hin hh129 rfl (hc_get hn hkn) (by decide) hc_w71 rfl rfl (tyX12_ok 32 (by decide)) rfl rfl (Nat.le_of_ble_eq_true rfl) hc_d_HopeBankModel_133 (hc_set hn hkn) (fun Hhh130 locshh130 hh130 => ?_)
  have hh130 : hc_H D s wd (wd.set ki (a, .inr (12, [.int 0, .ref q82, .ref q85, .ref q88, .ref q91, .int 0, .ref q94, .int 0, .int 0, .int 0, .int 0, .int 0, .int 0, .int (-1 : Int32), .ref q98, .ref q101, .ref q104, .ref q107, .ref q110, .ref q113, .ref q116, .ref q119, .ref q122, .int 0, .int 0, .int 0, .int 0, .int 0, .int 0, .int 0, .int 0, .ref q125, .ref q128, .null, .null, .null, .int 0, .int 0, .int 0, .long 0, .long 0, .long 0, .null, .null, .null, .null])) ++ [(q82, .inl (k.1, 122, .inl (fun _ => 0))), (q85, .inl (k.1, 366, .inl (fun _ => 0))), (q88, .inl (k.2.2.1, 3, .inl (fun _ => 0))), (q91, .inl (k.2.1, 900, .inl (fun _ => 0))), (q94, .inl (k.1, 5, .inl (fun _ => 0))), (q98, .inl (k.1, 122, .inl (fun _ => 0))), (q101, .inl (k.1, 5, .inl (fun _ => 0))), (q104, .inl (k.1, 8, .inl (fun _ => 0))), (q107, .inl (k.1, 160, .inl (fun _ => 0))), (q110, .inl (k.1, 8, .inl (fun _ => 0))), (q113, .inl (k.1, 8, .inl (fun _ => 0))), (q116, .inl (k.1, 8, .inl (fun _ => 0))), (q119, .inl (k.1, 6, .inl (fun _ => 0))), (q122, .inl (k.2.2.1, 5, .inl (fun _ => 0))), (q125, .inl (k.2.2.1, 1536, .inl (fun _ => 0))), (q128, .inl (k.1, 5, .inl (fun _ => 0)))]) _ _ := hh130
  refine lv_aload_n hx hb hc_d_HopeBankModel_136 rfl (lv_at hl 0 rfl) ?_
  refine lv_sipush (v := nI 256) hx hb hc_d_HopeBankModel_137 (by decide) ?_
  refine hc_newi (N' := 256) (cA := k.1) hx hb hTw hGs.1 hh130 hc_w3 hk0.1.2 (by decide) (by decide) (Nat.le_of_ble_eq_true rfl) (Nat.le_of_ble_eq_true rfl) (Nat.le_of_ble_eq_true rfl) hc_d_HopeBankModel_140 (fun q131 Hhh132 hh132 => ?_)
  rw [List.append_assoc] at hh132
  have hh132 : hc_H D s wd (wd.set ki (a, .inr (12, [.int 0, .ref q82, .ref q85, .ref q88, .ref q91, .int 0, .ref q94, .int 0, .int 0, .int 0, .int 0, .int 0, .int 0, .int (-1 : Int32), .ref q98, .ref q101, .ref q104, .ref q107, .ref q110, .ref q113, .ref q116, .ref q119, .ref q122, .int 0, .int 0, .int 0, .int 0, .int 0, .int 0, .int 0, .int 0, .ref q125, .ref q128, .null, .null, .null, .int 0, .int 0, .int 0, .long 0, .long 0, .long 0, .null, .null, .null, .null])) ++ [(q82, .inl (k.1, 122, .inl (fun _ => 0))), (q85, .inl (k.1, 366, .inl (fun _ => 0))), (q88, .inl (k.2.2.1, 3, .inl (fun _ => 0))), (q91, .inl (k.2.1, 900, .inl (fun _ => 0))), (q94, .inl (k.1, 5, .inl (fun _ => 0))), (q98, .inl (k.1, 122, .inl (fun _ => 0))), (q101, .inl (k.1, 5, .inl (fun _ => 0))), (q104, .inl (k.1, 8, .inl (fun _ => 0))), (q107, .inl (k.1, 160, .inl (fun _ => 0))), (q110, .inl (k.1, 8, .inl (fun _ => 0))), (q113, .inl (k.1, 8, .inl (fun _ => 0))), (q116, .inl (k.1, 8, .inl (fun _ => 0))), (q119, .inl (k.1, 6, .inl (fun _ => 0))), (q122, .inl (k.2.2.1, 5, .inl (fun _ => 0))), (q125, .inl (k.2.2.1, 1536, .inl (fun _ => 0))), (q128, .inl (k.1, 5, .inl (fun _ => 0))), (q131, .inl (k.1, 256, .inl (fun _ => 0)))]) _ _ := hh132
  refine hc_putF (ci := 12) (k := 33) (own := "HopeBankModel") (C := RX12) (T := TX12) (N := 46) (t := tyX12 33) hx hb hown hTw hGs.1 hin hh132 rfl (hc_get hn hkn) (by decide) hc_w72 rfl rfl (tyX12_ok 33 (by decide)) rfl rfl (Nat.le_of_ble_eq_true rfl) hc_d_HopeBankModel_142 (hc_set hn hkn) (fun Hhh133 locshh133 hh133 => ?_)
  have hh133 : hc_H D s wd (wd.set ki (a, .inr (12, [.int 0, .ref q82, .ref q85, .ref q88, .ref q91, .int 0, .ref q94, .int 0, .int 0, .int 0, .int 0, .int 0, .int 0, .int (-1 : Int32), .ref q98, .ref q101, .ref q104, .ref q107, .ref q110, .ref q113, .ref q116, .ref q119, .ref q122, .int 0, .int 0, .int 0, .int 0, .int 0, .int 0, .int 0, .int 0, .ref q125, .ref q128, .ref q131, .null, .null, .int 0, .int 0, .int 0, .long 0, .long 0, .long 0, .null, .null, .null, .null])) ++ [(q82, .inl (k.1, 122, .inl (fun _ => 0))), (q85, .inl (k.1, 366, .inl (fun _ => 0))), (q88, .inl (k.2.2.1, 3, .inl (fun _ => 0))), (q91, .inl (k.2.1, 900, .inl (fun _ => 0))), (q94, .inl (k.1, 5, .inl (fun _ => 0))), (q98, .inl (k.1, 122, .inl (fun _ => 0))), (q101, .inl (k.1, 5, .inl (fun _ => 0))), (q104, .inl (k.1, 8, .inl (fun _ => 0))), (q107, .inl (k.1, 160, .inl (fun _ => 0))), (q110, .inl (k.1, 8, .inl (fun _ => 0))), (q113, .inl (k.1, 8, .inl (fun _ => 0))), (q116, .inl (k.1, 8, .inl (fun _ => 0))), (q119, .inl (k.1, 6, .inl (fun _ => 0))), (q122, .inl (k.2.2.1, 5, .inl (fun _ => 0))), (q125, .inl (k.2.2.1, 1536, .inl (fun _ => 0))), (q128, .inl (k.1, 5, .inl (fun _ => 0))), (q131, .inl (k.1, 256, .inl (fun _ => 0)))]) _ _ := hh133
  refine lv_aload_n hx hb hc_d_HopeBankModel_145 rfl (lv_at hl 0 rfl) ?_
  refine lv_sipush (v := nI 256) hx hb hc_d_HopeBankModel_146 (by decide) ?_
  refine hc_newi (N' := 256) (cA := k.1) hx hb hTw hGs.1 hh133 hc_w3 hk0.1.2 (by decide) (by decide) (Nat.le_of_ble_eq_true rfl) (Nat.le_of_ble_eq_true rfl) (Nat.le_of_ble_eq_true rfl) hc_d_HopeBankModel_149 (fun q134 Hhh135 hh135 => ?_)
  rw [List.append_assoc] at hh135
  have hh135 : hc_H D s wd (wd.set ki (a, .inr (12, [.int 0, .ref q82, .ref q85, .ref q88, .ref q91, .int 0, .ref q94, .int 0, .int 0, .int 0, .int 0, .int 0, .int 0, .int (-1 : Int32), .ref q98, .ref q101, .ref q104, .ref q107, .ref q110, .ref q113, .ref q116, .ref q119, .ref q122, .int 0, .int 0, .int 0, .int 0, .int 0, .int 0, .int 0, .int 0, .ref q125, .ref q128, .ref q131, .null, .null, .int 0, .int 0, .int 0, .long 0, .long 0, .long 0, .null, .null, .null, .null])) ++ [(q82, .inl (k.1, 122, .inl (fun _ => 0))), (q85, .inl (k.1, 366, .inl (fun _ => 0))), (q88, .inl (k.2.2.1, 3, .inl (fun _ => 0))), (q91, .inl (k.2.1, 900, .inl (fun _ => 0))), (q94, .inl (k.1, 5, .inl (fun _ => 0))), (q98, .inl (k.1, 122, .inl (fun _ => 0))), (q101, .inl (k.1, 5, .inl (fun _ => 0))), (q104, .inl (k.1, 8, .inl (fun _ => 0))), (q107, .inl (k.1, 160, .inl (fun _ => 0))), (q110, .inl (k.1, 8, .inl (fun _ => 0))), (q113, .inl (k.1, 8, .inl (fun _ => 0))), (q116, .inl (k.1, 8, .inl (fun _ => 0))), (q119, .inl (k.1, 6, .inl (fun _ => 0))), (q122, .inl (k.2.2.1, 5, .inl (fun _ => 0))), (q125, .inl (k.2.2.1, 1536, .inl (fun _ => 0))), (q128, .inl (k.1, 5, .inl (fun _ => 0))), (q131, .inl (k.1, 256, .inl (fun _ => 0))), (q134, .inl (k.1, 256, .inl (fun _ => 0)))]) _ _ := hh135
  refine hc_putF (ci := 12) (k := 34) (own := "HopeBankModel") (C := RX12) (T := TX12) (N := 46) (t := tyX12 34) hx hb hown hTw hGs.1 hin hh135 rfl (hc_get hn hkn) (by decide) hc_w73 rfl rfl (tyX12_ok 34 (by decide)) rfl rfl (Nat.le_of_ble_eq_true rfl) hc_d_HopeBankModel_151 (hc_set hn hkn) (fun Hhh136 locshh136 hh136 => ?_)
  have hh136 : hc_H D s wd (wd.set ki (a, .inr (12, [.int 0, .ref q82, .ref q85, .ref q88, .ref q91, .int 0, .ref q94, .int 0, .int 0, .int 0, .int 0, .int 0, .int 0, .int (-1 : Int32), .ref q98, .ref q101, .ref q104, .ref q107, .ref q110, .ref q113, .ref q116, .ref q119, .ref q122, .int 0, .int 0, .int 0, .int 0, .int 0, .int 0, .int 0, .int 0, .ref q125, .ref q128, .ref q131, .ref q134, .null, .int 0, .int 0, .int 0, .long 0, .long 0, .long 0, .null, .null, .null, .null])) ++ [(q82, .inl (k.1, 122, .inl (fun _ => 0))), (q85, .inl (k.1, 366, .inl (fun _ => 0))), (q88, .inl (k.2.2.1, 3, .inl (fun _ => 0))), (q91, .inl (k.2.1, 900, .inl (fun _ => 0))), (q94, .inl (k.1, 5, .inl (fun _ => 0))), (q98, .inl (k.1, 122, .inl (fun _ => 0))), (q101, .inl (k.1, 5, .inl (fun _ => 0))), (q104, .inl (k.1, 8, .inl (fun _ => 0))), (q107, .inl (k.1, 160, .inl (fun _ => 0))), (q110, .inl (k.1, 8, .inl (fun _ => 0))), (q113, .inl (k.1, 8, .inl (fun _ => 0))), (q116, .inl (k.1, 8, .inl (fun _ => 0))), (q119, .inl (k.1, 6, .inl (fun _ => 0))), (q122, .inl (k.2.2.1, 5, .inl (fun _ => 0))), (q125, .inl (k.2.2.1, 1536, .inl (fun _ => 0))), (q128, .inl (k.1, 5, .inl (fun _ => 0))), (q131, .inl (k.1, 256, .inl (fun _ => 0))), (q134, .inl (k.1, 256, .inl (fun _ => 0)))]) _ _ := hh136
  refine lv_aload_n hx hb hc_d_HopeBankModel_154 rfl (lv_at hl 0 rfl) ?_
  refine lv_sipush (v := nI 256) hx hb hc_d_HopeBankModel_155 (by decide) ?_
  refine hc_newi (N' := 256) (cA := k.1) hx hb hTw hGs.1 hh136 hc_w3 hk0.1.2 (by decide) (by decide) (Nat.le_of_ble_eq_true rfl) (Nat.le_of_ble_eq_true rfl) (Nat.le_of_ble_eq_true rfl) hc_d_HopeBankModel_158 (fun q137 Hhh138 hh138 => ?_)
  rw [List.append_assoc] at hh138
  have hh138 : hc_H D s wd (wd.set ki (a, .inr (12, [.int 0, .ref q82, .ref q85, .ref q88, .ref q91, .int 0, .ref q94, .int 0, .int 0, .int 0, .int 0, .int 0, .int 0, .int (-1 : Int32), .ref q98, .ref q101, .ref q104, .ref q107, .ref q110, .ref q113, .ref q116, .ref q119, .ref q122, .int 0, .int 0, .int 0, .int 0, .int 0, .int 0, .int 0, .int 0, .ref q125, .ref q128, .ref q131, .ref q134, .null, .int 0, .int 0, .int 0, .long 0, .long 0, .long 0, .null, .null, .null, .null])) ++ [(q82, .inl (k.1, 122, .inl (fun _ => 0))), (q85, .inl (k.1, 366, .inl (fun _ => 0))), (q88, .inl (k.2.2.1, 3, .inl (fun _ => 0))), (q91, .inl (k.2.1, 900, .inl (fun _ => 0))), (q94, .inl (k.1, 5, .inl (fun _ => 0))), (q98, .inl (k.1, 122, .inl (fun _ => 0))), (q101, .inl (k.1, 5, .inl (fun _ => 0))), (q104, .inl (k.1, 8, .inl (fun _ => 0))), (q107, .inl (k.1, 160, .inl (fun _ => 0))), (q110, .inl (k.1, 8, .inl (fun _ => 0))), (q113, .inl (k.1, 8, .inl (fun _ => 0))), (q116, .inl (k.1, 8, .inl (fun _ => 0))), (q119, .inl (k.1, 6, .inl (fun _ => 0))), (q122, .inl (k.2.2.1, 5, .inl (fun _ => 0))), (q125, .inl (k.2.2.1, 1536, .inl (fun _ => 0))), (q128, .inl (k.1, 5, .inl (fun _ => 0))), (q131, .inl (k.1, 256, .inl (fun _ => 0))), (q134, .inl (k.1, 256, .inl (fun _ => 0))), (q137, .inl (k.1, 256, .inl (fun _ => 0)))]) _ _ := hh138
  refine hc_putF (ci := 12) (k := 35) (own := "HopeBankModel") (C := RX12) (T := TX12) (N := 46) (t := tyX12 35) hx hb hown hTw hGs.1 hin hh138 rfl (hc_get hn hkn) (by decide) hc_w74 rfl rfl (tyX12_ok 35 (by decide)) rfl rfl (Nat.le_of_ble_eq_true rfl) hc_d_HopeBankModel_160 (hc_set hn hkn) (fun Hhh139 locshh139 hh139 => ?_)
  have hh139 : hc_H D s wd (wd.set ki (a, .inr (12, [.int 0, .ref q82, .ref q85, .ref q88, .ref q91, .int 0, .ref q94, .int 0, .int 0, .int 0, .int 0, .int 0, .int 0, .int (-1 : Int32), .ref q98, .ref q101, .ref q104, .ref q107, .ref q110, .ref q113, .ref q116, .ref q119, .ref q122, .int 0, .int 0, .int 0, .int 0, .int 0, .int 0, .int 0, .int 0, .ref q125, .ref q128, .ref q131, .ref q134, .ref q137, .int 0, .int 0, .int 0, .long 0, .long 0, .long 0, .null, .null, .null, .null])) ++ [(q82, .inl (k.1, 122, .inl (fun _ => 0))), (q85, .inl (k.1, 366, .inl (fun _ => 0))), (q88, .inl (k.2.2.1, 3, .inl (fun _ => 0))), (q91, .inl (k.2.1, 900, .inl (fun _ => 0))), (q94, .inl (k.1, 5, .inl (fun _ => 0))), (q98, .inl (k.1, 122, .inl (fun _ => 0))), (q101, .inl (k.1, 5, .inl (fun _ => 0))), (q104, .inl (k.1, 8, .inl (fun _ => 0))), (q107, .inl (k.1, 160, .inl (fun _ => 0))), (q110, .inl (k.1, 8, .inl (fun _ => 0))), (q113, .inl (k.1, 8, .inl (fun _ => 0))), (q116, .inl (k.1, 8, .inl (fun _ => 0))), (q119, .inl (k.1, 6, .inl (fun _ => 0))), (q122, .inl (k.2.2.1, 5, .inl (fun _ => 0))), (q125, .inl (k.2.2.1, 1536, .inl (fun _ => 0))), (q128, .inl (k.1, 5, .inl (fun _ => 0))), (q131, .inl (k.1, 256, .inl (fun _ => 0))), (q134, .inl (k.1, 256, .inl (fun _ => 0))), (q137, .inl (k.1, 256, .inl (fun _ => 0)))]) _ _ := hh139
  refine lv_aload_n hx hb hc_d_HopeBankModel_163 rfl (lv_at hl 0 rfl) ?_
  refine lv_iconst (v := nI 4) hx hb hc_d_HopeBankModel_164 (by decide) ?_
  refine hc_newi (N' := 4) (cA := k.1) hx hb hTw hGs.1 hh139 hc_w3 hk0.1.2 (by decide) (by decide) (Nat.le_of_ble_eq_true rfl) (Nat.le_of_ble_eq_true rfl) (Nat.le_of_ble_eq_true rfl) hc_d_HopeBankModel_165 (fun q140 Hhh141 hh141 => ?_)
  rw [List.append_assoc] at hh141
  have hh141 : hc_H D s wd (wd.set ki (a, .inr (12, [.int 0, .ref q82, .ref q85, .ref q88, .ref q91, .int 0, .ref q94, .int 0, .int 0, .int 0, .int 0, .int 0, .int 0, .int (-1 : Int32), .ref q98, .ref q101, .ref q104, .ref q107, .ref q110, .ref q113, .ref q116, .ref q119, .ref q122, .int 0, .int 0, .int 0, .int 0, .int 0, .int 0, .int 0, .int 0, .ref q125, .ref q128, .ref q131, .ref q134, .ref q137, .int 0, .int 0, .int 0, .long 0, .long 0, .long 0, .null, .null, .null, .null])) ++ [(q82, .inl (k.1, 122, .inl (fun _ => 0))), (q85, .inl (k.1, 366, .inl (fun _ => 0))), (q88, .inl (k.2.2.1, 3, .inl (fun _ => 0))), (q91, .inl (k.2.1, 900, .inl (fun _ => 0))), (q94, .inl (k.1, 5, .inl (fun _ => 0))), (q98, .inl (k.1, 122, .inl (fun _ => 0))), (q101, .inl (k.1, 5, .inl (fun _ => 0))), (q104, .inl (k.1, 8, .inl (fun _ => 0))), (q107, .inl (k.1, 160, .inl (fun _ => 0))), (q110, .inl (k.1, 8, .inl (fun _ => 0))), (q113, .inl (k.1, 8, .inl (fun _ => 0))), (q116, .inl (k.1, 8, .inl (fun _ => 0))), (q119, .inl (k.1, 6, .inl (fun _ => 0))), (q122, .inl (k.2.2.1, 5, .inl (fun _ => 0))), (q125, .inl (k.2.2.1, 1536, .inl (fun _ => 0))), (q128, .inl (k.1, 5, .inl (fun _ => 0))), (q131, .inl (k.1, 256, .inl (fun _ => 0))), (q134, .inl (k.1, 256, .inl (fun _ => 0))), (q137, .inl (k.1, 256, .inl (fun _ => 0))), (q140, .inl (k.1, 4, .inl (fun _ => 0)))]) _ _ := hh141
  refine lv_dup hx hb hc_d_HopeBankModel_167 rfl ?_
  refine lv_iconst (v := nI 0) hx hb hc_d_HopeBankModel_168 (by decide) ?_
  refine lv_iconst (v := (-1 : Int32)) hx hb hc_d_HopeBankModel_169 (by decide) ?_
  refine hc_ast (q0 := n0 + 19) (i := nI 0) hx hb hGs.1 hk0.1.1 hk0.1.2 hh141 ((hc_getr hn).trans rfl) (nI_in (by decide) (by decide)) hc_d_HopeBankModel_170 (hc_setr hn) (fun Hhh142 locshh142 hh142 => ?_)
  have hh142 : hc_H D s wd (wd.set ki (a, .inr (12, [.int 0, .ref q82, .ref q85, .ref q88, .ref q91, .int 0, .ref q94, .int 0, .int 0, .int 0, .int 0, .int 0, .int 0, .int (-1 : Int32), .ref q98, .ref q101, .ref q104, .ref q107, .ref q110, .ref q113, .ref q116, .ref q119, .ref q122, .int 0, .int 0, .int 0, .int 0, .int 0, .int 0, .int 0, .int 0, .ref q125, .ref q128, .ref q131, .ref q134, .ref q137, .int 0, .int 0, .int 0, .long 0, .long 0, .long 0, .null, .null, .null, .null])) ++ [(q82, .inl (k.1, 122, .inl (fun _ => 0))), (q85, .inl (k.1, 366, .inl (fun _ => 0))), (q88, .inl (k.2.2.1, 3, .inl (fun _ => 0))), (q91, .inl (k.2.1, 900, .inl (fun _ => 0))), (q94, .inl (k.1, 5, .inl (fun _ => 0))), (q98, .inl (k.1, 122, .inl (fun _ => 0))), (q101, .inl (k.1, 5, .inl (fun _ => 0))), (q104, .inl (k.1, 8, .inl (fun _ => 0))), (q107, .inl (k.1, 160, .inl (fun _ => 0))), (q110, .inl (k.1, 8, .inl (fun _ => 0))), (q113, .inl (k.1, 8, .inl (fun _ => 0))), (q116, .inl (k.1, 8, .inl (fun _ => 0))), (q119, .inl (k.1, 6, .inl (fun _ => 0))), (q122, .inl (k.2.2.1, 5, .inl (fun _ => 0))), (q125, .inl (k.2.2.1, 1536, .inl (fun _ => 0))), (q128, .inl (k.1, 5, .inl (fun _ => 0))), (q131, .inl (k.1, 256, .inl (fun _ => 0))), (q134, .inl (k.1, 256, .inl (fun _ => 0))), (q137, .inl (k.1, 256, .inl (fun _ => 0))), (q140, .inl (k.1, 4, .inl (upd (fun _ => 0) 0 (-1 : Int32))))]) _ _ := hh142
  refine lv_dup hx hb hc_d_HopeBankModel_171 rfl ?_
  refine lv_iconst (v := nI 1) hx hb hc_d_HopeBankModel_172 (by decide) ?_
  refine lv_iconst (v := (-1 : Int32)) hx hb hc_d_HopeBankModel_173 (by decide) ?_
  refine hc_ast (q0 := n0 + 19) (i := nI 1) hx hb hGs.1 hk0.1.1 hk0.1.2 hh142 ((hc_getr hn).trans rfl) (nI_in (by decide) (by decide)) hc_d_HopeBankModel_174 (hc_setr hn) (fun Hhh143 locshh143 hh143 => ?_)
  have hh143 : hc_H D s wd (wd.set ki (a, .inr (12, [.int 0, .ref q82, .ref q85, .ref q88, .ref q91, .int 0, .ref q94, .int 0, .int 0, .int 0, .int 0, .int 0, .int 0, .int (-1 : Int32), .ref q98, .ref q101, .ref q104, .ref q107, .ref q110, .ref q113, .ref q116, .ref q119, .ref q122, .int 0, .int 0, .int 0, .int 0, .int 0, .int 0, .int 0, .int 0, .ref q125, .ref q128, .ref q131, .ref q134, .ref q137, .int 0, .int 0, .int 0, .long 0, .long 0, .long 0, .null, .null, .null, .null])) ++ [(q82, .inl (k.1, 122, .inl (fun _ => 0))), (q85, .inl (k.1, 366, .inl (fun _ => 0))), (q88, .inl (k.2.2.1, 3, .inl (fun _ => 0))), (q91, .inl (k.2.1, 900, .inl (fun _ => 0))), (q94, .inl (k.1, 5, .inl (fun _ => 0))), (q98, .inl (k.1, 122, .inl (fun _ => 0))), (q101, .inl (k.1, 5, .inl (fun _ => 0))), (q104, .inl (k.1, 8, .inl (fun _ => 0))), (q107, .inl (k.1, 160, .inl (fun _ => 0))), (q110, .inl (k.1, 8, .inl (fun _ => 0))), (q113, .inl (k.1, 8, .inl (fun _ => 0))), (q116, .inl (k.1, 8, .inl (fun _ => 0))), (q119, .inl (k.1, 6, .inl (fun _ => 0))), (q122, .inl (k.2.2.1, 5, .inl (fun _ => 0))), (q125, .inl (k.2.2.1, 1536, .inl (fun _ => 0))), (q128, .inl (k.1, 5, .inl (fun _ => 0))), (q131, .inl (k.1, 256, .inl (fun _ => 0))), (q134, .inl (k.1, 256, .inl (fun _ => 0))), (q137, .inl (k.1, 256, .inl (fun _ => 0))), (q140, .inl (k.1, 4, .inl (upd (upd (fun _ => 0) 0 (-1 : Int32)) 1 (-1 : Int32))))]) _ _ := hh143
  refine lv_dup hx hb hc_d_HopeBankModel_175 rfl ?_
  refine lv_iconst (v := nI 2) hx hb hc_d_HopeBankModel_176 (by decide) ?_
  refine lv_iconst (v := (-1 : Int32)) hx hb hc_d_HopeBankModel_177 (by decide) ?_
  refine hc_ast (q0 := n0 + 19) (i := nI 2) hx hb hGs.1 hk0.1.1 hk0.1.2 hh143 ((hc_getr hn).trans rfl) (nI_in (by decide) (by decide)) hc_d_HopeBankModel_178 (hc_setr hn) (fun Hhh144 locshh144 hh144 => ?_)
  have hh144 : hc_H D s wd (wd.set ki (a, .inr (12, [.int 0, .ref q82, .ref q85, .ref q88, .ref q91, .int 0, .ref q94, .int 0, .int 0, .int 0, .int 0, .int 0, .int 0, .int (-1 : Int32), .ref q98, .ref q101, .ref q104, .ref q107, .ref q110, .ref q113, .ref q116, .ref q119, .ref q122, .int 0, .int 0, .int 0, .int 0, .int 0, .int 0, .int 0, .int 0, .ref q125, .ref q128, .ref q131, .ref q134, .ref q137, .int 0, .int 0, .int 0, .long 0, .long 0, .long 0, .null, .null, .null, .null])) ++ [(q82, .inl (k.1, 122, .inl (fun _ => 0))), (q85, .inl (k.1, 366, .inl (fun _ => 0))), (q88, .inl (k.2.2.1, 3, .inl (fun _ => 0))), (q91, .inl (k.2.1, 900, .inl (fun _ => 0))), (q94, .inl (k.1, 5, .inl (fun _ => 0))), (q98, .inl (k.1, 122, .inl (fun _ => 0))), (q101, .inl (k.1, 5, .inl (fun _ => 0))), (q104, .inl (k.1, 8, .inl (fun _ => 0))), (q107, .inl (k.1, 160, .inl (fun _ => 0))), (q110, .inl (k.1, 8, .inl (fun _ => 0))), (q113, .inl (k.1, 8, .inl (fun _ => 0))), (q116, .inl (k.1, 8, .inl (fun _ => 0))), (q119, .inl (k.1, 6, .inl (fun _ => 0))), (q122, .inl (k.2.2.1, 5, .inl (fun _ => 0))), (q125, .inl (k.2.2.1, 1536, .inl (fun _ => 0))), (q128, .inl (k.1, 5, .inl (fun _ => 0))), (q131, .inl (k.1, 256, .inl (fun _ => 0))), (q134, .inl (k.1, 256, .inl (fun _ => 0))), (q137, .inl (k.1, 256, .inl (fun _ => 0))), (q140, .inl (k.1, 4, .inl (upd (upd (upd (fun _ => 0) 0 (-1 : Int32)) 1 (-1 : Int32)) 2 (-1 : Int32))))]) _ _ := hh144
  refine lv_dup hx hb hc_d_HopeBankModel_179 rfl ?_
  refine lv_iconst (v := nI 3) hx hb hc_d_HopeBankModel_180 (by decide) ?_
  refine lv_iconst (v := (-1 : Int32)) hx hb hc_d_HopeBankModel_181 (by decide) ?_
  refine hc_ast (q0 := n0 + 19) (i := nI 3) hx hb hGs.1 hk0.1.1 hk0.1.2 hh144 ((hc_getr hn).trans rfl) (nI_in (by decide) (by decide)) hc_d_HopeBankModel_182 (hc_setr hn) (fun Hhh145 locshh145 hh145 => ?_)
  have hh145 : hc_H D s wd (wd.set ki (a, .inr (12, [.int 0, .ref q82, .ref q85, .ref q88, .ref q91, .int 0, .ref q94, .int 0, .int 0, .int 0, .int 0, .int 0, .int 0, .int (-1 : Int32), .ref q98, .ref q101, .ref q104, .ref q107, .ref q110, .ref q113, .ref q116, .ref q119, .ref q122, .int 0, .int 0, .int 0, .int 0, .int 0, .int 0, .int 0, .int 0, .ref q125, .ref q128, .ref q131, .ref q134, .ref q137, .int 0, .int 0, .int 0, .long 0, .long 0, .long 0, .null, .null, .null, .null])) ++ [(q82, .inl (k.1, 122, .inl (fun _ => 0))), (q85, .inl (k.1, 366, .inl (fun _ => 0))), (q88, .inl (k.2.2.1, 3, .inl (fun _ => 0))), (q91, .inl (k.2.1, 900, .inl (fun _ => 0))), (q94, .inl (k.1, 5, .inl (fun _ => 0))), (q98, .inl (k.1, 122, .inl (fun _ => 0))), (q101, .inl (k.1, 5, .inl (fun _ => 0))), (q104, .inl (k.1, 8, .inl (fun _ => 0))), (q107, .inl (k.1, 160, .inl (fun _ => 0))), (q110, .inl (k.1, 8, .inl (fun _ => 0))), (q113, .inl (k.1, 8, .inl (fun _ => 0))), (q116, .inl (k.1, 8, .inl (fun _ => 0))), (q119, .inl (k.1, 6, .inl (fun _ => 0))), (q122, .inl (k.2.2.1, 5, .inl (fun _ => 0))), (q125, .inl (k.2.2.1, 1536, .inl (fun _ => 0))), (q128, .inl (k.1, 5, .inl (fun _ => 0))), (q131, .inl (k.1, 256, .inl (fun _ => 0))), (q134, .inl (k.1, 256, .inl (fun _ => 0))), (q137, .inl (k.1, 256, .inl (fun _ => 0))), (q140, .inl (k.1, 4, .inl (upd (upd (upd (upd (fun _ => 0) 0 (-1 : Int32)) 1 (-1 : Int32)) 2 (-1 : Int32)) 3 (-1 : Int32))))]) _ _ := hh145
  refine hc_putF (ci := 12) (k := 42) (own := "HopeBankModel") (C := RX12) (T := TX12) (N := 46) (t := tyX12 42) hx hb hown hTw hGs.1 hin hh145 rfl (hc_get hn hkn) (by decide) hc_w75 rfl rfl (tyX12_ok 42 (by decide)) rfl rfl (Nat.le_of_ble_eq_true rfl) hc_d_HopeBankModel_183 (hc_set hn hkn) (fun Hhh146 locshh146 hh146 => ?_)
  have hh146 : hc_H D s wd (wd.set ki (a, .inr (12, [.int 0, .ref q82, .ref q85, .ref q88, .ref q91, .int 0, .ref q94, .int 0, .int 0, .int 0, .int 0, .int 0, .int 0, .int (-1 : Int32), .ref q98, .ref q101, .ref q104, .ref q107, .ref q110, .ref q113, .ref q116, .ref q119, .ref q122, .int 0, .int 0, .int 0, .int 0, .int 0, .int 0, .int 0, .int 0, .ref q125, .ref q128, .ref q131, .ref q134, .ref q137, .int 0, .int 0, .int 0, .long 0, .long 0, .long 0, .ref q140, .null, .null, .null])) ++ [(q82, .inl (k.1, 122, .inl (fun _ => 0))), (q85, .inl (k.1, 366, .inl (fun _ => 0))), (q88, .inl (k.2.2.1, 3, .inl (fun _ => 0))), (q91, .inl (k.2.1, 900, .inl (fun _ => 0))), (q94, .inl (k.1, 5, .inl (fun _ => 0))), (q98, .inl (k.1, 122, .inl (fun _ => 0))), (q101, .inl (k.1, 5, .inl (fun _ => 0))), (q104, .inl (k.1, 8, .inl (fun _ => 0))), (q107, .inl (k.1, 160, .inl (fun _ => 0))), (q110, .inl (k.1, 8, .inl (fun _ => 0))), (q113, .inl (k.1, 8, .inl (fun _ => 0))), (q116, .inl (k.1, 8, .inl (fun _ => 0))), (q119, .inl (k.1, 6, .inl (fun _ => 0))), (q122, .inl (k.2.2.1, 5, .inl (fun _ => 0))), (q125, .inl (k.2.2.1, 1536, .inl (fun _ => 0))), (q128, .inl (k.1, 5, .inl (fun _ => 0))), (q131, .inl (k.1, 256, .inl (fun _ => 0))), (q134, .inl (k.1, 256, .inl (fun _ => 0))), (q137, .inl (k.1, 256, .inl (fun _ => 0))), (q140, .inl (k.1, 4, .inl (upd (upd (upd (upd (fun _ => 0) 0 (-1 : Int32)) 1 (-1 : Int32)) 2 (-1 : Int32)) 3 (-1 : Int32))))]) _ _ := hh146
  refine lv_aload_n hx hb hc_d_HopeBankModel_186 rfl (lv_at hl 0 rfl) ?_
  refine lv_iconst (v := nI 4) hx hb hc_d_HopeBankModel_187 (by decide) ?_
  refine hc_newi (N' := 4) (cA := k.1) hx hb hTw hGs.1 hh146 hc_w3 hk0.1.2 (by decide) (by decide) (Nat.le_of_ble_eq_true rfl) (Nat.le_of_ble_eq_true rfl) (Nat.le_of_ble_eq_true rfl) hc_d_HopeBankModel_188 (fun q147 Hhh148 hh148 => ?_)
  rw [List.append_assoc] at hh148
  have hh148 : hc_H D s wd (wd.set ki (a, .inr (12, [.int 0, .ref q82, .ref q85, .ref q88, .ref q91, .int 0, .ref q94, .int 0, .int 0, .int 0, .int 0, .int 0, .int 0, .int (-1 : Int32), .ref q98, .ref q101, .ref q104, .ref q107, .ref q110, .ref q113, .ref q116, .ref q119, .ref q122, .int 0, .int 0, .int 0, .int 0, .int 0, .int 0, .int 0, .int 0, .ref q125, .ref q128, .ref q131, .ref q134, .ref q137, .int 0, .int 0, .int 0, .long 0, .long 0, .long 0, .ref q140, .null, .null, .null])) ++ [(q82, .inl (k.1, 122, .inl (fun _ => 0))), (q85, .inl (k.1, 366, .inl (fun _ => 0))), (q88, .inl (k.2.2.1, 3, .inl (fun _ => 0))), (q91, .inl (k.2.1, 900, .inl (fun _ => 0))), (q94, .inl (k.1, 5, .inl (fun _ => 0))), (q98, .inl (k.1, 122, .inl (fun _ => 0))), (q101, .inl (k.1, 5, .inl (fun _ => 0))), (q104, .inl (k.1, 8, .inl (fun _ => 0))), (q107, .inl (k.1, 160, .inl (fun _ => 0))), (q110, .inl (k.1, 8, .inl (fun _ => 0))), (q113, .inl (k.1, 8, .inl (fun _ => 0))), (q116, .inl (k.1, 8, .inl (fun _ => 0))), (q119, .inl (k.1, 6, .inl (fun _ => 0))), (q122, .inl (k.2.2.1, 5, .inl (fun _ => 0))), (q125, .inl (k.2.2.1, 1536, .inl (fun _ => 0))), (q128, .inl (k.1, 5, .inl (fun _ => 0))), (q131, .inl (k.1, 256, .inl (fun _ => 0))), (q134, .inl (k.1, 256, .inl (fun _ => 0))), (q137, .inl (k.1, 256, .inl (fun _ => 0))), (q140, .inl (k.1, 4, .inl (upd (upd (upd (upd (fun _ => 0) 0 (-1 : Int32)) 1 (-1 : Int32)) 2 (-1 : Int32)) 3 (-1 : Int32)))), (q147, .inl (k.1, 4, .inl (fun _ => 0)))]) _ _ := hh148
  refine hc_putF (ci := 12) (k := 43) (own := "HopeBankModel") (C := RX12) (T := TX12) (N := 46) (t := tyX12 43) hx hb hown hTw hGs.1 hin hh148 rfl (hc_get hn hkn) (by decide) hc_w76 rfl rfl (tyX12_ok 43 (by decide)) rfl rfl (Nat.le_of_ble_eq_true rfl) hc_d_HopeBankModel_190 (hc_set hn hkn) (fun Hhh149 locshh149 hh149 => ?_)
  have hh149 : hc_H D s wd (wd.set ki (a, .inr (12, [.int 0, .ref q82, .ref q85, .ref q88, .ref q91, .int 0, .ref q94, .int 0, .int 0, .int 0, .int 0, .int 0, .int 0, .int (-1 : Int32), .ref q98, .ref q101, .ref q104, .ref q107, .ref q110, .ref q113, .ref q116, .ref q119, .ref q122, .int 0, .int 0, .int 0, .int 0, .int 0, .int 0, .int 0, .int 0, .ref q125, .ref q128, .ref q131, .ref q134, .ref q137, .int 0, .int 0, .int 0, .long 0, .long 0, .long 0, .ref q140, .ref q147, .null, .null])) ++ [(q82, .inl (k.1, 122, .inl (fun _ => 0))), (q85, .inl (k.1, 366, .inl (fun _ => 0))), (q88, .inl (k.2.2.1, 3, .inl (fun _ => 0))), (q91, .inl (k.2.1, 900, .inl (fun _ => 0))), (q94, .inl (k.1, 5, .inl (fun _ => 0))), (q98, .inl (k.1, 122, .inl (fun _ => 0))), (q101, .inl (k.1, 5, .inl (fun _ => 0))), (q104, .inl (k.1, 8, .inl (fun _ => 0))), (q107, .inl (k.1, 160, .inl (fun _ => 0))), (q110, .inl (k.1, 8, .inl (fun _ => 0))), (q113, .inl (k.1, 8, .inl (fun _ => 0))), (q116, .inl (k.1, 8, .inl (fun _ => 0))), (q119, .inl (k.1, 6, .inl (fun _ => 0))), (q122, .inl (k.2.2.1, 5, .inl (fun _ => 0))), (q125, .inl (k.2.2.1, 1536, .inl (fun _ => 0))), (q128, .inl (k.1, 5, .inl (fun _ => 0))), (q131, .inl (k.1, 256, .inl (fun _ => 0))), (q134, .inl (k.1, 256, .inl (fun _ => 0))), (q137, .inl (k.1, 256, .inl (fun _ => 0))), (q140, .inl (k.1, 4, .inl (upd (upd (upd (upd (fun _ => 0) 0 (-1 : Int32)) 1 (-1 : Int32)) 2 (-1 : Int32)) 3 (-1 : Int32)))), (q147, .inl (k.1, 4, .inl (fun _ => 0)))]) _ _ := hh149
  refine lv_aload_n hx hb hc_d_HopeBankModel_193 rfl (lv_at hl 0 rfl) ?_
  refine lv_sipush (v := nI 240) hx hb hc_d_HopeBankModel_194 (by decide) ?_
  refine hc_newj (N' := 240) (cA := k.2.2.2) hx hb hTw hGs.1 hh149 hc_w77 hk0.2.2.2.2 (by decide) (by decide) (Nat.le_of_ble_eq_true rfl) (Nat.le_of_ble_eq_true rfl) (Nat.le_of_ble_eq_true rfl) hc_d_HopeBankModel_197 (fun q150 Hhh151 hh151 => ?_)
  rw [List.append_assoc] at hh151
  have hh151 : hc_H D s wd (wd.set ki (a, .inr (12, [.int 0, .ref q82, .ref q85, .ref q88, .ref q91, .int 0, .ref q94, .int 0, .int 0, .int 0, .int 0, .int 0, .int 0, .int (-1 : Int32), .ref q98, .ref q101, .ref q104, .ref q107, .ref q110, .ref q113, .ref q116, .ref q119, .ref q122, .int 0, .int 0, .int 0, .int 0, .int 0, .int 0, .int 0, .int 0, .ref q125, .ref q128, .ref q131, .ref q134, .ref q137, .int 0, .int 0, .int 0, .long 0, .long 0, .long 0, .ref q140, .ref q147, .null, .null])) ++ [(q82, .inl (k.1, 122, .inl (fun _ => 0))), (q85, .inl (k.1, 366, .inl (fun _ => 0))), (q88, .inl (k.2.2.1, 3, .inl (fun _ => 0))), (q91, .inl (k.2.1, 900, .inl (fun _ => 0))), (q94, .inl (k.1, 5, .inl (fun _ => 0))), (q98, .inl (k.1, 122, .inl (fun _ => 0))), (q101, .inl (k.1, 5, .inl (fun _ => 0))), (q104, .inl (k.1, 8, .inl (fun _ => 0))), (q107, .inl (k.1, 160, .inl (fun _ => 0))), (q110, .inl (k.1, 8, .inl (fun _ => 0))), (q113, .inl (k.1, 8, .inl (fun _ => 0))), (q116, .inl (k.1, 8, .inl (fun _ => 0))), (q119, .inl (k.1, 6, .inl (fun _ => 0))), (q122, .inl (k.2.2.1, 5, .inl (fun _ => 0))), (q125, .inl (k.2.2.1, 1536, .inl (fun _ => 0))), (q128, .inl (k.1, 5, .inl (fun _ => 0))), (q131, .inl (k.1, 256, .inl (fun _ => 0))), (q134, .inl (k.1, 256, .inl (fun _ => 0))), (q137, .inl (k.1, 256, .inl (fun _ => 0))), (q140, .inl (k.1, 4, .inl (upd (upd (upd (upd (fun _ => 0) 0 (-1 : Int32)) 1 (-1 : Int32)) 2 (-1 : Int32)) 3 (-1 : Int32)))), (q147, .inl (k.1, 4, .inl (fun _ => 0))), (q150, .inl (k.2.2.2, 240, .inr (.inl (fun _ => 0))))]) _ _ := hh151
  refine hc_putF (ci := 12) (k := 44) (own := "HopeBankModel") (C := RX12) (T := TX12) (N := 46) (t := tyX12 44) hx hb hown hTw hGs.1 hin hh151 rfl (hc_get hn hkn) (by decide) hc_w78 rfl rfl (tyX12_ok 44 (by decide)) rfl rfl (Nat.le_of_ble_eq_true rfl) hc_d_HopeBankModel_199 (hc_set hn hkn) (fun Hhh152 locshh152 hh152 => ?_)
  have hh152 : hc_H D s wd (wd.set ki (a, .inr (12, [.int 0, .ref q82, .ref q85, .ref q88, .ref q91, .int 0, .ref q94, .int 0, .int 0, .int 0, .int 0, .int 0, .int 0, .int (-1 : Int32), .ref q98, .ref q101, .ref q104, .ref q107, .ref q110, .ref q113, .ref q116, .ref q119, .ref q122, .int 0, .int 0, .int 0, .int 0, .int 0, .int 0, .int 0, .int 0, .ref q125, .ref q128, .ref q131, .ref q134, .ref q137, .int 0, .int 0, .int 0, .long 0, .long 0, .long 0, .ref q140, .ref q147, .ref q150, .null])) ++ [(q82, .inl (k.1, 122, .inl (fun _ => 0))), (q85, .inl (k.1, 366, .inl (fun _ => 0))), (q88, .inl (k.2.2.1, 3, .inl (fun _ => 0))), (q91, .inl (k.2.1, 900, .inl (fun _ => 0))), (q94, .inl (k.1, 5, .inl (fun _ => 0))), (q98, .inl (k.1, 122, .inl (fun _ => 0))), (q101, .inl (k.1, 5, .inl (fun _ => 0))), (q104, .inl (k.1, 8, .inl (fun _ => 0))), (q107, .inl (k.1, 160, .inl (fun _ => 0))), (q110, .inl (k.1, 8, .inl (fun _ => 0))), (q113, .inl (k.1, 8, .inl (fun _ => 0))), (q116, .inl (k.1, 8, .inl (fun _ => 0))), (q119, .inl (k.1, 6, .inl (fun _ => 0))), (q122, .inl (k.2.2.1, 5, .inl (fun _ => 0))), (q125, .inl (k.2.2.1, 1536, .inl (fun _ => 0))), (q128, .inl (k.1, 5, .inl (fun _ => 0))), (q131, .inl (k.1, 256, .inl (fun _ => 0))), (q134, .inl (k.1, 256, .inl (fun _ => 0))), (q137, .inl (k.1, 256, .inl (fun _ => 0))), (q140, .inl (k.1, 4, .inl (upd (upd (upd (upd (fun _ => 0) 0 (-1 : Int32)) 1 (-1 : Int32)) 2 (-1 : Int32)) 3 (-1 : Int32)))), (q147, .inl (k.1, 4, .inl (fun _ => 0))), (q150, .inl (k.2.2.2, 240, .inr (.inl (fun _ => 0))))]) _ _ := hh152
  refine lv_aload_n hx hb hc_d_HopeBankModel_202 rfl (lv_at hl 0 rfl) ?_
  refine lv_bipush (v := nI 60) hx hb hc_d_HopeBankModel_203 (by decide) ?_
  refine hc_newj (N' := 60) (cA := k.2.2.2) hx hb hTw hGs.1 hh152 hc_w77 hk0.2.2.2.2 (by decide) (by decide) (Nat.le_of_ble_eq_true rfl) (Nat.le_of_ble_eq_true rfl) (Nat.le_of_ble_eq_true rfl) hc_d_HopeBankModel_205 (fun q153 Hhh154 hh154 => ?_)
  rw [List.append_assoc] at hh154
  have hh154 : hc_H D s wd (wd.set ki (a, .inr (12, [.int 0, .ref q82, .ref q85, .ref q88, .ref q91, .int 0, .ref q94, .int 0, .int 0, .int 0, .int 0, .int 0, .int 0, .int (-1 : Int32), .ref q98, .ref q101, .ref q104, .ref q107, .ref q110, .ref q113, .ref q116, .ref q119, .ref q122, .int 0, .int 0, .int 0, .int 0, .int 0, .int 0, .int 0, .int 0, .ref q125, .ref q128, .ref q131, .ref q134, .ref q137, .int 0, .int 0, .int 0, .long 0, .long 0, .long 0, .ref q140, .ref q147, .ref q150, .null])) ++ [(q82, .inl (k.1, 122, .inl (fun _ => 0))), (q85, .inl (k.1, 366, .inl (fun _ => 0))), (q88, .inl (k.2.2.1, 3, .inl (fun _ => 0))), (q91, .inl (k.2.1, 900, .inl (fun _ => 0))), (q94, .inl (k.1, 5, .inl (fun _ => 0))), (q98, .inl (k.1, 122, .inl (fun _ => 0))), (q101, .inl (k.1, 5, .inl (fun _ => 0))), (q104, .inl (k.1, 8, .inl (fun _ => 0))), (q107, .inl (k.1, 160, .inl (fun _ => 0))), (q110, .inl (k.1, 8, .inl (fun _ => 0))), (q113, .inl (k.1, 8, .inl (fun _ => 0))), (q116, .inl (k.1, 8, .inl (fun _ => 0))), (q119, .inl (k.1, 6, .inl (fun _ => 0))), (q122, .inl (k.2.2.1, 5, .inl (fun _ => 0))), (q125, .inl (k.2.2.1, 1536, .inl (fun _ => 0))), (q128, .inl (k.1, 5, .inl (fun _ => 0))), (q131, .inl (k.1, 256, .inl (fun _ => 0))), (q134, .inl (k.1, 256, .inl (fun _ => 0))), (q137, .inl (k.1, 256, .inl (fun _ => 0))), (q140, .inl (k.1, 4, .inl (upd (upd (upd (upd (fun _ => 0) 0 (-1 : Int32)) 1 (-1 : Int32)) 2 (-1 : Int32)) 3 (-1 : Int32)))), (q147, .inl (k.1, 4, .inl (fun _ => 0))), (q150, .inl (k.2.2.2, 240, .inr (.inl (fun _ => 0)))), (q153, .inl (k.2.2.2, 60, .inr (.inl (fun _ => 0))))]) _ _ := hh154
  refine hc_putF (ci := 12) (k := 45) (own := "HopeBankModel") (C := RX12) (T := TX12) (N := 46) (t := tyX12 45) hx hb hown hTw hGs.1 hin hh154 rfl (hc_get hn hkn) (by decide) hc_w79 rfl rfl (tyX12_ok 45 (by decide)) rfl rfl (Nat.le_of_ble_eq_true rfl) hc_d_HopeBankModel_207 (hc_set hn hkn) (fun Hhh155 locshh155 hh155 => ?_)
  have hh155 : hc_H D s wd (wd.set ki (a, .inr (12, [.int 0, .ref q82, .ref q85, .ref q88, .ref q91, .int 0, .ref q94, .int 0, .int 0, .int 0, .int 0, .int 0, .int 0, .int (-1 : Int32), .ref q98, .ref q101, .ref q104, .ref q107, .ref q110, .ref q113, .ref q116, .ref q119, .ref q122, .int 0, .int 0, .int 0, .int 0, .int 0, .int 0, .int 0, .int 0, .ref q125, .ref q128, .ref q131, .ref q134, .ref q137, .int 0, .int 0, .int 0, .long 0, .long 0, .long 0, .ref q140, .ref q147, .ref q150, .ref q153])) ++ [(q82, .inl (k.1, 122, .inl (fun _ => 0))), (q85, .inl (k.1, 366, .inl (fun _ => 0))), (q88, .inl (k.2.2.1, 3, .inl (fun _ => 0))), (q91, .inl (k.2.1, 900, .inl (fun _ => 0))), (q94, .inl (k.1, 5, .inl (fun _ => 0))), (q98, .inl (k.1, 122, .inl (fun _ => 0))), (q101, .inl (k.1, 5, .inl (fun _ => 0))), (q104, .inl (k.1, 8, .inl (fun _ => 0))), (q107, .inl (k.1, 160, .inl (fun _ => 0))), (q110, .inl (k.1, 8, .inl (fun _ => 0))), (q113, .inl (k.1, 8, .inl (fun _ => 0))), (q116, .inl (k.1, 8, .inl (fun _ => 0))), (q119, .inl (k.1, 6, .inl (fun _ => 0))), (q122, .inl (k.2.2.1, 5, .inl (fun _ => 0))), (q125, .inl (k.2.2.1, 1536, .inl (fun _ => 0))), (q128, .inl (k.1, 5, .inl (fun _ => 0))), (q131, .inl (k.1, 256, .inl (fun _ => 0))), (q134, .inl (k.1, 256, .inl (fun _ => 0))), (q137, .inl (k.1, 256, .inl (fun _ => 0))), (q140, .inl (k.1, 4, .inl (upd (upd (upd (upd (fun _ => 0) 0 (-1 : Int32)) 1 (-1 : Int32)) 2 (-1 : Int32)) 3 (-1 : Int32)))), (q147, .inl (k.1, 4, .inl (fun _ => 0))), (q150, .inl (k.2.2.2, 240, .inr (.inl (fun _ => 0)))), (q153, .inl (k.2.2.2, 60, .inr (.inl (fun _ => 0))))]) _ _ := hh155
  refine W.widen (k := 23) (n := 4343) (by omega) (by omega) ?_
  exact hc_ret hx hb hret hlocks hh155 hc_d_HopeBankModel_210 (fun t hv k1 hk1 => ⟨fun i => [q82, q85, q88, q91, q94, q98, q101, q104, q107, q110, q113, q116, q119, q122, q125, q128, q131, q134, q137, q140, q147, q150, q153].getD i 0, by have e := hc_Ku hv hk0 hk1; subst e; rfl⟩)
