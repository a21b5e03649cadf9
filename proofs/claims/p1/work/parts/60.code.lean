/-! hb_: the code words -/
set_option maxRecDepth 100000 in
theorem hb_cd0 : Cond.code ⟨"java/lang/String", "length", "()I"⟩ prog_17_method_54_code 1 (some .int) ∈ lw_tbl.filter hb_gdw := List.mem_filter.mpr ⟨List.mem_of_getElem? (i := 617) rfl, rfl⟩
set_option maxRecDepth 100000 in
theorem hb_cd1 : Cond.code ⟨"java/lang/String", "charAt", "(I)C"⟩ prog_17_method_56_code 2 (some .char) ∈ lw_tbl.filter hb_gdw := List.mem_filter.mpr ⟨List.mem_of_getElem? (i := 627) rfl, rfl⟩
set_option maxRecDepth 100000 in
theorem hb_cd2 : Cond.code ⟨"HopeBankModel", "divisor", "(JJ)J"⟩ prog_14_method_126_code 10 (some .long) ∈ lw_tbl.filter hb_gdw := List.mem_filter.mpr ⟨List.mem_of_getElem? (i := 2234) rfl, rfl⟩
set_option maxRecDepth 100000 in
theorem hb_cd3 : Cond.code ⟨"HopeBank$Reader", "append", "(I)V"⟩ prog_6_method_2_code 3 none ∈ lw_tbl.filter hb_gdw := List.mem_filter.mpr ⟨List.mem_of_getElem? (i := 567) rfl, rfl⟩
set_option maxRecDepth 100000 in
theorem hb_cd4 : Cond.code ⟨"HopeBank", "feed", "(IIIII)I"⟩ prog_1_method_2_code 6 (some .int) ∈ lw_tbl.filter hb_gdw := List.mem_filter.mpr ⟨List.mem_of_getElem? (i := 563) rfl, rfl⟩
set_option maxRecDepth 100000 in
theorem hb_cd5 : Cond.code ⟨"HopeBank", "end", "(I)I"⟩ prog_1_method_3_code 2 (some .int) ∈ lw_tbl.filter hb_gdw := List.mem_filter.mpr ⟨List.mem_of_getElem? (i := 571) rfl, rfl⟩
set_option maxRecDepth 100000 in
theorem hb_cd6 : Cond.code ⟨"HopeBank$Table", "clear", "()V"⟩ prog_9_method_8_code 1 none ∈ lw_tbl.filter hb_gdw := List.mem_filter.mpr ⟨List.mem_of_getElem? (i := 587) rfl, rfl⟩
set_option maxRecDepth 100000 in
theorem hb_cd7 : Cond.code ⟨"HopeBank$Town", "clear", "()V"⟩ prog_11_method_7_code 1 none ∈ lw_tbl.filter hb_gdw := List.mem_filter.mpr ⟨List.mem_of_getElem? (i := 583) rfl, rfl⟩
set_option maxRecDepth 100000 in
theorem hb_cd8 : Cond.code ⟨"HopeBank$Reader", "byteAt", "(I)I"⟩ prog_6_method_16_code 2 (some .int) ∈ lw_tbl.filter hb_gdw := List.mem_filter.mpr ⟨List.mem_of_getElem? (i := 595) rfl, rfl⟩
set_option maxRecDepth 100000 in
theorem hb_cd9 : Cond.code ⟨"HopeBank$Reader", "isBlank", "(I)Z"⟩ prog_6_method_17_code 1 (some .boolean) ∈ lw_tbl.filter hb_gdw := List.mem_filter.mpr ⟨List.mem_of_getElem? (i := 598) rfl, rfl⟩
set_option maxRecDepth 100000 in
theorem hb_cd10 : Cond.code ⟨"HopeBank$Reader", "kindOf", "(I)I"⟩ prog_6_method_18_code 1 (some .int) ∈ lw_tbl.filter hb_gdw := List.mem_filter.mpr ⟨List.mem_of_getElem? (i := 601) rfl, rfl⟩
set_option maxRecDepth 100000 in
theorem hb_cd11 : Cond.code ⟨"HopeBank$Reader", "advance", "()V"⟩ prog_6_method_15_code 2 none ∈ lw_tbl.filter hb_gdw := List.mem_filter.mpr ⟨List.mem_of_getElem? (i := 591) rfl, rfl⟩
set_option maxRecDepth 100000 in
theorem hb_cd12 : Cond.code ⟨"HopeBank$Reader", "isWord", "(Ljava/lang/String;)Z"⟩ prog_6_method_19_code 3 (some .boolean) ∈ lw_tbl.filter hb_gdw := List.mem_filter.mpr ⟨List.mem_of_getElem? (i := 613) rfl, rfl⟩
set_option maxRecDepth 100000 in
theorem hb_cd13 : Cond.code ⟨"HopeBank$Reader", "wrong", "(I)Z"⟩ prog_6_method_14_code 2 (some .boolean) ∈ lw_tbl.filter hb_gdw := List.mem_filter.mpr ⟨List.mem_of_getElem? (i := 678) rfl, rfl⟩
set_option maxRecDepth 100000 in
theorem hb_cd14 : Cond.code ⟨"HopeBank$Reader", "amount", "()I"⟩ prog_6_method_20_code 3 (some .int) ∈ lw_tbl.filter hb_gdw := List.mem_filter.mpr ⟨List.mem_of_getElem? (i := 682) rfl, rfl⟩
set_option maxRecDepth 100000 in
theorem hb_cd15 : Cond.code ⟨"HopeBank", "set", "([III)V"⟩ prog_1_method_80_code 3 none ∈ lw_tbl.filter hb_gdw := List.mem_filter.mpr ⟨List.mem_of_getElem? (i := 686) rfl, rfl⟩
set_option maxRecDepth 100000 in
theorem hb_cd16 : Cond.code ⟨"HopeBank$Reader", "number", "(II)Z"⟩ prog_6_method_13_code 4 (some .boolean) ∈ lw_tbl.filter hb_gdw := List.mem_filter.mpr ⟨List.mem_of_getElem? (i := 674) rfl, rfl⟩
set_option maxRecDepth 100000 in
theorem hb_cd17 : Cond.code ⟨"HopeBank$Reader", "numberBehind", "(Ljava/lang/String;II)Z"⟩ prog_6_method_12_code 4 (some .boolean) ∈ lw_tbl.filter hb_gdw := List.mem_filter.mpr ⟨List.mem_of_getElem? (i := 670) rfl, rfl⟩
set_option maxRecDepth 100000 in
theorem hb_cd18 : Cond.code ⟨"HopeBank$Reader", "townNumbers", "()Z"⟩ prog_6_method_5_code 1 (some .boolean) ∈ lw_tbl.filter hb_gdw := List.mem_filter.mpr ⟨List.mem_of_getElem? (i := 665) rfl, rfl⟩
set_option maxRecDepth 100000 in
theorem hb_cd19 : Cond.code ⟨"HopeBank", "at", "([II)I"⟩ prog_1_method_79_code 2 (some .int) ∈ lw_tbl.filter hb_gdw := List.mem_filter.mpr ⟨List.mem_of_getElem? (i := 696) rfl, rfl⟩
set_option maxRecDepth 100000 in
theorem hb_cd20 : Cond.code ⟨"HopeBank$Table", "hasSpace", "()Z"⟩ prog_9_method_3_code 1 (some .boolean) ∈ lw_tbl.filter hb_gdw := List.mem_filter.mpr ⟨List.mem_of_getElem? (i := 704) rfl, rfl⟩
set_option maxRecDepth 100000 in
theorem hb_cd21 : Cond.code ⟨"HopeBank$Table", "put", "(III)V"⟩ prog_9_method_5_code 5 none ∈ lw_tbl.filter hb_gdw := List.mem_filter.mpr ⟨List.mem_of_getElem? (i := 708) rfl, rfl⟩
set_option maxRecDepth 100000 in
theorem hb_cd22 : Cond.code ⟨"HopeBank$Table", "add", "(III)Z"⟩ prog_9_method_6_code 4 (some .boolean) ∈ lw_tbl.filter hb_gdw := List.mem_filter.mpr ⟨List.mem_of_getElem? (i := 700) rfl, rfl⟩
set_option maxRecDepth 100000 in
theorem hb_cd23 : Cond.code ⟨"HopeBank$Reader", "close", "(LHopeBank$Table;)Z"⟩ prog_6_method_11_code 2 (some .boolean) ∈ lw_tbl.filter hb_gdw := List.mem_filter.mpr ⟨List.mem_of_getElem? (i := 693) rfl, rfl⟩
set_option maxRecDepth 100000 in
theorem hb_cd24 : Cond.code ⟨"HopeBank$Reader", "opens", "(LHopeBank$Table;)Z"⟩ prog_6_method_10_code 2 (some .boolean) ∈ lw_tbl.filter hb_gdw := List.mem_filter.mpr ⟨List.mem_of_getElem? (i := 714) rfl, rfl⟩
set_option maxRecDepth 100000 in
theorem hb_cd25 : Cond.code ⟨"HopeBank$Reader", "pigNumbers", "()Z"⟩ prog_6_method_6_code 1 (some .boolean) ∈ lw_tbl.filter hb_gdw := List.mem_filter.mpr ⟨List.mem_of_getElem? (i := 719) rfl, rfl⟩
set_option maxRecDepth 100000 in
theorem hb_cd26 : Cond.code ⟨"HopeBank$Reader", "hopeNumbers", "()Z"⟩ prog_6_method_7_code 1 (some .boolean) ∈ lw_tbl.filter hb_gdw := List.mem_filter.mpr ⟨List.mem_of_getElem? (i := 726) rfl, rfl⟩
set_option maxRecDepth 100000 in
theorem hb_cd27 : Cond.code ⟨"HopeBank$Reader", "dropNumbers", "()Z"⟩ prog_6_method_8_code 1 (some .boolean) ∈ lw_tbl.filter hb_gdw := List.mem_filter.mpr ⟨List.mem_of_getElem? (i := 734) rfl, rfl⟩
set_option maxRecDepth 100000 in
theorem hb_cd28 : Cond.code ⟨"HopeBank$Reader", "thiefNumbers", "()Z"⟩ prog_6_method_9_code 1 (some .boolean) ∈ lw_tbl.filter hb_gdw := List.mem_filter.mpr ⟨List.mem_of_getElem? (i := 741) rfl, rfl⟩
set_option maxRecDepth 100000 in
theorem hb_cd29 : Cond.code ⟨"HopeBank$Reader", "readLine", "()Z"⟩ prog_6_method_4_code 2 (some .boolean) ∈ lw_tbl.filter hb_gdw := List.mem_filter.mpr ⟨List.mem_of_getElem? (i := 608) rfl, rfl⟩
set_option maxRecDepth 100000 in
theorem hb_cd30 : Cond.code ⟨"HopeBank$Reader", "parse", "()Z"⟩ prog_6_method_3_code 2 (some .boolean) ∈ lw_tbl.filter hb_gdw := List.mem_filter.mpr ⟨List.mem_of_getElem? (i := 579) rfl, rfl⟩
set_option maxRecDepth 100000 in
theorem hb_cd31 : Cond.code ⟨"HopeBank$Table", "copy", "(LHopeBank$Table;)V"⟩ prog_9_method_9_code 3 none ∈ lw_tbl.filter hb_gdw := List.mem_filter.mpr ⟨List.mem_of_getElem? (i := 751) rfl, rfl⟩
set_option maxRecDepth 100000 in
theorem hb_cd32 : Cond.code ⟨"HopeBank$Town", "copy", "(LHopeBank$Town;)V"⟩ prog_11_method_8_code 2 none ∈ lw_tbl.filter hb_gdw := List.mem_filter.mpr ⟨List.mem_of_getElem? (i := 747) rfl, rfl⟩
set_option maxRecDepth 100000 in
theorem hb_cd33 : Cond.code ⟨"HopeBank$Table", "get", "(II)I"⟩ prog_9_method_4_code 4 (some .int) ∈ lw_tbl.filter hb_gdw := List.mem_filter.mpr ⟨List.mem_of_getElem? (i := 295) rfl, rfl⟩
set_option maxRecDepth 100000 in
theorem hb_cd34 : Cond.code ⟨"HopeBank$Town", "headNumber", "(I)I"⟩ prog_11_method_3_code 2 (some .int) ∈ lw_tbl.filter hb_gdw := List.mem_filter.mpr ⟨List.mem_of_getElem? (i := 767) rfl, rfl⟩
set_option maxRecDepth 100000 in
theorem hb_cd35 : Cond.code ⟨"HopeBank$Town", "planDrops", "(I)V"⟩ prog_11_method_10_code 3 none ∈ lw_tbl.filter hb_gdw := List.mem_filter.mpr ⟨List.mem_of_getElem? (i := 772) rfl, rfl⟩
set_option maxRecDepth 100000 in
theorem hb_cd36 : Cond.code ⟨"HopeBank$Town", "planThieves", "(I)V"⟩ prog_11_method_11_code 3 none ∈ lw_tbl.filter hb_gdw := List.mem_filter.mpr ⟨List.mem_of_getElem? (i := 777) rfl, rfl⟩
set_option maxRecDepth 100000 in
theorem hb_cd37 : Cond.code ⟨"HopeBank$Town", "planBreaks", "(I)V"⟩ prog_11_method_12_code 3 none ∈ lw_tbl.filter hb_gdw := List.mem_filter.mpr ⟨List.mem_of_getElem? (i := 781) rfl, rfl⟩
set_option maxRecDepth 100000 in
theorem hb_cd38 : Cond.code ⟨"HopeBank$Town", "plan", "()V"⟩ prog_11_method_9_code 3 none ∈ lw_tbl.filter hb_gdw := List.mem_filter.mpr ⟨List.mem_of_getElem? (i := 763) rfl, rfl⟩
set_option maxRecDepth 100000 in
theorem hb_cd39 : Cond.code ⟨"HopeBank$Play", "choose", "(IZ)V"⟩ prog_5_method_2_code 3 none ∈ lw_tbl.filter hb_gdw := List.mem_filter.mpr ⟨List.mem_of_getElem? (i := 284) rfl, rfl⟩
set_option maxRecDepth 100000 in
theorem hb_cd40 : Cond.code ⟨"java/util/Arrays", "fill", "([II)V"⟩ prog_21_method_103_code 4 none ∈ lw_tbl.filter hb_gdw := List.mem_filter.mpr ⟨List.mem_of_getElem? (i := 291) rfl, rfl⟩
set_option maxRecDepth 100000 in
theorem hb_cd41 : Cond.code ⟨"HopeBank$Play", "begin", "()V"⟩ prog_5_method_5_code 2 none ∈ lw_tbl.filter hb_gdw := List.mem_filter.mpr ⟨List.mem_of_getElem? (i := 288) rfl, rfl⟩
set_option maxRecDepth 100000 in
theorem hb_cd42 : Cond.code ⟨"HopeBank$Table", "has", "(I)Z"⟩ prog_9_method_2_code 2 (some .boolean) ∈ lw_tbl.filter hb_gdw := List.mem_filter.mpr ⟨List.mem_of_getElem? (i := 802) rfl, rfl⟩
set_option maxRecDepth 100000 in
theorem hb_cd43 : Cond.code ⟨"HopeBank$Play", "breakPig", "(II)V"⟩ prog_5_method_11_code 6 none ∈ lw_tbl.filter hb_gdw := List.mem_filter.mpr ⟨List.mem_of_getElem? (i := 830) rfl, rfl⟩
set_option maxRecDepth 100000 in
theorem hb_cd44 : Cond.code ⟨"HopeBank$Play", "happen", "(III)V"⟩ prog_5_method_6_code 4 none ∈ lw_tbl.filter hb_gdw := List.mem_filter.mpr ⟨List.mem_of_getElem? (i := 790) rfl, rfl⟩
set_option maxRecDepth 100000 in
theorem hb_cd45 : Cond.code ⟨"HopeBank", "hasBit", "(II)Z"⟩ prog_1_method_81_code 2 (some .boolean) ∈ lw_tbl.filter hb_gdw := List.mem_filter.mpr ⟨List.mem_of_getElem? (i := 806) rfl, rfl⟩
set_option maxRecDepth 100000 in
theorem hb_cd46 : Cond.code ⟨"HopeBank$Play", "steal", "(II)V"⟩ prog_5_method_9_code 5 none ∈ lw_tbl.filter hb_gdw := List.mem_filter.mpr ⟨List.mem_of_getElem? (i := 822) rfl, rfl⟩
set_option maxRecDepth 100000 in
theorem hb_cd47 : Cond.code ⟨"HopeBank$Play", "wouldFit", "(II)Z"⟩ prog_5_method_8_code 4 (some .boolean) ∈ lw_tbl.filter hb_gdw := List.mem_filter.mpr ⟨List.mem_of_getElem? (i := 798) rfl, rfl⟩
set_option maxRecDepth 100000 in
theorem hb_cd48 : Cond.code ⟨"HopeBank$Play", "goesIn", "(LHopeBank$Table;II)Z"⟩ prog_5_method_7_code 9 (some .boolean) ∈ lw_tbl.filter hb_gdw := List.mem_filter.mpr ⟨List.mem_of_getElem? (i := 794) rfl, rfl⟩
set_option maxRecDepth 100000 in
theorem hb_cd49 : Cond.code ⟨"HopeBank$Play", "leastWithin", "(II)I"⟩ prog_5_method_10_code 8 (some .int) ∈ lw_tbl.filter hb_gdw := List.mem_filter.mpr ⟨List.mem_of_getElem? (i := 826) rfl, rfl⟩
set_option maxRecDepth 100000 in
theorem hb_cd50 : Cond.code ⟨"java/lang/Integer", "bitCount", "(I)I"⟩ prog_15_method_49_code 1 (some .int) ∈ lw_tbl.filter hb_gdw := List.mem_filter.mpr ⟨List.mem_of_getElem? (i := 809) rfl, rfl⟩
set_option maxRecDepth 100000 in
theorem hb_cd51 : Cond.code ⟨"HopeBank", "loudness", "(IIII)I"⟩ prog_1_method_83_code 4 (some .int) ∈ lw_tbl.filter hb_gdw := List.mem_filter.mpr ⟨List.mem_of_getElem? (i := 816) rfl, rfl⟩
set_option maxRecDepth 100000 in
theorem hb_cd52 : Cond.code ⟨"HopeBank$Play", "playTo", "(II)V"⟩ prog_5_method_4_code 6 none ∈ lw_tbl.filter hb_gdw := List.mem_filter.mpr ⟨List.mem_of_getElem? (i := 786) rfl, rfl⟩
set_option maxRecDepth 100000 in
theorem hb_cd53 : Cond.code ⟨"HopeBank$Packing", "forget", "()V"⟩ prog_4_method_2_code 1 none ∈ lw_tbl.filter hb_gdw := List.mem_filter.mpr ⟨List.mem_of_getElem? (i := 834) rfl, rfl⟩
set_option maxRecDepth 100000 in
theorem hb_cd54 : Cond.code ⟨"HopeBank", "renew", "()V"⟩ prog_1_method_78_code 1 none ∈ lw_tbl.filter hb_gdw := List.mem_filter.mpr ⟨List.mem_of_getElem? (i := 759) rfl, rfl⟩
set_option maxRecDepth 100000 in
theorem hb_cd55 : Cond.code ⟨"HopeBank", "town", "()I"⟩ prog_1_method_4_code 1 (some .int) ∈ lw_tbl.filter hb_gdw := List.mem_filter.mpr ⟨List.mem_of_getElem? (i := 575) rfl, rfl⟩
set_option maxRecDepth 100000 in
theorem hb_cd56 : Cond.code ⟨"HopeBank", "fault", "(I)I"⟩ prog_1_method_5_code 2 (some .int) ∈ lw_tbl.filter hb_gdw := List.mem_filter.mpr ⟨List.mem_of_getElem? (i := 838) rfl, rfl⟩
set_option maxRecDepth 100000 in
theorem hb_cd57 : Cond.code ⟨"HopeBank", "pig", "(II)I"⟩ prog_1_method_6_code 3 (some .int) ∈ lw_tbl.filter hb_gdw := List.mem_filter.mpr ⟨List.mem_of_getElem? (i := 842) rfl, rfl⟩
set_option maxRecDepth 100000 in
theorem hb_cd58 : Cond.code ⟨"HopeBank", "hope", "(II)I"⟩ prog_1_method_7_code 3 (some .int) ∈ lw_tbl.filter hb_gdw := List.mem_filter.mpr ⟨List.mem_of_getElem? (i := 847) rfl, rfl⟩
set_option maxRecDepth 100000 in
theorem hb_cd59 : Cond.code ⟨"HopeBank", "drop", "(II)I"⟩ prog_1_method_8_code 3 (some .int) ∈ lw_tbl.filter hb_gdw := List.mem_filter.mpr ⟨List.mem_of_getElem? (i := 851) rfl, rfl⟩
set_option maxRecDepth 100000 in
theorem hb_cd60 : Cond.code ⟨"HopeBank", "thief", "(II)I"⟩ prog_1_method_9_code 3 (some .int) ∈ lw_tbl.filter hb_gdw := List.mem_filter.mpr ⟨List.mem_of_getElem? (i := 855) rfl, rfl⟩
set_option maxRecDepth 100000 in
theorem hb_cd61 : Cond.code ⟨"HopeBank$Town", "stands", "()Z"⟩ prog_11_method_2_code 1 (some .boolean) ∈ lw_tbl.filter hb_gdw := List.mem_filter.mpr ⟨List.mem_of_getElem? (i := 863) rfl, rfl⟩
set_option maxRecDepth 100000 in
theorem hb_cd62 : Cond.code ⟨"HopeBank", "firstBits", "(I)I"⟩ prog_1_method_82_code 1 (some .int) ∈ lw_tbl.filter hb_gdw := List.mem_filter.mpr ⟨List.mem_of_getElem? (i := 866) rfl, rfl⟩
set_option maxRecDepth 100000 in
theorem hb_cd63 : Cond.code ⟨"HopeBank", "misses", "()I"⟩ prog_1_method_10_code 1 (some .int) ∈ lw_tbl.filter hb_gdw := List.mem_filter.mpr ⟨List.mem_of_getElem? (i := 859) rfl, rfl⟩
set_option maxRecDepth 100000 in
theorem hb_cd64 : Cond.code ⟨"HopeBank$Look", "hopesHeard", "(II)I"⟩ prog_3_method_5_code 6 (some .int) ∈ lw_tbl.filter hb_gdw := List.mem_filter.mpr ⟨List.mem_of_getElem? (i := 874) rfl, rfl⟩
set_option maxRecDepth 100000 in
theorem hb_cd65 : Cond.code ⟨"HopeBank", "silent", "()I"⟩ prog_1_method_11_code 1 (some .int) ∈ lw_tbl.filter hb_gdw := List.mem_filter.mpr ⟨List.mem_of_getElem? (i := 870) rfl, rfl⟩
set_option maxRecDepth 100000 in
theorem hb_cd66 : Cond.code ⟨"HopeBank$Town", "hasNight", "(I)Z"⟩ prog_11_method_4_code 2 (some .boolean) ∈ lw_tbl.filter hb_gdw := List.mem_filter.mpr ⟨List.mem_of_getElem? (i := 883) rfl, rfl⟩
set_option maxRecDepth 100000 in
theorem hb_cd67 : Cond.code ⟨"HopeBank$Look", "placeOf", "(II)I"⟩ prog_3_method_2_code 5 (some .int) ∈ lw_tbl.filter hb_gdw := List.mem_filter.mpr ⟨List.mem_of_getElem? (i := 899) rfl, rfl⟩
set_option maxRecDepth 100000 in
theorem hb_cd68 : Cond.code ⟨"HopeBank$Look", "hopesAt", "(II)I"⟩ prog_3_method_3_code 5 (some .int) ∈ lw_tbl.filter hb_gdw := List.mem_filter.mpr ⟨List.mem_of_getElem? (i := 895) rfl, rfl⟩
set_option maxRecDepth 100000 in
theorem hb_cd69 : Cond.code ⟨"HopeBank$Look", "setIn", "(II)I"⟩ prog_3_method_4_code 3 (some .int) ∈ lw_tbl.filter hb_gdw := List.mem_filter.mpr ⟨List.mem_of_getElem? (i := 891) rfl, rfl⟩
set_option maxRecDepth 100000 in
theorem hb_cd70 : Cond.code ⟨"HopeBank$Look", "pigsEmpty", "(I)I"⟩ prog_3_method_14_code 4 (some .int) ∈ lw_tbl.filter hb_gdw := List.mem_filter.mpr ⟨List.mem_of_getElem? (i := 887) rfl, rfl⟩
set_option maxRecDepth 100000 in
theorem hb_cd71 : Cond.code ⟨"HopeBank", "empties", "(I)I"⟩ prog_1_method_12_code 2 (some .int) ∈ lw_tbl.filter hb_gdw := List.mem_filter.mpr ⟨List.mem_of_getElem? (i := 879) rfl, rfl⟩
set_option maxRecDepth 100000 in
theorem hb_cd72 : Cond.code ⟨"HopeBank$Look", "sumIn", "(III)I"⟩ prog_3_method_6_code 6 (some .int) ∈ lw_tbl.filter hb_gdw := List.mem_filter.mpr ⟨List.mem_of_getElem? (i := 915) rfl, rfl⟩
set_option maxRecDepth 100000 in
theorem hb_cd73 : Cond.code ⟨"HopeBank$Look", "load", "(II)I"⟩ prog_3_method_7_code 3 (some .int) ∈ lw_tbl.filter hb_gdw := List.mem_filter.mpr ⟨List.mem_of_getElem? (i := 911) rfl, rfl⟩
set_option maxRecDepth 100000 in
theorem hb_cd74 : Cond.code ⟨"HopeBank$Look", "heaviest", "(I)I"⟩ prog_3_method_15_code 6 (some .int) ∈ lw_tbl.filter hb_gdw := List.mem_filter.mpr ⟨List.mem_of_getElem? (i := 907) rfl, rfl⟩
set_option maxRecDepth 100000 in
theorem hb_cd75 : Cond.code ⟨"HopeBank", "heavy", "(I)I"⟩ prog_1_method_13_code 2 (some .int) ∈ lw_tbl.filter hb_gdw := List.mem_filter.mpr ⟨List.mem_of_getElem? (i := 903) rfl, rfl⟩
set_option maxRecDepth 100000 in
theorem hb_cd76 : Cond.code ⟨"HopeBank", "lacks", "(II)Z"⟩ prog_1_method_73_code 3 (some .boolean) ∈ lw_tbl.filter hb_gdw := List.mem_filter.mpr ⟨List.mem_of_getElem? (i := 924) rfl, rfl⟩
set_option maxRecDepth 100000 in
theorem hb_cd77 : Cond.code ⟨"HopeBank$Look", "longestIn", "(II)I"⟩ prog_3_method_17_code 7 (some .int) ∈ lw_tbl.filter hb_gdw := List.mem_filter.mpr ⟨List.mem_of_getElem? (i := 929) rfl, rfl⟩
set_option maxRecDepth 100000 in
theorem hb_cd78 : Cond.code ⟨"HopeBank", "oldest", "(II)I"⟩ prog_1_method_14_code 3 (some .int) ∈ lw_tbl.filter hb_gdw := List.mem_filter.mpr ⟨List.mem_of_getElem? (i := 920) rfl, rfl⟩
set_option maxRecDepth 100000 in
theorem hb_cd79 : Cond.code ⟨"HopeBank$Look", "leastIn", "(II)I"⟩ prog_3_method_18_code 7 (some .int) ∈ lw_tbl.filter hb_gdw := List.mem_filter.mpr ⟨List.mem_of_getElem? (i := 937) rfl, rfl⟩
set_option maxRecDepth 100000 in
theorem hb_cd80 : Cond.code ⟨"HopeBank", "small", "(II)I"⟩ prog_1_method_15_code 3 (some .int) ∈ lw_tbl.filter hb_gdw := List.mem_filter.mpr ⟨List.mem_of_getElem? (i := 933) rfl, rfl⟩
set_option maxRecDepth 100000 in
theorem hb_cd81 : Cond.code ⟨"HopeBank", "lacksHope", "(II)Z"⟩ prog_1_method_74_code 3 (some .boolean) ∈ lw_tbl.filter hb_gdw := List.mem_filter.mpr ⟨List.mem_of_getElem? (i := 946) rfl, rfl⟩
set_option maxRecDepth 100000 in
theorem hb_cd82 : Cond.code ⟨"HopeBank$Look", "hopeValue", "(II)I"⟩ prog_3_method_10_code 3 (some .int) ∈ lw_tbl.filter hb_gdw := List.mem_filter.mpr ⟨List.mem_of_getElem? (i := 950) rfl, rfl⟩
set_option maxRecDepth 100000 in
theorem hb_cd83 : Cond.code ⟨"HopeBank", "rich", "(II)I"⟩ prog_1_method_16_code 3 (some .int) ∈ lw_tbl.filter hb_gdw := List.mem_filter.mpr ⟨List.mem_of_getElem? (i := 942) rfl, rfl⟩
set_option maxRecDepth 100000 in
theorem hb_cd84 : Cond.code ⟨"HopeBank$Look", "mostInOne", "()I"⟩ prog_3_method_19_code 5 (some .int) ∈ lw_tbl.filter hb_gdw := List.mem_filter.mpr ⟨List.mem_of_getElem? (i := 958) rfl, rfl⟩
set_option maxRecDepth 100000 in
theorem hb_cd85 : Cond.code ⟨"HopeBank", "crowd", "()I"⟩ prog_1_method_17_code 1 (some .int) ∈ lw_tbl.filter hb_gdw := List.mem_filter.mpr ⟨List.mem_of_getElem? (i := 954) rfl, rfl⟩
set_option maxRecDepth 100000 in
theorem hb_cd86 : Cond.code ⟨"HopeBank$Look", "loudestFall", "(I)I"⟩ prog_3_method_20_code 4 (some .int) ∈ lw_tbl.filter hb_gdw := List.mem_filter.mpr ⟨List.mem_of_getElem? (i := 969) rfl, rfl⟩
set_option maxRecDepth 100000 in
theorem hb_cd87 : Cond.code ⟨"HopeBank", "loud", "(I)I"⟩ prog_1_method_18_code 2 (some .int) ∈ lw_tbl.filter hb_gdw := List.mem_filter.mpr ⟨List.mem_of_getElem? (i := 965) rfl, rfl⟩
set_option maxRecDepth 100000 in
theorem hb_cd88 : Cond.code ⟨"HopeBank$Look", "pigValue", "(II)I"⟩ prog_3_method_11_code 5 (some .int) ∈ lw_tbl.filter hb_gdw := List.mem_filter.mpr ⟨List.mem_of_getElem? (i := 981) rfl, rfl⟩
set_option maxRecDepth 100000 in
theorem hb_cd89 : Cond.code ⟨"HopeBank$Look", "bestNight", "(I)I"⟩ prog_3_method_13_code 7 (some .int) ∈ lw_tbl.filter hb_gdw := List.mem_filter.mpr ⟨List.mem_of_getElem? (i := 977) rfl, rfl⟩
set_option maxRecDepth 100000 in
theorem hb_cd90 : Cond.code ⟨"HopeBank$Town", "lastNight", "()I"⟩ prog_11_method_5_code 1 (some .int) ∈ lw_tbl.filter hb_gdw := List.mem_filter.mpr ⟨List.mem_of_getElem? (i := 986) rfl, rfl⟩
set_option maxRecDepth 100000 in
theorem hb_cd91 : Cond.code ⟨"HopeBank", "gains", "(I)I"⟩ prog_1_method_19_code 2 (some .int) ∈ lw_tbl.filter hb_gdw := List.mem_filter.mpr ⟨List.mem_of_getElem? (i := 973) rfl, rfl⟩
set_option maxRecDepth 100000 in
theorem hb_cd92 : Cond.code ⟨"HopeBank$Look", "spare", "(II)I"⟩ prog_3_method_8_code 3 (some .int) ∈ lw_tbl.filter hb_gdw := List.mem_filter.mpr ⟨List.mem_of_getElem? (i := 998) rfl, rfl⟩
set_option maxRecDepth 100000 in
theorem hb_cd93 : Cond.code ⟨"HopeBank$Look", "leastSpare", "(I)I"⟩ prog_3_method_21_code 5 (some .int) ∈ lw_tbl.filter hb_gdw := List.mem_filter.mpr ⟨List.mem_of_getElem? (i := 994) rfl, rfl⟩
set_option maxRecDepth 100000 in
theorem hb_cd94 : Cond.code ⟨"HopeBank", "tight", "(I)I"⟩ prog_1_method_20_code 2 (some .int) ∈ lw_tbl.filter hb_gdw := List.mem_filter.mpr ⟨List.mem_of_getElem? (i := 990) rfl, rfl⟩
set_option maxRecDepth 100000 in
theorem hb_cd95 : Cond.code ⟨"HopeBank$Look", "pigsRobbed", "()I"⟩ prog_3_method_23_code 4 (some .int) ∈ lw_tbl.filter hb_gdw := List.mem_filter.mpr ⟨List.mem_of_getElem? (i := 1007) rfl, rfl⟩
set_option maxRecDepth 100000 in
theorem hb_cd96 : Cond.code ⟨"HopeBank", "victims", "()I"⟩ prog_1_method_21_code 1 (some .int) ∈ lw_tbl.filter hb_gdw := List.mem_filter.mpr ⟨List.mem_of_getElem? (i := 1003) rfl, rfl⟩
set_option maxRecDepth 100000 in
theorem hb_cd97 : Cond.code ⟨"HopeBank", "within", "(II)I"⟩ prog_1_method_22_code 3 (some .int) ∈ lw_tbl.filter hb_gdw := List.mem_filter.mpr ⟨List.mem_of_getElem? (i := 1012) rfl, rfl⟩
set_option maxRecDepth 100000 in
theorem hb_cd98 : Cond.code ⟨"HopeBank", "where", "(II)I"⟩ prog_1_method_23_code 3 (some .int) ∈ lw_tbl.filter hb_gdw := List.mem_filter.mpr ⟨List.mem_of_getElem? (i := 1017) rfl, rfl⟩
set_option maxRecDepth 100000 in
theorem hb_cd99 : Cond.code ⟨"HopeBank", "falls", "(I)I"⟩ prog_1_method_24_code 2 (some .int) ∈ lw_tbl.filter hb_gdw := List.mem_filter.mpr ⟨List.mem_of_getElem? (i := 1022) rfl, rfl⟩
set_option maxRecDepth 100000 in
theorem hb_cd100 : Cond.code ⟨"HopeBank", "heard", "(I)I"⟩ prog_1_method_25_code 2 (some .int) ∈ lw_tbl.filter hb_gdw := List.mem_filter.mpr ⟨List.mem_of_getElem? (i := 1027) rfl, rfl⟩
set_option maxRecDepth 100000 in
theorem hb_cd101 : Cond.code ⟨"HopeBank", "known", "()I"⟩ prog_1_method_26_code 1 (some .int) ∈ lw_tbl.filter hb_gdw := List.mem_filter.mpr ⟨List.mem_of_getElem? (i := 1031) rfl, rfl⟩
set_option maxRecDepth 100000 in
theorem hb_cd102 : Cond.code ⟨"HopeBank", "weight", "(II)I"⟩ prog_1_method_27_code 3 (some .int) ∈ lw_tbl.filter hb_gdw := List.mem_filter.mpr ⟨List.mem_of_getElem? (i := 1037) rfl, rfl⟩
set_option maxRecDepth 100000 in
theorem hb_cd103 : Cond.code ⟨"HopeBank", "left", "(II)I"⟩ prog_1_method_28_code 3 (some .int) ∈ lw_tbl.filter hb_gdw := List.mem_filter.mpr ⟨List.mem_of_getElem? (i := 1042) rfl, rfl⟩
set_option maxRecDepth 100000 in
theorem hb_cd104 : Cond.code ⟨"HopeBank$Look", "noise", "(II)I"⟩ prog_3_method_9_code 3 (some .int) ∈ lw_tbl.filter hb_gdw := List.mem_filter.mpr ⟨List.mem_of_getElem? (i := 1051) rfl, rfl⟩
set_option maxRecDepth 100000 in
theorem hb_cd105 : Cond.code ⟨"HopeBank", "rattle", "(II)I"⟩ prog_1_method_29_code 3 (some .int) ∈ lw_tbl.filter hb_gdw := List.mem_filter.mpr ⟨List.mem_of_getElem? (i := 1047) rfl, rfl⟩
set_option maxRecDepth 100000 in
theorem hb_cd106 : Cond.code ⟨"HopeBank", "value", "(II)I"⟩ prog_1_method_30_code 3 (some .int) ∈ lw_tbl.filter hb_gdw := List.mem_filter.mpr ⟨List.mem_of_getElem? (i := 1055) rfl, rfl⟩
set_option maxRecDepth 100000 in
theorem hb_cd107 : Cond.code ⟨"HopeBank$Look", "townValue", "(I)I"⟩ prog_3_method_12_code 4 (some .int) ∈ lw_tbl.filter hb_gdw := List.mem_filter.mpr ⟨List.mem_of_getElem? (i := 1063) rfl, rfl⟩
set_option maxRecDepth 100000 in
theorem hb_cd108 : Cond.code ⟨"HopeBank", "all", "(I)I"⟩ prog_1_method_31_code 2 (some .int) ∈ lw_tbl.filter hb_gdw := List.mem_filter.mpr ⟨List.mem_of_getElem? (i := 1059) rfl, rfl⟩
set_option maxRecDepth 100000 in
theorem hb_cd109 : Cond.code ⟨"HopeBank", "stolen", "(I)I"⟩ prog_1_method_32_code 2 (some .int) ∈ lw_tbl.filter hb_gdw := List.mem_filter.mpr ⟨List.mem_of_getElem? (i := 1068) rfl, rfl⟩
set_option maxRecDepth 100000 in
theorem hb_cd110 : Cond.code ⟨"HopeBank", "takes", "(I)I"⟩ prog_1_method_33_code 2 (some .int) ∈ lw_tbl.filter hb_gdw := List.mem_filter.mpr ⟨List.mem_of_getElem? (i := 1073) rfl, rfl⟩
set_option maxRecDepth 100000 in
theorem hb_cd111 : Cond.code ⟨"HopeBank$Town", "worthOf", "(I)I"⟩ prog_11_method_6_code 4 (some .int) ∈ lw_tbl.filter hb_gdw := List.mem_filter.mpr ⟨List.mem_of_getElem? (i := 1081) rfl, rfl⟩
set_option maxRecDepth 100000 in
theorem hb_cd112 : Cond.code ⟨"HopeBank", "loss", "()I"⟩ prog_1_method_34_code 1 (some .int) ∈ lw_tbl.filter hb_gdw := List.mem_filter.mpr ⟨List.mem_of_getElem? (i := 1077) rfl, rfl⟩
set_option maxRecDepth 100000 in
theorem hb_cd113 : Cond.code ⟨"HopeBank", "got", "(I)I"⟩ prog_1_method_35_code 2 (some .int) ∈ lw_tbl.filter hb_gdw := List.mem_filter.mpr ⟨List.mem_of_getElem? (i := 1086) rfl, rfl⟩
set_option maxRecDepth 100000 in
theorem hb_cd114 : Cond.code ⟨"HopeBank", "out", "()I"⟩ prog_1_method_36_code 1 (some .int) ∈ lw_tbl.filter hb_gdw := List.mem_filter.mpr ⟨List.mem_of_getElem? (i := 1090) rfl, rfl⟩
set_option maxRecDepth 100000 in
theorem hb_cd115 : Cond.code ⟨"HopeBank$Look", "noisiest", "(I)I"⟩ prog_3_method_16_code 6 (some .int) ∈ lw_tbl.filter hb_gdw := List.mem_filter.mpr ⟨List.mem_of_getElem? (i := 1098) rfl, rfl⟩
set_option maxRecDepth 100000 in
theorem hb_cd116 : Cond.code ⟨"HopeBank", "loudest", "(I)I"⟩ prog_1_method_37_code 2 (some .int) ∈ lw_tbl.filter hb_gdw := List.mem_filter.mpr ⟨List.mem_of_getElem? (i := 1094) rfl, rfl⟩
set_option maxRecDepth 100000 in
theorem hb_cd117 : Cond.code ⟨"HopeBank$Look", "firstFull", "(I)I"⟩ prog_3_method_22_code 4 (some .int) ∈ lw_tbl.filter hb_gdw := List.mem_filter.mpr ⟨List.mem_of_getElem? (i := 1107) rfl, rfl⟩
set_option maxRecDepth 100000 in
theorem hb_cd118 : Cond.code ⟨"HopeBank", "full", "(I)I"⟩ prog_1_method_38_code 2 (some .int) ∈ lw_tbl.filter hb_gdw := List.mem_filter.mpr ⟨List.mem_of_getElem? (i := 1103) rfl, rfl⟩
set_option maxRecDepth 100000 in
theorem hb_cd119 : Cond.code ⟨"HopeBank", "best", "(I)I"⟩ prog_1_method_39_code 3 (some .int) ∈ lw_tbl.filter hb_gdw := List.mem_filter.mpr ⟨List.mem_of_getElem? (i := 1111) rfl, rfl⟩
set_option maxRecDepth 100000 in
theorem hb_cd120 : Cond.code ⟨"HopeBank$Trials", "wouldGoIn", "(II)I"⟩ prog_12_method_3_code 5 (some .int) ∈ lw_tbl.filter hb_gdw := List.mem_filter.mpr ⟨List.mem_of_getElem? (i := 1119) rfl, rfl⟩
set_option maxRecDepth 100000 in
theorem hb_cd121 : Cond.code ⟨"HopeBank", "may", "(II)I"⟩ prog_1_method_40_code 3 (some .int) ∈ lw_tbl.filter hb_gdw := List.mem_filter.mpr ⟨List.mem_of_getElem? (i := 1115) rfl, rfl⟩
set_option maxRecDepth 100000 in
theorem hb_cd122 : Cond.code ⟨"HopeBank$Trials", "toldInto", "(I)I"⟩ prog_12_method_5_code 4 (some .int) ∈ lw_tbl.filter hb_gdw := List.mem_filter.mpr ⟨List.mem_of_getElem? (i := 1134) rfl, rfl⟩
set_option maxRecDepth 100000 in
theorem hb_cd123 : Cond.code ⟨"HopeBank$Play", "giveRoom", "(II)V"⟩ prog_5_method_3_code 3 none ∈ lw_tbl.filter hb_gdw := List.mem_filter.mpr ⟨List.mem_of_getElem? (i := 1139) rfl, rfl⟩
set_option maxRecDepth 100000 in
theorem hb_cd124 : Cond.code ⟨"HopeBank$Trials", "leastRoom", "(I)I"⟩ prog_12_method_4_code 4 (some .int) ∈ lw_tbl.filter hb_gdw := List.mem_filter.mpr ⟨List.mem_of_getElem? (i := 1130) rfl, rfl⟩
set_option maxRecDepth 100000 in
theorem hb_cd125 : Cond.code ⟨"HopeBank", "needs", "(I)I"⟩ prog_1_method_41_code 2 (some .int) ∈ lw_tbl.filter hb_gdw := List.mem_filter.mpr ⟨List.mem_of_getElem? (i := 1126) rfl, rfl⟩
set_option maxRecDepth 100000 in
theorem hb_cd126 : Cond.code ⟨"HopeBank$Trials", "playWith", "(IZ)V"⟩ prog_12_method_2_code 3 none ∈ lw_tbl.filter hb_gdw := List.mem_filter.mpr ⟨List.mem_of_getElem? (i := 1151) rfl, rfl⟩
set_option maxRecDepth 100000 in
theorem hb_cd127 : Cond.code ⟨"HopeBank$Trials", "thiefToWard", "()I"⟩ prog_12_method_6_code 5 (some .int) ∈ lw_tbl.filter hb_gdw := List.mem_filter.mpr ⟨List.mem_of_getElem? (i := 1147) rfl, rfl⟩
set_option maxRecDepth 100000 in
theorem hb_cd128 : Cond.code ⟨"HopeBank", "ward", "()I"⟩ prog_1_method_42_code 1 (some .int) ∈ lw_tbl.filter hb_gdw := List.mem_filter.mpr ⟨List.mem_of_getElem? (i := 1143) rfl, rfl⟩
set_option maxRecDepth 100000 in
theorem hb_cd129 : Cond.code ⟨"java/lang/Integer", "numberOfTrailingZeros", "(I)I"⟩ prog_15_method_48_code 2 (some .int) ∈ lw_tbl.filter hb_gdw := List.mem_filter.mpr ⟨List.mem_of_getElem? (i := 1169) rfl, rfl⟩
set_option maxRecDepth 100000 in
theorem hb_cd130 : Cond.code ⟨"HopeBank$Sets", "fill", "()V"⟩ prog_7_method_2_code 4 none ∈ lw_tbl.filter hb_gdw := List.mem_filter.mpr ⟨List.mem_of_getElem? (i := 1165) rfl, rfl⟩
set_option maxRecDepth 100000 in
theorem hb_cd131 : Cond.code ⟨"HopeBank$Sets", "noGreaterThan", "(I)I"⟩ prog_7_method_5_code 4 (some .int) ∈ lw_tbl.filter hb_gdw := List.mem_filter.mpr ⟨List.mem_of_getElem? (i := 1184) rfl, rfl⟩
set_option maxRecDepth 100000 in
theorem hb_cd132 : Cond.code ⟨"HopeBank$Sets", "weightOf", "(I)I"⟩ prog_7_method_3_code 2 (some .int) ∈ lw_tbl.filter hb_gdw := List.mem_filter.mpr ⟨List.mem_of_getElem? (i := 1193) rfl, rfl⟩
set_option maxRecDepth 100000 in
theorem hb_cd133 : Cond.code ⟨"HopeBank$Packing", "spread", "(II)V"⟩ prog_4_method_5_code 7 none ∈ lw_tbl.filter hb_gdw := List.mem_filter.mpr ⟨List.mem_of_getElem? (i := 1188) rfl, rfl⟩
set_option maxRecDepth 100000 in
theorem hb_cd134 : Cond.code ⟨"HopeBank$Packing", "reach", "(I)V"⟩ prog_4_method_4_code 3 none ∈ lw_tbl.filter hb_gdw := List.mem_filter.mpr ⟨List.mem_of_getElem? (i := 1178) rfl, rfl⟩
set_option maxRecDepth 100000 in
theorem hb_cd135 : Cond.code ⟨"HopeBank$Sets", "worthOf", "(I)I"⟩ prog_7_method_4_code 2 (some .int) ∈ lw_tbl.filter hb_gdw := List.mem_filter.mpr ⟨List.mem_of_getElem? (i := 1197) rfl, rfl⟩
set_option maxRecDepth 100000 in
theorem hb_cd136 : Cond.code ⟨"HopeBank$Packing", "canBring", "(II)Z"⟩ prog_4_method_7_code 4 (some .boolean) ∈ lw_tbl.filter hb_gdw := List.mem_filter.mpr ⟨List.mem_of_getElem? (i := 1208) rfl, rfl⟩
set_option maxRecDepth 100000 in
theorem hb_cd137 : Cond.code ⟨"HopeBank$Packing", "fix", "(II)I"⟩ prog_4_method_6_code 9 (some .int) ∈ lw_tbl.filter hb_gdw := List.mem_filter.mpr ⟨List.mem_of_getElem? (i := 1203) rfl, rfl⟩
set_option maxRecDepth 100000 in
theorem hb_cd138 : Cond.code ⟨"HopeBank$Packing", "settle", "()V"⟩ prog_4_method_3_code 3 none ∈ lw_tbl.filter hb_gdw := List.mem_filter.mpr ⟨List.mem_of_getElem? (i := 1161) rfl, rfl⟩
set_option maxRecDepth 100000 in
theorem hb_cd139 : Cond.code ⟨"HopeBank", "packs", "()I"⟩ prog_1_method_43_code 1 (some .int) ∈ lw_tbl.filter hb_gdw := List.mem_filter.mpr ⟨List.mem_of_getElem? (i := 1157) rfl, rfl⟩
set_option maxRecDepth 100000 in
theorem hb_cd140 : Cond.code ⟨"HopeBank", "packed", "(I)I"⟩ prog_1_method_44_code 2 (some .int) ∈ lw_tbl.filter hb_gdw := List.mem_filter.mpr ⟨List.mem_of_getElem? (i := 1212) rfl, rfl⟩
set_option maxRecDepth 100000 in
theorem hb_cd141 : Cond.code ⟨"HopeBank", "most", "()I"⟩ prog_1_method_45_code 1 (some .int) ∈ lw_tbl.filter hb_gdw := List.mem_filter.mpr ⟨List.mem_of_getElem? (i := 1216) rfl, rfl⟩
set_option maxRecDepth 100000 in
theorem hb_cd142 : Cond.code ⟨"HopeBank$Hush", "fallsUnheard", "(II)Z"⟩ prog_2_method_4_code 7 (some .boolean) ∈ lw_tbl.filter hb_gdw := List.mem_filter.mpr ⟨List.mem_of_getElem? (i := 1233) rfl, rfl⟩
set_option maxRecDepth 100000 in
theorem hb_cd143 : Cond.code ⟨"HopeBank$Hush", "goOn", "(I)V"⟩ prog_2_method_3_code 7 none ∈ lw_tbl.filter hb_gdw := List.mem_filter.mpr ⟨List.mem_of_getElem? (i := 1229) rfl, rfl⟩
set_option maxRecDepth 100000 in
theorem hb_cd144 : Cond.code ⟨"HopeBank$Hush", "fill", "(I)V"⟩ prog_2_method_2_code 3 none ∈ lw_tbl.filter hb_gdw := List.mem_filter.mpr ⟨List.mem_of_getElem? (i := 1224) rfl, rfl⟩
set_option maxRecDepth 100000 in
theorem hb_cd145 : Cond.code ⟨"HopeBank", "unheard", "(I)I"⟩ prog_1_method_46_code 2 (some .int) ∈ lw_tbl.filter hb_gdw := List.mem_filter.mpr ⟨List.mem_of_getElem? (i := 1220) rfl, rfl⟩
set_option maxRecDepth 100000 in
theorem hb_cd146 : Cond.code ⟨"HopeBank$Hush", "nextBehind", "(I)I"⟩ prog_2_method_6_code 4 (some .int) ∈ lw_tbl.filter hb_gdw := List.mem_filter.mpr ⟨List.mem_of_getElem? (i := 1253) rfl, rfl⟩
set_option maxRecDepth 100000 in
theorem hb_cd147 : Cond.code ⟨"HopeBank$Hush", "hopeAt", "(I)I"⟩ prog_2_method_5_code 5 (some .int) ∈ lw_tbl.filter hb_gdw := List.mem_filter.mpr ⟨List.mem_of_getElem? (i := 1249) rfl, rfl⟩
set_option maxRecDepth 100000 in
theorem hb_cd148 : Cond.code ⟨"HopeBank", "order", "(II)I"⟩ prog_1_method_47_code 3 (some .int) ∈ lw_tbl.filter hb_gdw := List.mem_filter.mpr ⟨List.mem_of_getElem? (i := 1245) rfl, rfl⟩
set_option maxRecDepth 100000 in
theorem hb_cd149 : Cond.code ⟨"HopeBank", "rows", "(I)I"⟩ prog_1_method_48_code 2 (some .int) ∈ lw_tbl.filter hb_gdw := List.mem_filter.mpr ⟨List.mem_of_getElem? (i := 1257) rfl, rfl⟩
set_option maxRecDepth 100000 in
theorem hb_cd150 : Cond.code ⟨"HopeBank$Slots", "exists", "(I)Z"⟩ prog_8_method_2_code 2 (some .boolean) ∈ lw_tbl.filter hb_gdw := List.mem_filter.mpr ⟨List.mem_of_getElem? (i := 1269) rfl, rfl⟩
set_option maxRecDepth 100000 in
theorem hb_cd151 : Cond.code ⟨"HopeBank$Slots", "hasRow", "(I)Z"⟩ prog_8_method_3_code 2 (some .boolean) ∈ lw_tbl.filter hb_gdw := List.mem_filter.mpr ⟨List.mem_of_getElem? (i := 1274) rfl, rfl⟩
set_option maxRecDepth 100000 in
theorem hb_cd152 : Cond.code ⟨"HopeBank$Slots", "lengthOf", "(I)I"⟩ prog_8_method_5_code 2 (some .int) ∈ lw_tbl.filter hb_gdw := List.mem_filter.mpr ⟨List.mem_of_getElem? (i := 1283) rfl, rfl⟩
set_option maxRecDepth 100000 in
theorem hb_cd153 : Cond.code ⟨"HopeBank$Slots", "read", "(II)J"⟩ prog_8_method_10_code 3 (some .long) ∈ lw_tbl.filter hb_gdw := List.mem_filter.mpr ⟨List.mem_of_getElem? (i := 1288) rfl, rfl⟩
set_option maxRecDepth 100000 in
theorem hb_cd154 : Cond.code ⟨"HopeBank$Tilting", "tellsTilts", "(I)Z"⟩ prog_10_method_3_code 7 (some .boolean) ∈ lw_tbl.filter hb_gdw := List.mem_filter.mpr ⟨List.mem_of_getElem? (i := 1279) rfl, rfl⟩
set_option maxRecDepth 100000 in
theorem hb_cd155 : Cond.code ⟨"HopeBank$Tilting", "sift", "(II)V"⟩ prog_10_method_4_code 7 none ∈ lw_tbl.filter hb_gdw := List.mem_filter.mpr ⟨List.mem_of_getElem? (i := 1300) rfl, rfl⟩
set_option maxRecDepth 100000 in
theorem hb_cd156 : Cond.code ⟨"HopeBank$Tilting", "collect", "(II)I"⟩ prog_10_method_2_code 6 (some .int) ∈ lw_tbl.filter hb_gdw := List.mem_filter.mpr ⟨List.mem_of_getElem? (i := 1265) rfl, rfl⟩
set_option maxRecDepth 100000 in
theorem hb_cd157 : Cond.code ⟨"HopeBank", "tilts", "(II)I"⟩ prog_1_method_49_code 4 (some .int) ∈ lw_tbl.filter hb_gdw := List.mem_filter.mpr ⟨List.mem_of_getElem? (i := 1261) rfl, rfl⟩
set_option maxRecDepth 100000 in
theorem hb_cd158 : Cond.code ⟨"HopeBank$Tilting", "inEach", "()I"⟩ prog_10_method_5_code 3 (some .int) ∈ lw_tbl.filter hb_gdw := List.mem_filter.mpr ⟨List.mem_of_getElem? (i := 1310) rfl, rfl⟩
set_option maxRecDepth 100000 in
theorem hb_cd159 : Cond.code ⟨"HopeBank", "surely", "(II)I"⟩ prog_1_method_50_code 4 (some .int) ∈ lw_tbl.filter hb_gdw := List.mem_filter.mpr ⟨List.mem_of_getElem? (i := 1306) rfl, rfl⟩
set_option maxRecDepth 100000 in
theorem hb_cd160 : Cond.code ⟨"HopeBank$Tilting", "inNone", "()I"⟩ prog_10_method_6_code 3 (some .int) ∈ lw_tbl.filter hb_gdw := List.mem_filter.mpr ⟨List.mem_of_getElem? (i := 1318) rfl, rfl⟩
set_option maxRecDepth 100000 in
theorem hb_cd161 : Cond.code ⟨"HopeBank", "never", "(II)I"⟩ prog_1_method_51_code 4 (some .int) ∈ lw_tbl.filter hb_gdw := List.mem_filter.mpr ⟨List.mem_of_getElem? (i := 1314) rfl, rfl⟩
set_option maxRecDepth 100000 in
theorem hb_cd162 : Cond.code ⟨"HopeBank$Tilting", "leftAtWorst", "(I)I"⟩ prog_10_method_8_code 7 (some .int) ∈ lw_tbl.filter hb_gdw := List.mem_filter.mpr ⟨List.mem_of_getElem? (i := 1330) rfl, rfl⟩
set_option maxRecDepth 100000 in
theorem hb_cd163 : Cond.code ⟨"HopeBank$Tilting", "wisestTilt", "()I"⟩ prog_10_method_7_code 5 (some .int) ∈ lw_tbl.filter hb_gdw := List.mem_filter.mpr ⟨List.mem_of_getElem? (i := 1326) rfl, rfl⟩
set_option maxRecDepth 100000 in
theorem hb_cd164 : Cond.code ⟨"HopeBank", "ask", "(II)I"⟩ prog_1_method_52_code 4 (some .int) ∈ lw_tbl.filter hb_gdw := List.mem_filter.mpr ⟨List.mem_of_getElem? (i := 1322) rfl, rfl⟩
set_option maxRecDepth 100000 in
theorem hb_cd165 : Cond.code ⟨"HopeBank", "leaves", "(II)I"⟩ prog_1_method_53_code 4 (some .int) ∈ lw_tbl.filter hb_gdw := List.mem_filter.mpr ⟨List.mem_of_getElem? (i := 1336) rfl, rfl⟩
set_option maxRecDepth 100000 in
theorem hb_cd166 : Cond.code ⟨"HopeBank$Sets", "howManyWeigh", "(II)I"⟩ prog_7_method_6_code 5 (some .int) ∈ lw_tbl.filter hb_gdw := List.mem_filter.mpr ⟨List.mem_of_getElem? (i := 1346) rfl, rfl⟩
set_option maxRecDepth 100000 in
theorem hb_cd167 : Cond.code ⟨"HopeBank", "lighter", "(III)I"⟩ prog_1_method_54_code 4 (some .int) ∈ lw_tbl.filter hb_gdw := List.mem_filter.mpr ⟨List.mem_of_getElem? (i := 1341) rfl, rfl⟩
set_option maxRecDepth 100000 in
theorem hb_cd168 : Cond.code ⟨"HopeBank$Sets", "fewestThatWeigh", "(II)I"⟩ prog_7_method_7_code 6 (some .int) ∈ lw_tbl.filter hb_gdw := List.mem_filter.mpr ⟨List.mem_of_getElem? (i := 1354) rfl, rfl⟩
set_option maxRecDepth 100000 in
theorem hb_cd169 : Cond.code ⟨"HopeBank", "taken", "(III)I"⟩ prog_1_method_55_code 4 (some .int) ∈ lw_tbl.filter hb_gdw := List.mem_filter.mpr ⟨List.mem_of_getElem? (i := 1350) rfl, rfl⟩
set_option maxRecDepth 100000 in
theorem hb_cd170 : Cond.code ⟨"HopeBank", "lacksGame", "(II)Z"⟩ prog_1_method_75_code 3 (some .boolean) ∈ lw_tbl.filter hb_gdw := List.mem_filter.mpr ⟨List.mem_of_getElem? (i := 1364) rfl, rfl⟩
set_option maxRecDepth 100000 in
theorem hb_cd171 : Cond.code ⟨"HopeBank$Trials", "nightChosen", "(II)I"⟩ prog_12_method_7_code 3 (some .int) ∈ lw_tbl.filter hb_gdw := List.mem_filter.mpr ⟨List.mem_of_getElem? (i := 1376) rfl, rfl⟩
set_option maxRecDepth 100000 in
theorem hb_cd172 : Cond.code ⟨"HopeBank$Trials", "payOff", "(IIII)I"⟩ prog_12_method_8_code 7 (some .int) ∈ lw_tbl.filter hb_gdw := List.mem_filter.mpr ⟨List.mem_of_getElem? (i := 1372) rfl, rfl⟩
set_option maxRecDepth 100000 in
theorem hb_cd173 : Cond.code ⟨"HopeBank$Trials", "pairsAtRest", "(II)I"⟩ prog_12_method_9_code 8 (some .int) ∈ lw_tbl.filter hb_gdw := List.mem_filter.mpr ⟨List.mem_of_getElem? (i := 1368) rfl, rfl⟩
set_option maxRecDepth 100000 in
theorem hb_cd174 : Cond.code ⟨"HopeBank", "rests", "(II)I"⟩ prog_1_method_56_code 3 (some .int) ∈ lw_tbl.filter hb_gdw := List.mem_filter.mpr ⟨List.mem_of_getElem? (i := 1360) rfl, rfl⟩
set_option maxRecDepth 100000 in
theorem hb_cd175 : Cond.code ⟨"HopeBank", "gets", "(IIII)I"⟩ prog_1_method_57_code 5 (some .int) ∈ lw_tbl.filter hb_gdw := List.mem_filter.mpr ⟨List.mem_of_getElem? (i := 1382) rfl, rfl⟩
set_option maxRecDepth 100000 in
theorem hb_cd176 : Cond.code ⟨"HopeBank$Trials", "thievesTo", "(I)I"⟩ prog_12_method_14_code 4 (some .int) ∈ lw_tbl.filter hb_gdw := List.mem_filter.mpr ⟨List.mem_of_getElem? (i := 1400) rfl, rfl⟩
set_option maxRecDepth 100000 in
theorem hb_cd177 : Cond.code ⟨"HopeBank$Trials", "power", "(II)J"⟩ prog_12_method_15_code 5 (some .long) ∈ lw_tbl.filter hb_gdw := List.mem_filter.mpr ⟨List.mem_of_getElem? (i := 1405) rfl, rfl⟩
set_option maxRecDepth 100000 in
theorem hb_cd178 : Cond.code ⟨"HopeBank$Trials", "measure", "(III)I"⟩ prog_12_method_13_code 4 (some .int) ∈ lw_tbl.filter hb_gdw := List.mem_filter.mpr ⟨List.mem_of_getElem? (i := 1409) rfl, rfl⟩
set_option maxRecDepth 100000 in
theorem hb_cd179 : Cond.code ⟨"HopeBank$Trials", "weigh", "(III)V"⟩ prog_12_method_12_code 11 none ∈ lw_tbl.filter hb_gdw := List.mem_filter.mpr ⟨List.mem_of_getElem? (i := 1396) rfl, rfl⟩
set_option maxRecDepth 100000 in
theorem hb_cd180 : Cond.code ⟨"HopeBank$Trials", "weighHope", "(II)V"⟩ prog_12_method_10_code 3 none ∈ lw_tbl.filter hb_gdw := List.mem_filter.mpr ⟨List.mem_of_getElem? (i := 1392) rfl, rfl⟩
set_option maxRecDepth 100000 in
theorem hb_cd181 : Cond.code ⟨"HopeBank$Trials", "commonDivisor", "(JJ)J"⟩ prog_12_method_17_code 11 (some .long) ∈ lw_tbl.filter hb_gdw := List.mem_filter.mpr ⟨List.mem_of_getElem? (i := 1417) rfl, rfl⟩
set_option maxRecDepth 100000 in
theorem hb_cd182 : Cond.code ⟨"HopeBank$Trials", "fraction", "(I)I"⟩ prog_12_method_16_code 4 (some .int) ∈ lw_tbl.filter hb_gdw := List.mem_filter.mpr ⟨List.mem_of_getElem? (i := 1414) rfl, rfl⟩
set_option maxRecDepth 100000 in
theorem hb_cd183 : Cond.code ⟨"HopeBank", "chance", "(III)I"⟩ prog_1_method_58_code 4 (some .int) ∈ lw_tbl.filter hb_gdw := List.mem_filter.mpr ⟨List.mem_of_getElem? (i := 1388) rfl, rfl⟩
set_option maxRecDepth 100000 in
theorem hb_cd184 : Cond.code ⟨"HopeBank$Trials", "weighPig", "(II)V"⟩ prog_12_method_11_code 3 none ∈ lw_tbl.filter hb_gdw := List.mem_filter.mpr ⟨List.mem_of_getElem? (i := 1425) rfl, rfl⟩
set_option maxRecDepth 100000 in
theorem hb_cd185 : Cond.code ⟨"HopeBank", "mean", "(III)I"⟩ prog_1_method_59_code 4 (some .int) ∈ lw_tbl.filter hb_gdw := List.mem_filter.mpr ⟨List.mem_of_getElem? (i := 1421) rfl, rfl⟩
set_option maxRecDepth 100000 in
theorem hb_cd186 : Cond.code ⟨"HopeBank", "act", "(III)I"⟩ prog_1_method_77_code 5 (some .int) ∈ lw_tbl.filter hb_gdw := List.mem_filter.mpr ⟨List.mem_of_getElem? (i := 1433) rfl, rfl⟩
set_option maxRecDepth 100000 in
theorem hb_cd187 : Cond.code ⟨"HopeBank", "drops", "(III)I"⟩ prog_1_method_60_code 4 (some .int) ∈ lw_tbl.filter hb_gdw := List.mem_filter.mpr ⟨List.mem_of_getElem? (i := 1429) rfl, rfl⟩
set_option maxRecDepth 100000 in
theorem hb_cd188 : Cond.code ⟨"HopeBank", "breaks", "(II)I"⟩ prog_1_method_61_code 3 (some .int) ∈ lw_tbl.filter hb_gdw := List.mem_filter.mpr ⟨List.mem_of_getElem? (i := 1438) rfl, rfl⟩
set_option maxRecDepth 100000 in
theorem hb_cd189 : Cond.code ⟨"HopeBank$Table", "removeLast", "()V"⟩ prog_9_method_7_code 1 none ∈ lw_tbl.filter hb_gdw := List.mem_filter.mpr ⟨List.mem_of_getElem? (i := 1446) rfl, rfl⟩
set_option maxRecDepth 100000 in
theorem hb_cd190 : Cond.code ⟨"HopeBank", "undo", "()I"⟩ prog_1_method_62_code 1 (some .int) ∈ lw_tbl.filter hb_gdw := List.mem_filter.mpr ⟨List.mem_of_getElem? (i := 1442) rfl, rfl⟩
set_option maxRecDepth 100000 in
theorem hb_cd191 : Cond.code ⟨"HopeBank", "anew", "()I"⟩ prog_1_method_63_code 2 (some .int) ∈ lw_tbl.filter hb_gdw := List.mem_filter.mpr ⟨List.mem_of_getElem? (i := 1450) rfl, rfl⟩
set_option maxRecDepth 100000 in
theorem hb_cd192 : Cond.code ⟨"HopeBank$Trials", "comers", "(I)I"⟩ prog_12_method_18_code 7 (some .int) ∈ lw_tbl.filter hb_gdw := List.mem_filter.mpr ⟨List.mem_of_getElem? (i := 1460) rfl, rfl⟩
set_option maxRecDepth 100000 in
theorem hb_cd193 : Cond.code ⟨"HopeBank$Trials", "valueDrawn", "(I)I"⟩ prog_12_method_19_code 2 (some .int) ∈ lw_tbl.filter hb_gdw := List.mem_filter.mpr ⟨List.mem_of_getElem? (i := 1469) rfl, rfl⟩
set_option maxRecDepth 100000 in
theorem hb_cd194 : Cond.code ⟨"HopeBank", "drawn", "(II)I"⟩ prog_1_method_64_code 3 (some .int) ∈ lw_tbl.filter hb_gdw := List.mem_filter.mpr ⟨List.mem_of_getElem? (i := 1455) rfl, rfl⟩
set_option maxRecDepth 100000 in
theorem hb_cd195 : Cond.code ⟨"HopeBank$Trials", "yearsStolen", "(III)I"⟩ prog_12_method_20_code 6 (some .int) ∈ lw_tbl.filter hb_gdw := List.mem_filter.mpr ⟨List.mem_of_getElem? (i := 1478) rfl, rfl⟩
set_option maxRecDepth 100000 in
theorem hb_cd196 : Cond.code ⟨"HopeBank", "luck", "(III)I"⟩ prog_1_method_65_code 4 (some .int) ∈ lw_tbl.filter hb_gdw := List.mem_filter.mpr ⟨List.mem_of_getElem? (i := 1474) rfl, rfl⟩
set_option maxRecDepth 100000 in
theorem hb_cd197 : Cond.code ⟨"HopeBank", "rate", "(II)I"⟩ prog_1_method_66_code 4 (some .int) ∈ lw_tbl.filter hb_gdw := List.mem_filter.mpr ⟨List.mem_of_getElem? (i := 1483) rfl, rfl⟩
set_option maxRecDepth 100000 in
theorem hb_cd198 : Cond.code ⟨"HopeBank$Slots", "howManyHaveRows", "()I"⟩ prog_8_method_6_code 3 (some .int) ∈ lw_tbl.filter hb_gdw := List.mem_filter.mpr ⟨List.mem_of_getElem? (i := 1492) rfl, rfl⟩
set_option maxRecDepth 100000 in
theorem hb_cd199 : Cond.code ⟨"HopeBank", "count", "(I)I"⟩ prog_1_method_67_code 2 (some .int) ∈ lw_tbl.filter hb_gdw := List.mem_filter.mpr ⟨List.mem_of_getElem? (i := 1488) rfl, rfl⟩
set_option maxRecDepth 100000 in
theorem hb_cd200 : Cond.code ⟨"HopeBank", "imageOf", "(I)LHopeBank$Town;"⟩ prog_1_method_76_code 2 (some (.object "HopeBank$Town")) ∈ lw_tbl.filter hb_gdw := List.mem_filter.mpr ⟨List.mem_of_getElem? (i := 1500) rfl, rfl⟩
set_option maxRecDepth 100000 in
theorem hb_cd201 : Cond.code ⟨"HopeBank", "image", "(I)I"⟩ prog_1_method_68_code 3 (some .int) ∈ lw_tbl.filter hb_gdw := List.mem_filter.mpr ⟨List.mem_of_getElem? (i := 1496) rfl, rfl⟩
set_option maxRecDepth 100000 in
theorem hb_cd202 : Cond.code ⟨"HopeBank", "back", "(I)I"⟩ prog_1_method_69_code 3 (some .int) ∈ lw_tbl.filter hb_gdw := List.mem_filter.mpr ⟨List.mem_of_getElem? (i := 1504) rfl, rfl⟩
set_option maxRecDepth 100000 in
theorem hb_cd203 : Cond.code ⟨"java/util/Arrays", "fill", "([JJ)V"⟩ prog_21_method_101_code 5 none ∈ lw_tbl.filter hb_gdw := List.mem_filter.mpr ⟨List.mem_of_getElem? (i := 1517) rfl, rfl⟩
set_option maxRecDepth 100000 in
theorem hb_cd204 : Cond.code ⟨"HopeBank$Slots", "lay", "(III)V"⟩ prog_8_method_7_code 4 none ∈ lw_tbl.filter hb_gdw := List.mem_filter.mpr ⟨List.mem_of_getElem? (i := 1514) rfl, rfl⟩
set_option maxRecDepth 100000 in
theorem hb_cd205 : Cond.code ⟨"HopeBank", "row", "(III)I"⟩ prog_1_method_70_code 4 (some .int) ∈ lw_tbl.filter hb_gdw := List.mem_filter.mpr ⟨List.mem_of_getElem? (i := 1509) rfl, rfl⟩
set_option maxRecDepth 100000 in
theorem hb_cd206 : Cond.code ⟨"HopeBank$Slots", "widthOf", "(I)I"⟩ prog_8_method_4_code 2 (some .int) ∈ lw_tbl.filter hb_gdw := List.mem_filter.mpr ⟨List.mem_of_getElem? (i := 1531) rfl, rfl⟩
set_option maxRecDepth 100000 in
theorem hb_cd207 : Cond.code ⟨"HopeBank$Slots", "cut", "(JI)J"⟩ prog_8_method_9_code 3 (some .long) ∈ lw_tbl.filter hb_gdw := List.mem_filter.mpr ⟨List.mem_of_getElem? (i := 1534) rfl, rfl⟩
set_option maxRecDepth 100000 in
theorem hb_cd208 : Cond.code ⟨"HopeBank$Slots", "put", "(IIJ)Z"⟩ prog_8_method_8_code 5 (some .boolean) ∈ lw_tbl.filter hb_gdw := List.mem_filter.mpr ⟨List.mem_of_getElem? (i := 1527) rfl, rfl⟩
set_option maxRecDepth 100000 in
theorem hb_cd209 : Cond.code ⟨"HopeBank", "write", "(IIJ)I"⟩ prog_1_method_71_code 5 (some .int) ∈ lw_tbl.filter hb_gdw := List.mem_filter.mpr ⟨List.mem_of_getElem? (i := 1522) rfl, rfl⟩
set_option maxRecDepth 100000 in
theorem hb_cd210 : Cond.code ⟨"HopeBank$Slots", "holds", "(III)Z"⟩ prog_8_method_11_code 4 (some .boolean) ∈ lw_tbl.filter hb_gdw := List.mem_filter.mpr ⟨List.mem_of_getElem? (i := 1543) rfl, rfl⟩
set_option maxRecDepth 100000 in
theorem hb_cd211 : Cond.code ⟨"HopeBank$Slots", "move", "(IIIII)V"⟩ prog_8_method_12_code 6 none ∈ lw_tbl.filter hb_gdw := List.mem_filter.mpr ⟨List.mem_of_getElem? (i := 1547) rfl, rfl⟩
set_option maxRecDepth 100000 in
theorem hb_cd212 : Cond.code ⟨"HopeBank", "paste", "(IIIII)I"⟩ prog_1_method_72_code 6 (some .int) ∈ lw_tbl.filter hb_gdw := List.mem_filter.mpr ⟨List.mem_of_getElem? (i := 1538) rfl, rfl⟩
set_option maxRecDepth 100000 in
theorem hb_cd213 : Cond.code ⟨"HopeBankModel", "in", "(JJJ)Z"⟩ prog_14_method_3_code 6 (some .boolean) ∈ lw_tbl.filter hb_gdw := List.mem_filter.mpr ⟨List.mem_of_getElem? (i := 1702) rfl, rfl⟩
set_option maxRecDepth 100000 in
theorem hb_cd214 : Cond.code ⟨"HopeBankModel", "image", "(I)I"⟩ prog_14_method_6_code 3 (some .int) ∈ lw_tbl.filter hb_gdw := List.mem_filter.mpr ⟨List.mem_of_getElem? (i := 1698) rfl, rfl⟩
set_option maxRecDepth 100000 in
theorem hb_cd215 : Cond.code ⟨"HopeBankModel", "back", "(I)I"⟩ prog_14_method_7_code 3 (some .int) ∈ lw_tbl.filter hb_gdw := List.mem_filter.mpr ⟨List.mem_of_getElem? (i := 1706) rfl, rfl⟩
set_option maxRecDepth 100000 in
theorem hb_cd216 : Cond.code ⟨"HopeBankModel", "feed", "(IIIII)I"⟩ prog_14_method_17_code 7 (some .int) ∈ lw_tbl.filter hb_gdw := List.mem_filter.mpr ⟨List.mem_of_getElem? (i := 1710) rfl, rfl⟩
set_option maxRecDepth 100000 in
theorem hb_cd217 : Cond.code ⟨"HopeBankModel", "end", "(I)I"⟩ prog_14_method_18_code 2 (some .int) ∈ lw_tbl.filter hb_gdw := List.mem_filter.mpr ⟨List.mem_of_getElem? (i := 1714) rfl, rfl⟩
set_option maxRecDepth 100000 in
theorem hb_cd218 : Cond.code ⟨"HopeBankModel", "asItIs", "()V"⟩ prog_14_method_41_code 2 none ∈ lw_tbl.filter hb_gdw := List.mem_filter.mpr ⟨List.mem_of_getElem? (i := 1848) rfl, rfl⟩
set_option maxRecDepth 100000 in
theorem hb_cd219 : Cond.code ⟨"HopeBankModel", "nights", "()I"⟩ prog_14_method_12_code 1 (some .int) ∈ lw_tbl.filter hb_gdw := List.mem_filter.mpr ⟨List.mem_of_getElem? (i := 1856) rfl, rfl⟩
set_option maxRecDepth 100000 in
theorem hb_cd220 : Cond.code ⟨"HopeBankModel", "withinNow", "(I)I"⟩ prog_14_method_42_code 4 (some .int) ∈ lw_tbl.filter hb_gdw := List.mem_filter.mpr ⟨List.mem_of_getElem? (i := 1868) rfl, rfl⟩
set_option maxRecDepth 100000 in
theorem hb_cd221 : Cond.code ⟨"HopeBankModel", "sizeOf", "(I)I"⟩ prog_14_method_13_code 2 (some .int) ∈ lw_tbl.filter hb_gdw := List.mem_filter.mpr ⟨List.mem_of_getElem? (i := 1876) rfl, rfl⟩
set_option maxRecDepth 100000 in
theorem hb_cd222 : Cond.code ⟨"HopeBankModel", "slotOf", "(I)I"⟩ prog_14_method_16_code 2 (some .int) ∈ lw_tbl.filter hb_gdw := List.mem_filter.mpr ⟨List.mem_of_getElem? (i := 1880) rfl, rfl⟩
set_option maxRecDepth 100000 in
theorem hb_cd223 : Cond.code ⟨"HopeBankModel", "bit", "(II)I"⟩ prog_14_method_5_code 2 (some .int) ∈ lw_tbl.filter hb_gdw := List.mem_filter.mpr ⟨List.mem_of_getElem? (i := 1887) rfl, rfl⟩
set_option maxRecDepth 100000 in
theorem hb_cd224 : Cond.code ⟨"HopeBankModel", "sizeIn", "(I)I"⟩ prog_14_method_43_code 4 (some .int) ∈ lw_tbl.filter hb_gdw := List.mem_filter.mpr ⟨List.mem_of_getElem? (i := 1884) rfl, rfl⟩
set_option maxRecDepth 100000 in
theorem hb_cd225 : Cond.code ⟨"HopeBankModel", "doesFit", "(IIII)Z"⟩ prog_14_method_44_code 5 (some .boolean) ∈ lw_tbl.filter hb_gdw := List.mem_filter.mpr ⟨List.mem_of_getElem? (i := 1872) rfl, rfl⟩
set_option maxRecDepth 100000 in
theorem hb_cd226 : Cond.code ⟨"HopeBankModel", "loudOf", "(I)I"⟩ prog_14_method_14_code 2 (some .int) ∈ lw_tbl.filter hb_gdw := List.mem_filter.mpr ⟨List.mem_of_getElem? (i := 1895) rfl, rfl⟩
set_option maxRecDepth 100000 in
theorem hb_cd227 : Cond.code ⟨"HopeBankModel", "bits", "(I)I"⟩ prog_14_method_4_code 3 (some .int) ∈ lw_tbl.filter hb_gdw := List.mem_filter.mpr ⟨List.mem_of_getElem? (i := 1898) rfl, rfl⟩
set_option maxRecDepth 100000 in
theorem hb_cd228 : Cond.code ⟨"HopeBankModel", "heardBy", "(III)I"⟩ prog_14_method_45_code 5 (some .int) ∈ lw_tbl.filter hb_gdw := List.mem_filter.mpr ⟨List.mem_of_getElem? (i := 1891) rfl, rfl⟩
set_option maxRecDepth 100000 in
theorem hb_cd229 : Cond.code ⟨"HopeBankModel", "goDrop", "(III)Z"⟩ prog_14_method_46_code 5 (some .boolean) ∈ lw_tbl.filter hb_gdw := List.mem_filter.mpr ⟨List.mem_of_getElem? (i := 1864) rfl, rfl⟩
set_option maxRecDepth 100000 in
theorem hb_cd230 : Cond.code ⟨"HopeBankModel", "goDrops", "(I)V"⟩ prog_14_method_47_code 5 none ∈ lw_tbl.filter hb_gdw := List.mem_filter.mpr ⟨List.mem_of_getElem? (i := 1860) rfl, rfl⟩
set_option maxRecDepth 100000 in
theorem hb_cd231 : Cond.code ⟨"HopeBankModel", "goThieves", "(I)V"⟩ prog_14_method_48_code 8 none ∈ lw_tbl.filter hb_gdw := List.mem_filter.mpr ⟨List.mem_of_getElem? (i := 1904) rfl, rfl⟩
set_option maxRecDepth 100000 in
theorem hb_cd232 : Cond.code ⟨"HopeBankModel", "goBreaks", "(I)V"⟩ prog_14_method_49_code 7 none ∈ lw_tbl.filter hb_gdw := List.mem_filter.mpr ⟨List.mem_of_getElem? (i := 1908) rfl, rfl⟩
set_option maxRecDepth 100000 in
theorem hb_cd233 : Cond.code ⟨"HopeBankModel", "goAll", "()V"⟩ prog_14_method_50_code 3 none ∈ lw_tbl.filter hb_gdw := List.mem_filter.mpr ⟨List.mem_of_getElem? (i := 1852) rfl, rfl⟩
set_option maxRecDepth 100000 in
theorem hb_cd234 : Cond.code ⟨"HopeBankModel", "isTown", "()Z"⟩ prog_14_method_8_code 1 (some .boolean) ∈ lw_tbl.filter hb_gdw := List.mem_filter.mpr ⟨List.mem_of_getElem? (i := 1912) rfl, rfl⟩
set_option maxRecDepth 100000 in
theorem hb_cd235 : Cond.code ⟨"HopeBankModel", "asksTown", "()Z"⟩ prog_14_method_51_code 1 (some .boolean) ∈ lw_tbl.filter hb_gdw := List.mem_filter.mpr ⟨List.mem_of_getElem? (i := 1844) rfl, rfl⟩
set_option maxRecDepth 100000 in
theorem hb_cd236 : Cond.code ⟨"HopeBankModel", "takes", "(I)I"⟩ prog_14_method_86_code 2 (some .int) ∈ lw_tbl.filter hb_gdw := List.mem_filter.mpr ⟨List.mem_of_getElem? (i := 2053) rfl, rfl⟩
set_option maxRecDepth 100000 in
theorem hb_cd237 : Cond.code ⟨"HopeBankModel", "isPig", "(I)Z"⟩ prog_14_method_10_code 2 (some .boolean) ∈ lw_tbl.filter hb_gdw := List.mem_filter.mpr ⟨List.mem_of_getElem? (i := 1820) rfl, rfl⟩
set_option maxRecDepth 100000 in
theorem hb_cd238 : Cond.code ⟨"HopeBankModel", "doAllGo", "(I)Z"⟩ prog_14_method_94_code 3 (some .boolean) ∈ lw_tbl.filter hb_gdw := List.mem_filter.mpr ⟨List.mem_of_getElem? (i := 2093) rfl, rfl⟩
set_option maxRecDepth 100000 in
theorem hb_cd239 : Cond.code ⟨"HopeBankModel", "needs", "(I)I"⟩ prog_14_method_95_code 3 (some .int) ∈ lw_tbl.filter hb_gdw := List.mem_filter.mpr ⟨List.mem_of_getElem? (i := 2089) rfl, rfl⟩
set_option maxRecDepth 100000 in
theorem hb_cd240 : Cond.code ⟨"HopeBankModel", "fault", "(I)I"⟩ prog_14_method_28_code 2 (some .int) ∈ lw_tbl.filter hb_gdw := List.mem_filter.mpr ⟨List.mem_of_getElem? (i := 1718) rfl, rfl⟩
set_option maxRecDepth 100000 in
theorem hb_cd241 : Cond.code ⟨"HopeBankModel", "see", "(I)I"⟩ prog_14_method_19_code 2 (some .int) ∈ lw_tbl.filter hb_gdw := List.mem_filter.mpr ⟨List.mem_of_getElem? (i := 1730) rfl, rfl⟩
set_option maxRecDepth 100000 in
theorem hb_cd242 : Cond.code ⟨"HopeBankModel", "advance", "()V"⟩ prog_14_method_20_code 2 none ∈ lw_tbl.filter hb_gdw := List.mem_filter.mpr ⟨List.mem_of_getElem? (i := 1726) rfl, rfl⟩
set_option maxRecDepth 100000 in
theorem hb_cd243 : Cond.code ⟨"HopeBankModel", "good", "()Z"⟩ prog_14_method_21_code 1 (some .boolean) ∈ lw_tbl.filter hb_gdw := List.mem_filter.mpr ⟨List.mem_of_getElem? (i := 1740) rfl, rfl⟩
set_option maxRecDepth 100000 in
theorem hb_cd244 : Cond.code ⟨"HopeBankModel", "is", "(Ljava/lang/String;)Z"⟩ prog_14_method_23_code 4 (some .boolean) ∈ lw_tbl.filter hb_gdw := List.mem_filter.mpr ⟨List.mem_of_getElem? (i := 1761) rfl, rfl⟩
set_option maxRecDepth 100000 in
theorem hb_cd245 : Cond.code ⟨"HopeBankModel", "takes", "(Ljava/lang/String;)Z"⟩ prog_14_method_24_code 3 (some .boolean) ∈ lw_tbl.filter hb_gdw := List.mem_filter.mpr ⟨List.mem_of_getElem? (i := 1757) rfl, rfl⟩
set_option maxRecDepth 100000 in
theorem hb_cd246 : Cond.code ⟨"HopeBankModel", "errs", "(I)V"⟩ prog_14_method_22_code 2 none ∈ lw_tbl.filter hb_gdw := List.mem_filter.mpr ⟨List.mem_of_getElem? (i := 1767) rfl, rfl⟩
set_option maxRecDepth 100000 in
theorem hb_cd247 : Cond.code ⟨"HopeBankModel", "needs", "(Ljava/lang/String;)V"⟩ prog_14_method_25_code 2 none ∈ lw_tbl.filter hb_gdw := List.mem_filter.mpr ⟨List.mem_of_getElem? (i := 1753) rfl, rfl⟩
set_option maxRecDepth 100000 in
theorem hb_cd248 : Cond.code ⟨"HopeBankModel", "number", "(II)I"⟩ prog_14_method_26_code 4 (some .int) ∈ lw_tbl.filter hb_gdw := List.mem_filter.mpr ⟨List.mem_of_getElem? (i := 1776) rfl, rfl⟩
set_option maxRecDepth 100000 in
theorem hb_cd249 : Cond.code ⟨"HopeBankModel", "told", "(Ljava/lang/String;II)I"⟩ prog_14_method_27_code 4 (some .int) ∈ lw_tbl.filter hb_gdw := List.mem_filter.mpr ⟨List.mem_of_getElem? (i := 1772) rfl, rfl⟩
set_option maxRecDepth 100000 in
theorem hb_cd250 : Cond.code ⟨"HopeBankModel", "readFirst", "()V"⟩ prog_14_method_29_code 1 none ∈ lw_tbl.filter hb_gdw := List.mem_filter.mpr ⟨List.mem_of_getElem? (i := 1748) rfl, rfl⟩
set_option maxRecDepth 100000 in
theorem hb_cd251 : Cond.code ⟨"HopeBankModel", "readLine", "()V"⟩ prog_14_method_35_code 1 none ∈ lw_tbl.filter hb_gdw := List.mem_filter.mpr ⟨List.mem_of_getElem? (i := 1744) rfl, rfl⟩
set_option maxRecDepth 100000 in
theorem hb_cd252 : Cond.code ⟨"HopeBankModel", "isFull", "()Z"⟩ prog_14_method_33_code 1 (some .boolean) ∈ lw_tbl.filter hb_gdw := List.mem_filter.mpr ⟨List.mem_of_getElem? (i := 1791) rfl, rfl⟩
set_option maxRecDepth 100000 in
theorem hb_cd253 : Cond.code ⟨"HopeBankModel", "readThief", "()V"⟩ prog_14_method_32_code 2 none ∈ lw_tbl.filter hb_gdw := List.mem_filter.mpr ⟨List.mem_of_getElem? (i := 1810) rfl, rfl⟩
set_option maxRecDepth 100000 in
theorem hb_cd254 : Cond.code ⟨"HopeBankModel", "readDrop", "()V"⟩ prog_14_method_31_code 2 none ∈ lw_tbl.filter hb_gdw := List.mem_filter.mpr ⟨List.mem_of_getElem? (i := 1804) rfl, rfl⟩
set_option maxRecDepth 100000 in
theorem hb_cd255 : Cond.code ⟨"HopeBankModel", "readHope", "()V"⟩ prog_14_method_30_code 2 none ∈ lw_tbl.filter hb_gdw := List.mem_filter.mpr ⟨List.mem_of_getElem? (i := 1797) rfl, rfl⟩
set_option maxRecDepth 100000 in
theorem hb_cd256 : Cond.code ⟨"HopeBankModel", "readNext", "()V"⟩ prog_14_method_34_code 3 none ∈ lw_tbl.filter hb_gdw := List.mem_filter.mpr ⟨List.mem_of_getElem? (i := 1783) rfl, rfl⟩
set_option maxRecDepth 100000 in
theorem hb_cd257 : Cond.code ⟨"HopeBankModel", "town", "()I"⟩ prog_14_method_36_code 2 (some .int) ∈ lw_tbl.filter hb_gdw := List.mem_filter.mpr ⟨List.mem_of_getElem? (i := 1722) rfl, rfl⟩
set_option maxRecDepth 100000 in
theorem hb_cd258 : Cond.code ⟨"HopeBankModel", "pig", "(II)I"⟩ prog_14_method_37_code 3 (some .int) ∈ lw_tbl.filter hb_gdw := List.mem_filter.mpr ⟨List.mem_of_getElem? (i := 1816) rfl, rfl⟩
set_option maxRecDepth 100000 in
theorem hb_cd259 : Cond.code ⟨"HopeBankModel", "isHope", "(I)Z"⟩ prog_14_method_11_code 2 (some .boolean) ∈ lw_tbl.filter hb_gdw := List.mem_filter.mpr ⟨List.mem_of_getElem? (i := 1828) rfl, rfl⟩
set_option maxRecDepth 100000 in
theorem hb_cd260 : Cond.code ⟨"HopeBankModel", "hope", "(II)I"⟩ prog_14_method_38_code 3 (some .int) ∈ lw_tbl.filter hb_gdw := List.mem_filter.mpr ⟨List.mem_of_getElem? (i := 1824) rfl, rfl⟩
set_option maxRecDepth 100000 in
theorem hb_cd261 : Cond.code ⟨"HopeBankModel", "drop", "(II)I"⟩ prog_14_method_39_code 3 (some .int) ∈ lw_tbl.filter hb_gdw := List.mem_filter.mpr ⟨List.mem_of_getElem? (i := 1832) rfl, rfl⟩
set_option maxRecDepth 100000 in
theorem hb_cd262 : Cond.code ⟨"HopeBankModel", "thief", "(II)I"⟩ prog_14_method_40_code 3 (some .int) ∈ lw_tbl.filter hb_gdw := List.mem_filter.mpr ⟨List.mem_of_getElem? (i := 1836) rfl, rfl⟩
set_option maxRecDepth 100000 in
theorem hb_cd263 : Cond.code ⟨"HopeBankModel", "misses", "()I"⟩ prog_14_method_62_code 1 (some .int) ∈ lw_tbl.filter hb_gdw := List.mem_filter.mpr ⟨List.mem_of_getElem? (i := 1840) rfl, rfl⟩
set_option maxRecDepth 100000 in
theorem hb_cd264 : Cond.code ⟨"HopeBankModel", "silent", "()I"⟩ prog_14_method_63_code 3 (some .int) ∈ lw_tbl.filter hb_gdw := List.mem_filter.mpr ⟨List.mem_of_getElem? (i := 1916) rfl, rfl⟩
set_option maxRecDepth 100000 in
theorem hb_cd265 : Cond.code ⟨"HopeBankModel", "isNight", "(I)Z"⟩ prog_14_method_9_code 2 (some .boolean) ∈ lw_tbl.filter hb_gdw := List.mem_filter.mpr ⟨List.mem_of_getElem? (i := 1928) rfl, rfl⟩
set_option maxRecDepth 100000 in
theorem hb_cd266 : Cond.code ⟨"HopeBankModel", "asksNight", "(I)Z"⟩ prog_14_method_52_code 2 (some .boolean) ∈ lw_tbl.filter hb_gdw := List.mem_filter.mpr ⟨List.mem_of_getElem? (i := 1924) rfl, rfl⟩
set_option maxRecDepth 100000 in
theorem hb_cd267 : Cond.code ⟨"HopeBankModel", "setAt", "(II)I"⟩ prog_14_method_55_code 5 (some .int) ∈ lw_tbl.filter hb_gdw := List.mem_filter.mpr ⟨List.mem_of_getElem? (i := 1932) rfl, rfl⟩
set_option maxRecDepth 100000 in
theorem hb_cd268 : Cond.code ⟨"HopeBankModel", "empties", "(I)I"⟩ prog_14_method_64_code 4 (some .int) ∈ lw_tbl.filter hb_gdw := List.mem_filter.mpr ⟨List.mem_of_getElem? (i := 1920) rfl, rfl⟩
set_option maxRecDepth 100000 in
theorem hb_cd269 : Cond.code ⟨"HopeBankModel", "heavy", "(I)I"⟩ prog_14_method_65_code 6 (some .int) ∈ lw_tbl.filter hb_gdw := List.mem_filter.mpr ⟨List.mem_of_getElem? (i := 1936) rfl, rfl⟩
set_option maxRecDepth 100000 in
theorem hb_cd270 : Cond.code ⟨"HopeBankModel", "oldest", "(II)I"⟩ prog_14_method_66_code 6 (some .int) ∈ lw_tbl.filter hb_gdw := List.mem_filter.mpr ⟨List.mem_of_getElem? (i := 1940) rfl, rfl⟩
set_option maxRecDepth 100000 in
theorem hb_cd271 : Cond.code ⟨"HopeBankModel", "small", "(II)I"⟩ prog_14_method_67_code 6 (some .int) ∈ lw_tbl.filter hb_gdw := List.mem_filter.mpr ⟨List.mem_of_getElem? (i := 1944) rfl, rfl⟩
set_option maxRecDepth 100000 in
theorem hb_cd272 : Cond.code ⟨"HopeBankModel", "worthOf", "(I)I"⟩ prog_14_method_15_code 2 (some .int) ∈ lw_tbl.filter hb_gdw := List.mem_filter.mpr ⟨List.mem_of_getElem? (i := 1956) rfl, rfl⟩
set_option maxRecDepth 100000 in
theorem hb_cd273 : Cond.code ⟨"HopeBankModel", "richOf", "(II)I"⟩ prog_14_method_56_code 3 (some .int) ∈ lw_tbl.filter hb_gdw := List.mem_filter.mpr ⟨List.mem_of_getElem? (i := 1952) rfl, rfl⟩
set_option maxRecDepth 100000 in
theorem hb_cd274 : Cond.code ⟨"HopeBankModel", "rich", "(II)I"⟩ prog_14_method_68_code 3 (some .int) ∈ lw_tbl.filter hb_gdw := List.mem_filter.mpr ⟨List.mem_of_getElem? (i := 1948) rfl, rfl⟩
set_option maxRecDepth 100000 in
theorem hb_cd275 : Cond.code ⟨"HopeBankModel", "crowd", "()I"⟩ prog_14_method_69_code 4 (some .int) ∈ lw_tbl.filter hb_gdw := List.mem_filter.mpr ⟨List.mem_of_getElem? (i := 1960) rfl, rfl⟩
set_option maxRecDepth 100000 in
theorem hb_cd276 : Cond.code ⟨"HopeBankModel", "asksPig", "(I)Z"⟩ prog_14_method_53_code 2 (some .boolean) ∈ lw_tbl.filter hb_gdw := List.mem_filter.mpr ⟨List.mem_of_getElem? (i := 1968) rfl, rfl⟩
set_option maxRecDepth 100000 in
theorem hb_cd277 : Cond.code ⟨"HopeBankModel", "loud", "(I)I"⟩ prog_14_method_70_code 4 (some .int) ∈ lw_tbl.filter hb_gdw := List.mem_filter.mpr ⟨List.mem_of_getElem? (i := 1964) rfl, rfl⟩
set_option maxRecDepth 100000 in
theorem hb_cd278 : Cond.code ⟨"HopeBankModel", "valueOf", "(II)I"⟩ prog_14_method_57_code 5 (some .int) ∈ lw_tbl.filter hb_gdw := List.mem_filter.mpr ⟨List.mem_of_getElem? (i := 1980) rfl, rfl⟩
set_option maxRecDepth 100000 in
theorem hb_cd279 : Cond.code ⟨"HopeBankModel", "bestNight", "(I)I"⟩ prog_14_method_71_code 4 (some .int) ∈ lw_tbl.filter hb_gdw := List.mem_filter.mpr ⟨List.mem_of_getElem? (i := 1976) rfl, rfl⟩
set_option maxRecDepth 100000 in
theorem hb_cd280 : Cond.code ⟨"HopeBankModel", "gains", "(I)I"⟩ prog_14_method_72_code 2 (some .int) ∈ lw_tbl.filter hb_gdw := List.mem_filter.mpr ⟨List.mem_of_getElem? (i := 1972) rfl, rfl⟩
set_option maxRecDepth 100000 in
theorem hb_cd281 : Cond.code ⟨"HopeBankModel", "leftOf", "(II)I"⟩ prog_14_method_59_code 3 (some .int) ∈ lw_tbl.filter hb_gdw := List.mem_filter.mpr ⟨List.mem_of_getElem? (i := 1989) rfl, rfl⟩
set_option maxRecDepth 100000 in
theorem hb_cd282 : Cond.code ⟨"HopeBankModel", "tight", "(I)I"⟩ prog_14_method_73_code 4 (some .int) ∈ lw_tbl.filter hb_gdw := List.mem_filter.mpr ⟨List.mem_of_getElem? (i := 1984) rfl, rfl⟩
set_option maxRecDepth 100000 in
theorem hb_cd283 : Cond.code ⟨"HopeBankModel", "victims", "()I"⟩ prog_14_method_74_code 1 (some .int) ∈ lw_tbl.filter hb_gdw := List.mem_filter.mpr ⟨List.mem_of_getElem? (i := 1993) rfl, rfl⟩
set_option maxRecDepth 100000 in
theorem hb_cd284 : Cond.code ⟨"HopeBankModel", "within", "(II)I"⟩ prog_14_method_75_code 3 (some .int) ∈ lw_tbl.filter hb_gdw := List.mem_filter.mpr ⟨List.mem_of_getElem? (i := 1997) rfl, rfl⟩
set_option maxRecDepth 100000 in
theorem hb_cd285 : Cond.code ⟨"HopeBankModel", "where", "(II)I"⟩ prog_14_method_76_code 3 (some .int) ∈ lw_tbl.filter hb_gdw := List.mem_filter.mpr ⟨List.mem_of_getElem? (i := 2001) rfl, rfl⟩
set_option maxRecDepth 100000 in
theorem hb_cd286 : Cond.code ⟨"HopeBankModel", "asksHope", "(I)Z"⟩ prog_14_method_54_code 2 (some .boolean) ∈ lw_tbl.filter hb_gdw := List.mem_filter.mpr ⟨List.mem_of_getElem? (i := 2009) rfl, rfl⟩
set_option maxRecDepth 100000 in
theorem hb_cd287 : Cond.code ⟨"HopeBankModel", "falls", "(I)I"⟩ prog_14_method_77_code 2 (some .int) ∈ lw_tbl.filter hb_gdw := List.mem_filter.mpr ⟨List.mem_of_getElem? (i := 2005) rfl, rfl⟩
set_option maxRecDepth 100000 in
theorem hb_cd288 : Cond.code ⟨"HopeBankModel", "heard", "(I)I"⟩ prog_14_method_78_code 2 (some .int) ∈ lw_tbl.filter hb_gdw := List.mem_filter.mpr ⟨List.mem_of_getElem? (i := 2013) rfl, rfl⟩
set_option maxRecDepth 100000 in
theorem hb_cd289 : Cond.code ⟨"HopeBankModel", "known", "()I"⟩ prog_14_method_79_code 3 (some .int) ∈ lw_tbl.filter hb_gdw := List.mem_filter.mpr ⟨List.mem_of_getElem? (i := 2017) rfl, rfl⟩
set_option maxRecDepth 100000 in
theorem hb_cd290 : Cond.code ⟨"HopeBankModel", "weight", "(II)I"⟩ prog_14_method_80_code 3 (some .int) ∈ lw_tbl.filter hb_gdw := List.mem_filter.mpr ⟨List.mem_of_getElem? (i := 2021) rfl, rfl⟩
set_option maxRecDepth 100000 in
theorem hb_cd291 : Cond.code ⟨"HopeBankModel", "left", "(II)I"⟩ prog_14_method_81_code 3 (some .int) ∈ lw_tbl.filter hb_gdw := List.mem_filter.mpr ⟨List.mem_of_getElem? (i := 2025) rfl, rfl⟩
set_option maxRecDepth 100000 in
theorem hb_cd292 : Cond.code ⟨"HopeBankModel", "rattleOf", "(II)I"⟩ prog_14_method_60_code 5 (some .int) ∈ lw_tbl.filter hb_gdw := List.mem_filter.mpr ⟨List.mem_of_getElem? (i := 2033) rfl, rfl⟩
set_option maxRecDepth 100000 in
theorem hb_cd293 : Cond.code ⟨"HopeBankModel", "rattle", "(II)I"⟩ prog_14_method_82_code 3 (some .int) ∈ lw_tbl.filter hb_gdw := List.mem_filter.mpr ⟨List.mem_of_getElem? (i := 2029) rfl, rfl⟩
set_option maxRecDepth 100000 in
theorem hb_cd294 : Cond.code ⟨"HopeBankModel", "value", "(II)I"⟩ prog_14_method_83_code 3 (some .int) ∈ lw_tbl.filter hb_gdw := List.mem_filter.mpr ⟨List.mem_of_getElem? (i := 2037) rfl, rfl⟩
set_option maxRecDepth 100000 in
theorem hb_cd295 : Cond.code ⟨"HopeBankModel", "allValue", "(I)I"⟩ prog_14_method_58_code 4 (some .int) ∈ lw_tbl.filter hb_gdw := List.mem_filter.mpr ⟨List.mem_of_getElem? (i := 2045) rfl, rfl⟩
set_option maxRecDepth 100000 in
theorem hb_cd296 : Cond.code ⟨"HopeBankModel", "all", "(I)I"⟩ prog_14_method_84_code 2 (some .int) ∈ lw_tbl.filter hb_gdw := List.mem_filter.mpr ⟨List.mem_of_getElem? (i := 2041) rfl, rfl⟩
set_option maxRecDepth 100000 in
theorem hb_cd297 : Cond.code ⟨"HopeBankModel", "stolen", "(I)I"⟩ prog_14_method_85_code 2 (some .int) ∈ lw_tbl.filter hb_gdw := List.mem_filter.mpr ⟨List.mem_of_getElem? (i := 2049) rfl, rfl⟩
set_option maxRecDepth 100000 in
theorem hb_cd298 : Cond.code ⟨"HopeBankModel", "worthIn", "(I)I"⟩ prog_14_method_61_code 4 (some .int) ∈ lw_tbl.filter hb_gdw := List.mem_filter.mpr ⟨List.mem_of_getElem? (i := 2061) rfl, rfl⟩
set_option maxRecDepth 100000 in
theorem hb_cd299 : Cond.code ⟨"HopeBankModel", "loss", "()I"⟩ prog_14_method_87_code 1 (some .int) ∈ lw_tbl.filter hb_gdw := List.mem_filter.mpr ⟨List.mem_of_getElem? (i := 2057) rfl, rfl⟩
set_option maxRecDepth 100000 in
theorem hb_cd300 : Cond.code ⟨"HopeBankModel", "got", "(I)I"⟩ prog_14_method_88_code 2 (some .int) ∈ lw_tbl.filter hb_gdw := List.mem_filter.mpr ⟨List.mem_of_getElem? (i := 2065) rfl, rfl⟩
set_option maxRecDepth 100000 in
theorem hb_cd301 : Cond.code ⟨"HopeBankModel", "out", "()I"⟩ prog_14_method_89_code 1 (some .int) ∈ lw_tbl.filter hb_gdw := List.mem_filter.mpr ⟨List.mem_of_getElem? (i := 2069) rfl, rfl⟩
set_option maxRecDepth 100000 in
theorem hb_cd302 : Cond.code ⟨"HopeBankModel", "loudest", "(I)I"⟩ prog_14_method_90_code 6 (some .int) ∈ lw_tbl.filter hb_gdw := List.mem_filter.mpr ⟨List.mem_of_getElem? (i := 2073) rfl, rfl⟩
set_option maxRecDepth 100000 in
theorem hb_cd303 : Cond.code ⟨"HopeBankModel", "full", "(I)I"⟩ prog_14_method_91_code 3 (some .int) ∈ lw_tbl.filter hb_gdw := List.mem_filter.mpr ⟨List.mem_of_getElem? (i := 2077) rfl, rfl⟩
set_option maxRecDepth 100000 in
theorem hb_cd304 : Cond.code ⟨"HopeBankModel", "best", "(I)I"⟩ prog_14_method_92_code 3 (some .int) ∈ lw_tbl.filter hb_gdw := List.mem_filter.mpr ⟨List.mem_of_getElem? (i := 2081) rfl, rfl⟩
set_option maxRecDepth 100000 in
theorem hb_cd305 : Cond.code ⟨"HopeBankModel", "may", "(II)I"⟩ prog_14_method_93_code 3 (some .int) ∈ lw_tbl.filter hb_gdw := List.mem_filter.mpr ⟨List.mem_of_getElem? (i := 2085) rfl, rfl⟩
set_option maxRecDepth 100000 in
theorem hb_cd306 : Cond.code ⟨"HopeBankModel", "ward", "()I"⟩ prog_14_method_96_code 5 (some .int) ∈ lw_tbl.filter hb_gdw := List.mem_filter.mpr ⟨List.mem_of_getElem? (i := 2097) rfl, rfl⟩
set_option maxRecDepth 100000 in
theorem hb_cd307 : Cond.code ⟨"HopeBankModel", "freePigs", "()V"⟩ prog_14_method_101_code 2 none ∈ lw_tbl.filter hb_gdw := List.mem_filter.mpr ⟨List.mem_of_getElem? (i := 2105) rfl, rfl⟩
set_option maxRecDepth 100000 in
theorem hb_cd308 : Cond.code ⟨"HopeBankModel", "allHopes", "()I"⟩ prog_14_method_100_code 1 (some .int) ∈ lw_tbl.filter hb_gdw := List.mem_filter.mpr ⟨List.mem_of_getElem? (i := 2109) rfl, rfl⟩
set_option maxRecDepth 100000 in
theorem hb_cd309 : Cond.code ⟨"HopeBankModel", "holdsSet", "(II)Z"⟩ prog_14_method_97_code 4 (some .boolean) ∈ lw_tbl.filter hb_gdw := List.mem_filter.mpr ⟨List.mem_of_getElem? (i := 2121) rfl, rfl⟩
set_option maxRecDepth 100000 in
theorem hb_cd310 : Cond.code ⟨"HopeBankModel", "layPacks", "(I)V"⟩ prog_14_method_98_code 6 none ∈ lw_tbl.filter hb_gdw := List.mem_filter.mpr ⟨List.mem_of_getElem? (i := 2117) rfl, rfl⟩
set_option maxRecDepth 100000 in
theorem hb_cd311 : Cond.code ⟨"HopeBankModel", "packWorth", "(I)I"⟩ prog_14_method_99_code 4 (some .int) ∈ lw_tbl.filter hb_gdw := List.mem_filter.mpr ⟨List.mem_of_getElem? (i := 2113) rfl, rfl⟩
set_option maxRecDepth 100000 in
theorem hb_cd312 : Cond.code ⟨"HopeBankModel", "packs", "()I"⟩ prog_14_method_102_code 1 (some .int) ∈ lw_tbl.filter hb_gdw := List.mem_filter.mpr ⟨List.mem_of_getElem? (i := 2101) rfl, rfl⟩
set_option maxRecDepth 100000 in
theorem hb_cd313 : Cond.code ⟨"HopeBankModel", "most", "()I"⟩ prog_14_method_103_code 3 (some .int) ∈ lw_tbl.filter hb_gdw := List.mem_filter.mpr ⟨List.mem_of_getElem? (i := 2125) rfl, rfl⟩
set_option maxRecDepth 100000 in
theorem hb_cd314 : Cond.code ⟨"HopeBankModel", "isUnheard", "(III)Z"⟩ prog_14_method_105_code 5 (some .boolean) ∈ lw_tbl.filter hb_gdw := List.mem_filter.mpr ⟨List.mem_of_getElem? (i := 2141) rfl, rfl⟩
set_option maxRecDepth 100000 in
theorem hb_cd315 : Cond.code ⟨"HopeBankModel", "layUnheard", "(I)Z"⟩ prog_14_method_106_code 5 (some .boolean) ∈ lw_tbl.filter hb_gdw := List.mem_filter.mpr ⟨List.mem_of_getElem? (i := 2137) rfl, rfl⟩
set_option maxRecDepth 100000 in
theorem hb_cd316 : Cond.code ⟨"HopeBankModel", "unheard", "(I)I"⟩ prog_14_method_107_code 2 (some .int) ∈ lw_tbl.filter hb_gdw := List.mem_filter.mpr ⟨List.mem_of_getElem? (i := 2133) rfl, rfl⟩
set_option maxRecDepth 100000 in
theorem hb_cd317 : Cond.code ⟨"HopeBankModel", "rows", "(I)I"⟩ prog_14_method_108_code 2 (some .int) ∈ lw_tbl.filter hb_gdw := List.mem_filter.mpr ⟨List.mem_of_getElem? (i := 2145) rfl, rfl⟩
set_option maxRecDepth 100000 in
theorem hb_cd318 : Cond.code ⟨"HopeBankModel", "isSlot", "(I)Z"⟩ prog_14_method_142_code 1 (some .boolean) ∈ lw_tbl.filter hb_gdw := List.mem_filter.mpr ⟨List.mem_of_getElem? (i := 2160) rfl, rfl⟩
set_option maxRecDepth 100000 in
theorem hb_cd319 : Cond.code ⟨"HopeBankModel", "numberAt", "(II)J"⟩ prog_14_method_111_code 3 (some .long) ∈ lw_tbl.filter hb_gdw := List.mem_filter.mpr ⟨List.mem_of_getElem? (i := 2165) rfl, rfl⟩
set_option maxRecDepth 100000 in
theorem hb_cd320 : Cond.code ⟨"HopeBankModel", "comesOut", "(II)I"⟩ prog_14_method_110_code 5 (some .int) ∈ lw_tbl.filter hb_gdw := List.mem_filter.mpr ⟨List.mem_of_getElem? (i := 2171) rfl, rfl⟩
set_option maxRecDepth 100000 in
theorem hb_cd321 : Cond.code ⟨"HopeBankModel", "layTilts", "(II)I"⟩ prog_14_method_112_code 6 (some .int) ∈ lw_tbl.filter hb_gdw := List.mem_filter.mpr ⟨List.mem_of_getElem? (i := 2157) rfl, rfl⟩
set_option maxRecDepth 100000 in
theorem hb_cd322 : Cond.code ⟨"HopeBankModel", "tilts", "(II)I"⟩ prog_14_method_113_code 4 (some .int) ∈ lw_tbl.filter hb_gdw := List.mem_filter.mpr ⟨List.mem_of_getElem? (i := 2153) rfl, rfl⟩
set_option maxRecDepth 100000 in
theorem hb_cd323 : Cond.code ⟨"HopeBankModel", "surely", "(II)I"⟩ prog_14_method_114_code 6 (some .int) ∈ lw_tbl.filter hb_gdw := List.mem_filter.mpr ⟨List.mem_of_getElem? (i := 2175) rfl, rfl⟩
set_option maxRecDepth 100000 in
theorem hb_cd324 : Cond.code ⟨"HopeBankModel", "never", "(II)I"⟩ prog_14_method_115_code 6 (some .int) ∈ lw_tbl.filter hb_gdw := List.mem_filter.mpr ⟨List.mem_of_getElem? (i := 2179) rfl, rfl⟩
set_option maxRecDepth 100000 in
theorem hb_cd325 : Cond.code ⟨"HopeBankModel", "askOf", "()I"⟩ prog_14_method_116_code 7 (some .int) ∈ lw_tbl.filter hb_gdw := List.mem_filter.mpr ⟨List.mem_of_getElem? (i := 2187) rfl, rfl⟩
set_option maxRecDepth 100000 in
theorem hb_cd326 : Cond.code ⟨"HopeBankModel", "ask", "(II)I"⟩ prog_14_method_117_code 4 (some .int) ∈ lw_tbl.filter hb_gdw := List.mem_filter.mpr ⟨List.mem_of_getElem? (i := 2183) rfl, rfl⟩
set_option maxRecDepth 100000 in
theorem hb_cd327 : Cond.code ⟨"HopeBankModel", "leaves", "(II)I"⟩ prog_14_method_118_code 4 (some .int) ∈ lw_tbl.filter hb_gdw := List.mem_filter.mpr ⟨List.mem_of_getElem? (i := 2191) rfl, rfl⟩
set_option maxRecDepth 100000 in
theorem hb_cd328 : Cond.code ⟨"HopeBankModel", "lighterOf", "(III)I"⟩ prog_14_method_119_code 7 (some .int) ∈ lw_tbl.filter hb_gdw := List.mem_filter.mpr ⟨List.mem_of_getElem? (i := 2200) rfl, rfl⟩
set_option maxRecDepth 100000 in
theorem hb_cd329 : Cond.code ⟨"HopeBankModel", "lighter", "(III)I"⟩ prog_14_method_120_code 4 (some .int) ∈ lw_tbl.filter hb_gdw := List.mem_filter.mpr ⟨List.mem_of_getElem? (i := 2195) rfl, rfl⟩
set_option maxRecDepth 100000 in
theorem hb_cd330 : Cond.code ⟨"HopeBankModel", "taken", "(III)I"⟩ prog_14_method_121_code 4 (some .int) ∈ lw_tbl.filter hb_gdw := List.mem_filter.mpr ⟨List.mem_of_getElem? (i := 2204) rfl, rfl⟩
set_option maxRecDepth 100000 in
theorem hb_cd331 : Cond.code ⟨"HopeBankModel", "areTwo", "(II)Z"⟩ prog_14_method_123_code 3 (some .boolean) ∈ lw_tbl.filter hb_gdw := List.mem_filter.mpr ⟨List.mem_of_getElem? (i := 2212) rfl, rfl⟩
set_option maxRecDepth 100000 in
theorem hb_cd332 : Cond.code ⟨"HopeBankModel", "getsBy", "(IIIII)I"⟩ prog_14_method_122_code 10 (some .int) ∈ lw_tbl.filter hb_gdw := List.mem_filter.mpr ⟨List.mem_of_getElem? (i := 2216) rfl, rfl⟩
set_option maxRecDepth 100000 in
theorem hb_cd333 : Cond.code ⟨"HopeBankModel", "rests", "(II)I"⟩ prog_14_method_124_code 8 (some .int) ∈ lw_tbl.filter hb_gdw := List.mem_filter.mpr ⟨List.mem_of_getElem? (i := 2208) rfl, rfl⟩
set_option maxRecDepth 100000 in
theorem hb_cd334 : Cond.code ⟨"HopeBankModel", "gets", "(IIII)I"⟩ prog_14_method_125_code 5 (some .int) ∈ lw_tbl.filter hb_gdw := List.mem_filter.mpr ⟨List.mem_of_getElem? (i := 2220) rfl, rfl⟩
set_option maxRecDepth 100000 in
theorem hb_cd335 : Cond.code ⟨"HopeBankModel", "layChances", "(III)V"⟩ prog_14_method_128_code 7 none ∈ lw_tbl.filter hb_gdw := List.mem_filter.mpr ⟨List.mem_of_getElem? (i := 2228) rfl, rfl⟩
set_option maxRecDepth 100000 in
theorem hb_cd336 : Cond.code ⟨"HopeBankModel", "part", "(JJI)I"⟩ prog_14_method_127_code 5 (some .int) ∈ lw_tbl.filter hb_gdw := List.mem_filter.mpr ⟨List.mem_of_getElem? (i := 2231) rfl, rfl⟩
set_option maxRecDepth 100000 in
theorem hb_cd337 : Cond.code ⟨"HopeBankModel", "chance", "(III)I"⟩ prog_14_method_129_code 4 (some .int) ∈ lw_tbl.filter hb_gdw := List.mem_filter.mpr ⟨List.mem_of_getElem? (i := 2224) rfl, rfl⟩
set_option maxRecDepth 100000 in
theorem hb_cd338 : Cond.code ⟨"HopeBankModel", "mean", "(III)I"⟩ prog_14_method_130_code 4 (some .int) ∈ lw_tbl.filter hb_gdw := List.mem_filter.mpr ⟨List.mem_of_getElem? (i := 2238) rfl, rfl⟩
set_option maxRecDepth 100000 in
theorem hb_cd339 : Cond.code ⟨"HopeBankModel", "keepAct", "(I)I"⟩ prog_14_method_131_code 2 (some .int) ∈ lw_tbl.filter hb_gdw := List.mem_filter.mpr ⟨List.mem_of_getElem? (i := 2246) rfl, rfl⟩
set_option maxRecDepth 100000 in
theorem hb_cd340 : Cond.code ⟨"HopeBankModel", "drops", "(III)I"⟩ prog_14_method_132_code 4 (some .int) ∈ lw_tbl.filter hb_gdw := List.mem_filter.mpr ⟨List.mem_of_getElem? (i := 2242) rfl, rfl⟩
set_option maxRecDepth 100000 in
theorem hb_cd341 : Cond.code ⟨"HopeBankModel", "breaks", "(II)I"⟩ prog_14_method_133_code 3 (some .int) ∈ lw_tbl.filter hb_gdw := List.mem_filter.mpr ⟨List.mem_of_getElem? (i := 2250) rfl, rfl⟩
set_option maxRecDepth 100000 in
theorem hb_cd342 : Cond.code ⟨"HopeBankModel", "undo", "()I"⟩ prog_14_method_134_code 1 (some .int) ∈ lw_tbl.filter hb_gdw := List.mem_filter.mpr ⟨List.mem_of_getElem? (i := 2254) rfl, rfl⟩
set_option maxRecDepth 100000 in
theorem hb_cd343 : Cond.code ⟨"HopeBankModel", "anew", "()I"⟩ prog_14_method_135_code 2 (some .int) ∈ lw_tbl.filter hb_gdw := List.mem_filter.mpr ⟨List.mem_of_getElem? (i := 2258) rfl, rfl⟩
set_option maxRecDepth 100000 in
theorem hb_cd344 : Cond.code ⟨"HopeBankModel", "isSeed", "(I)Z"⟩ prog_14_method_137_code 1 (some .boolean) ∈ lw_tbl.filter hb_gdw := List.mem_filter.mpr ⟨List.mem_of_getElem? (i := 2265) rfl, rfl⟩
set_option maxRecDepth 100000 in
theorem hb_cd345 : Cond.code ⟨"HopeBankModel", "goDrawn", "(J)I"⟩ prog_14_method_136_code 7 (some .int) ∈ lw_tbl.filter hb_gdw := List.mem_filter.mpr ⟨List.mem_of_getElem? (i := 2270) rfl, rfl⟩
set_option maxRecDepth 100000 in
theorem hb_cd346 : Cond.code ⟨"HopeBankModel", "drawn", "(II)I"⟩ prog_14_method_138_code 4 (some .int) ∈ lw_tbl.filter hb_gdw := List.mem_filter.mpr ⟨List.mem_of_getElem? (i := 2262) rfl, rfl⟩
set_option maxRecDepth 100000 in
theorem hb_cd347 : Cond.code ⟨"HopeBankModel", "luck", "(III)I"⟩ prog_14_method_139_code 6 (some .int) ∈ lw_tbl.filter hb_gdw := List.mem_filter.mpr ⟨List.mem_of_getElem? (i := 2279) rfl, rfl⟩
set_option maxRecDepth 100000 in
theorem hb_cd348 : Cond.code ⟨"HopeBankModel", "rate", "(II)I"⟩ prog_14_method_140_code 4 (some .int) ∈ lw_tbl.filter hb_gdw := List.mem_filter.mpr ⟨List.mem_of_getElem? (i := 2284) rfl, rfl⟩
set_option maxRecDepth 100000 in
theorem hb_cd349 : Cond.code ⟨"HopeBankModel", "count", "(I)I"⟩ prog_14_method_141_code 4 (some .int) ∈ lw_tbl.filter hb_gdw := List.mem_filter.mpr ⟨List.mem_of_getElem? (i := 2289) rfl, rfl⟩
set_option maxRecDepth 100000 in
theorem hb_cd350 : Cond.code ⟨"HopeBankModel", "row", "(III)I"⟩ prog_14_method_144_code 5 (some .int) ∈ lw_tbl.filter hb_gdw := List.mem_filter.mpr ⟨List.mem_of_getElem? (i := 2293) rfl, rfl⟩
set_option maxRecDepth 100000 in
theorem hb_cd351 : Cond.code ⟨"HopeBankModel", "cut", "(JI)J"⟩ prog_14_method_143_code 4 (some .long) ∈ lw_tbl.filter hb_gdw := List.mem_filter.mpr ⟨List.mem_of_getElem? (i := 2300) rfl, rfl⟩
set_option maxRecDepth 100000 in
theorem hb_cd352 : Cond.code ⟨"HopeBankModel", "write", "(IIJ)I"⟩ prog_14_method_145_code 5 (some .int) ∈ lw_tbl.filter hb_gdw := List.mem_filter.mpr ⟨List.mem_of_getElem? (i := 2297) rfl, rfl⟩
set_option maxRecDepth 100000 in
theorem hb_cd353 : Cond.code ⟨"HopeBankModel", "paste", "(IIIII)I"⟩ prog_14_method_146_code 7 (some .int) ∈ lw_tbl.filter hb_gdw := List.mem_filter.mpr ⟨List.mem_of_getElem? (i := 2304) rfl, rfl⟩
set_option maxRecDepth 100000 in
theorem hb_cd354 : Cond.code ⟨"HopeBankModel", "packed", "(I)I"⟩ prog_14_method_104_code 8 (some .int) ∈ lw_tbl.filter hb_gdw := List.mem_filter.mpr ⟨List.mem_of_getElem? (i := 2129) rfl, rfl⟩
set_option maxRecDepth 100000 in
theorem hb_cd355 : Cond.code ⟨"HopeBankModel", "order", "(II)I"⟩ prog_14_method_109_code 6 (some .int) ∈ lw_tbl.filter hb_gdw := List.mem_filter.mpr ⟨List.mem_of_getElem? (i := 2149) rfl, rfl⟩
