/-! hb_: divisor, by hand -/
theorem hb_divA {x y : Int64} (h1 : -1000000000000 ≤ x.toInt) (h2 : x.toInt ≤ 1000000000000) : (x / y).toInt = x.toInt.tdiv y.toInt := by
  rw [Int64.toInt_div]
  have h3 : (x.toInt.tdiv y.toInt).natAbs ≤ x.toInt.natAbs := by rw [Int.natAbs_tdiv]; exact Nat.div_le_self _ _
  rw [fb_bmodL (by omega) (by omega)]
theorem hb_remA {x y : Int64} (h1 : -1000000000000 ≤ x.toInt) (h2 : x.toInt ≤ 1000000000000) : (x - x / y * y).toInt = x.toInt.tmod y.toInt := by
  have e := hb_divA (y := y) h1 h2
  have h3 := Int.tmod_add_mul_tdiv x.toInt y.toInt
  have hy : x.toInt.tdiv y.toInt * y.toInt = x.toInt - x.toInt.tmod y.toInt := by rw [Int.mul_comm]; omega
  have n1 : (x.toInt.tmod y.toInt).natAbs ≤ x.toInt.natAbs := by rw [Int.natAbs_tmod]; exact Nat.mod_le _ _
  have m : (x / y * y).toInt = x.toInt.tdiv y.toInt * y.toInt := by
    rw [fb_mulL (by rw [e]; omega) (by rw [e]; omega), e]
  rw [fb_subL (by rw [m]; omega) (by rw [m]; omega), m]
  omega
theorem hb_dDv_0 : decode prog_14_method_126_code 0 = .ok (.lload_n 0, 1) := hb_INok2 (0, .lload_n 0, 1) (List.mem_of_getElem? (i := 0) rfl)
theorem hb_dDv_1 : decode prog_14_method_126_code 1 = .ok (.lstore 4, 2) := hb_INok2 (1, .lstore 4, 2) (List.mem_of_getElem? (i := 1) rfl)
theorem hb_dDv_2 : decode prog_14_method_126_code 3 = .ok (.lload_n 2, 1) := hb_INok2 (3, .lload_n 2, 1) (List.mem_of_getElem? (i := 2) rfl)
theorem hb_dDv_3 : decode prog_14_method_126_code 4 = .ok (.lstore 6, 2) := hb_INok2 (4, .lstore 6, 2) (List.mem_of_getElem? (i := 3) rfl)
theorem hb_dDv_4 : decode prog_14_method_126_code 6 = .ok (.lload 6, 2) := hb_INok2 (6, .lload 6, 2) (List.mem_of_getElem? (i := 4) rfl)
theorem hb_dDv_5 : decode prog_14_method_126_code 8 = .ok (.lconst 0, 1) := hb_INok2 (8, .lconst 0, 1) (List.mem_of_getElem? (i := 5) rfl)
theorem hb_dDv_6 : decode prog_14_method_126_code 9 = .ok (.lcmp, 1) := hb_INok2 (9, .lcmp, 1) (List.mem_of_getElem? (i := 6) rfl)
theorem hb_dDv_7 : decode prog_14_method_126_code 10 = .ok (.ifCond .eq 21, 3) := hb_INok2 (10, .ifCond .eq 21, 3) (List.mem_of_getElem? (i := 7) rfl)
theorem hb_dDv_8 : decode prog_14_method_126_code 13 = .ok (.lload 4, 2) := hb_INok2 (13, .lload 4, 2) (List.mem_of_getElem? (i := 8) rfl)
theorem hb_dDv_9 : decode prog_14_method_126_code 15 = .ok (.lload 6, 2) := hb_INok2 (15, .lload 6, 2) (List.mem_of_getElem? (i := 9) rfl)
theorem hb_dDv_10 : decode prog_14_method_126_code 17 = .ok (.lrem, 1) := hb_INok2 (17, .lrem, 1) (List.mem_of_getElem? (i := 10) rfl)
theorem hb_dDv_11 : decode prog_14_method_126_code 18 = .ok (.lstore 8, 2) := hb_INok2 (18, .lstore 8, 2) (List.mem_of_getElem? (i := 11) rfl)
theorem hb_dDv_12 : decode prog_14_method_126_code 20 = .ok (.lload 6, 2) := hb_INok2 (20, .lload 6, 2) (List.mem_of_getElem? (i := 12) rfl)
theorem hb_dDv_13 : decode prog_14_method_126_code 22 = .ok (.lstore 4, 2) := hb_INok2 (22, .lstore 4, 2) (List.mem_of_getElem? (i := 13) rfl)
theorem hb_dDv_14 : decode prog_14_method_126_code 24 = .ok (.lload 8, 2) := hb_INok2 (24, .lload 8, 2) (List.mem_of_getElem? (i := 14) rfl)
theorem hb_dDv_15 : decode prog_14_method_126_code 26 = .ok (.lstore 6, 2) := hb_INok2 (26, .lstore 6, 2) (List.mem_of_getElem? (i := 15) rfl)
theorem hb_dDv_16 : decode prog_14_method_126_code 28 = .ok (.goto (-22), 3) := hb_INok2 (28, .goto (-22), 3) (List.mem_of_getElem? (i := 16) rfl)
theorem hb_dDv_17 : decode prog_14_method_126_code 31 = .ok (.lload 4, 2) := hb_INok2 (31, .lload 4, 2) (List.mem_of_getElem? (i := 17) rfl)
theorem hb_dDv_18 : decode prog_14_method_126_code 33 = .ok (.lreturn, 1) := hb_INok2 (33, .lreturn, 1) (List.mem_of_getElem? (i := 18) rfl)
section HBDV
variable {p : Program} {l : Launch} {e : Env} {R : Room} {s : State} {m : MethodId} {args : Array Value} {below : List Frame} {meth : Method} {c : Code} {Q : State → Prop}
theorem hb_divgo (hx : p.tables.exec = Jvm.exec) (hb : c.code = prog_14_method_126_code)
    (ret : ∀ (x : Int64) (ls : Array Slot), x.toInt ≠ 0 → -1000000000000 ≤ x.toInt → x.toInt ≤ 1000000000000 → W p l e R s m args below meth c s.heap [] 0 0 Q (F0 m 33 ls [.long x])) :
    ∀ (n : Nat) (x y : Int64) (ls : Array Slot), y.toInt.natAbs ≤ n → (y.toInt = 0 → x.toInt ≠ 0) → -1000000000000 ≤ x.toInt → x.toInt ≤ 1000000000000 → -1000000000000 ≤ y.toInt → y.toInt ≤ 1000000000000 → lv_has ls 10 [(4, .long x), (6, .long y)] → W p l e R s m args below meth c s.heap [] 0 0 Q (F0 m 6 ls []) := by
  have z0 : (0 : Int64).toInt = 0 := by decide
  intro n
  induction n with
  | zero =>
    intro x y ls hn h0 h1 h2 h3 h4 hl
    have hy : y.toInt = 0 := by omega
    refine lv_lload hx hb hb_dDv_4 (lv_at hl 1 rfl) ?_
    refine lv_lconst (v := 0) hx hb hb_dDv_5 (by decide) ?_
    refine W.lcmp hx hb hb_dDv_6 ?_
    refine hb_row_if (tgt := 31) hx hb hb_dDv_7 (by decide) (fun q => ?_) (fun q => ?_)
    · refine lv_lload hx hb hb_dDv_17 (lv_at hl 0 rfl) ?_
      exact ret x ls (h0 hy) h1 h2
    · have hq := hb_lgc y 0 .ne q
      rw [z0] at hq
      rcases (show y.toInt < 0 ∨ 0 < y.toInt from hq) with z | z <;> omega
  | succ n ih =>
    intro x y ls hn h0 h1 h2 h3 h4 hl
    refine lv_lload hx hb hb_dDv_4 (lv_at hl 1 rfl) ?_
    refine lv_lconst (v := 0) hx hb hb_dDv_5 (by decide) ?_
    refine W.lcmp hx hb hb_dDv_6 ?_
    refine hb_row_if (tgt := 31) hx hb hb_dDv_7 (by decide) (fun q => ?_) (fun q => ?_)
    · have hq := hb_lgc y 0 .eq q
      rw [z0] at hq
      refine lv_lload hx hb hb_dDv_17 (lv_at hl 0 rfl) ?_
      exact ret x ls (h0 hq) h1 h2
    · have hq := hb_lgc y 0 .ne q
      rw [z0] at hq
      have hy : y.toInt ≠ 0 := by rcases (show y.toInt < 0 ∨ 0 < y.toInt from hq) with z | z <;> omega
      refine lv_lload hx hb hb_dDv_8 (lv_at hl 0 rfl) ?_
      refine lv_lload hx hb hb_dDv_9 (lv_at hl 1 rfl) ?_
      refine lv_lrem hx hb hb_dDv_10 (fun z => hy (by rw [z]; exact z0)) ?_
      have er := hb_remA (y := y) h1 h2
      have nr : (x.toInt.tmod y.toInt).natAbs < y.toInt.natAbs := by
        rw [Int.natAbs_tmod]
        exact Nat.mod_lt _ (by omega)
      generalize x - x / y * y = r at er ⊢
      refine lv_lstore hx hb hb_dDv_11 hl (by decide) rfl (fun ls1 hl1 => ?_)
      refine lv_lload hx hb hb_dDv_12 (lv_at hl1 2 rfl) ?_
      refine lv_lstore hx hb hb_dDv_13 hl1 (by decide) rfl (fun ls2 hl2 => ?_)
      refine lv_lload hx hb hb_dDv_14 (lv_at hl2 1 rfl) ?_
      refine lv_lstore hx hb hb_dDv_15 hl2 (by decide) rfl (fun ls3 hl3 => ?_)
      refine lv_goto (tgt := 6) hx hb hb_dDv_16 (by decide) ?_
      exact ih y r ls3 (by rw [er]; omega) (fun _ => hy) h3 h4 (by rw [er]; omega) (by rw [er]; omega) (lv_sub hl3 [1, 0] rfl)
end HBDV
