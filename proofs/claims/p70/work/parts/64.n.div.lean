/-! hb_: divisor, by hand -/
theorem hb_divA {x y : Int64} (h1 : -1000000000000 ≤ x.toInt) (h2 : x.toInt ≤ 1000000000000) : (x / y).toInt = x.toInt.tdiv y.toInt := by
  rw [Int64.toInt_div]
  have h3 : (x.toInt.tdiv y.toInt).natAbs ≤ x.toInt.natAbs := by rw [Int.natAbs_tdiv]; exact Nat.div_le_self _ _
  rw [fb_bmodL (by omega) (by omega)]
theorem hb_remA {x y : Int64} (h1 : -1000000000000 ≤ x.toInt) (h2 : x.toInt ≤ 1000000000000) : (x - x / y * y).toInt = x.toInt.tmod y.toInt := by
  have e := hb_divA (y := y) h1 h2
  have h3 := Int.tmod_add_mul_tdiv x.toInt y.toInt
  have hy : x.toInt.tdiv y.toInt * y.toInt = x.toInt - x.toInt.tmod y.toInt := by rw [Int.mul_comm]; omega
  have n1 : (x.toInt.tmod y.toInt).natAbs ≤ x.toInt.natAbs := by rw [Int.natAbs_tmod]; exact Nat.mod_le _ _
  have m : (x / y * y).toInt = x.toInt.tdiv y.toInt * y.toInt := by
    rw [fb_mulL (by rw [e]; omega) (by rw [e]; omega), e]
  rw [fb_subL (by rw [m]; omega) (by rw [m]; omega), m]
  omega
section HBDV
variable {p : Program} {l : Launch} {e : Env} {R : Room} {s : State} {m : MethodId} {args : Array Value} {below : List Frame} {meth : Method} {c : Code} {Q : State → Prop}
theorem hb_divgo (hx : p.tables.exec = Jvm.exec) (hb : c.code = prog_14_method_126_code)
    (ret : ∀ (x : Int64) (ls : Array Slot), x.toInt ≠ 0 → -1000000000000 ≤ x.toInt → x.toInt ≤ 1000000000000 → W p l e R s m args below meth c s.heap [] 0 0 Q (F0 m 33 ls [.long x])) :
    ∀ (n : Nat) (x y : Int64) (ls : Array Slot), y.toInt.natAbs ≤ n → (y.toInt = 0 → x.toInt ≠ 0) → -1000000000000 ≤ x.toInt → x.toInt ≤ 1000000000000 → -1000000000000 ≤ y.toInt → y.toInt ≤ 1000000000000 → lv_has ls 10 [(4, .long x), (6, .long y)] → W p l e R s m args below meth c s.heap [] 0 0 Q (F0 m 6 ls []) := by
  have d : ∀ (k : Nat) (w : Nat × Instr × Nat), hb_IN2[k]? = some w → decode prog_14_method_126_code w.1 = .ok w.2 := fun k w h => hb_INok2 w (List.mem_of_getElem? h)
  have z0 : (0 : Int64).toInt = 0 := by decide
  intro n
  induction n with
  | zero =>
    intro x y ls hn h0 h1 h2 h3 h4 hl
    have hy : y.toInt = 0 := by omega
    refine lv_lload hx hb (d 4 _ rfl) (lv_at hl 1 rfl) ?_
    refine lv_lconst (v := 0) hx hb (d 5 _ rfl) (by decide) ?_
    refine W.lcmp hx hb (d 6 _ rfl) ?_
    refine hb_row_if (tgt := 31) hx hb (d 7 _ rfl) (by decide) (fun q => ?_) (fun q => ?_)
    · refine lv_lload hx hb (d 17 _ rfl) (lv_at hl 0 rfl) ?_
      exact ret x ls (h0 hy) h1 h2
    · have hq := hb_lgc y 0 .ne q
      rw [z0] at hq
      rcases (show y.toInt < 0 ∨ 0 < y.toInt from hq) with z | z <;> omega
  | succ n ih =>
    intro x y ls hn h0 h1 h2 h3 h4 hl
    refine lv_lload hx hb (d 4 _ rfl) (lv_at hl 1 rfl) ?_
    refine lv_lconst (v := 0) hx hb (d 5 _ rfl) (by decide) ?_
    refine W.lcmp hx hb (d 6 _ rfl) ?_
    refine hb_row_if (tgt := 31) hx hb (d 7 _ rfl) (by decide) (fun q => ?_) (fun q => ?_)
    · have hq := hb_lgc y 0 .eq q
      rw [z0] at hq
      refine lv_lload hx hb (d 17 _ rfl) (lv_at hl 0 rfl) ?_
      exact ret x ls (h0 hq) h1 h2
    · have hq := hb_lgc y 0 .ne q
      rw [z0] at hq
      have hy : y.toInt ≠ 0 := by rcases (show y.toInt < 0 ∨ 0 < y.toInt from hq) with z | z <;> omega
      refine lv_lload hx hb (d 8 _ rfl) (lv_at hl 0 rfl) ?_
      refine lv_lload hx hb (d 9 _ rfl) (lv_at hl 1 rfl) ?_
      refine lv_lrem hx hb (d 10 _ rfl) (fun z => hy (by rw [z]; exact z0)) ?_
      have er := hb_remA (y := y) h1 h2
      have nr : (x.toInt.tmod y.toInt).natAbs < y.toInt.natAbs := by
        rw [Int.natAbs_tmod]
        exact Nat.mod_lt _ (by omega)
      generalize x - x / y * y = r at er ⊢
      refine lv_lstore hx hb (d 11 _ rfl) hl (by decide) rfl (fun ls1 hl1 => ?_)
      refine lv_lload hx hb (d 12 _ rfl) (lv_at hl1 2 rfl) ?_
      refine lv_lstore hx hb (d 13 _ rfl) hl1 (by decide) rfl (fun ls2 hl2 => ?_)
      refine lv_lload hx hb (d 14 _ rfl) (lv_at hl2 1 rfl) ?_
      refine lv_lstore hx hb (d 15 _ rfl) hl2 (by decide) rfl (fun ls3 hl3 => ?_)
      refine lv_goto (tgt := 6) hx hb (d 16 _ rfl) (by decide) ?_
      exact ih y r ls3 (by rw [er]; omega) (fun _ => hy) h3 h4 (by rw [er]; omega) (by rw [er]; omega) (lv_sub hl3 [1, 0] rfl)
end HBDV
