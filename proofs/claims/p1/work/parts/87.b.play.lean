theorem hc_at {w : va_W} {c a : Nat} {e : va_E} (h : w[c]? = some (a, e)) : w[c]? = some (hc_ad w c, e) := by
  unfold hc_ad
  rw [h]
  rfl
theorem hc_wdn {s : State} {U : Nat → Nat} {w : va_W} : hb_wd hb_KT s U w [] := fun _ h => absurd h List.not_mem_nil
theorem hc_wdc {s : State} {U : Nat → Nat} {w : va_W} {c : Nat} {fp : List Nat} {kd : hbK} {e : va_E} (h1 : hb_KT[c]? = some kd) (h2 : w[c]? = some (U c, e)) (h3 : hb_cell s U kd e) (h4 : kd.2.2.1 < 2147483648) (h : hb_wd hb_KT s U w fp) : hb_wd hb_KT s U w (c :: fp) := fun d hd => by
  rcases List.mem_cons.mp hd with e | hd
  · subst e
    exact ⟨kd, _, h1, h2, h3, h4⟩
  · exact h d hd
theorem hc_wda {s : State} {U : Nat → Nat} {w : va_W} {fp fp2 : List Nat} (h1 : hb_wd hb_KT s U w fp) (h2 : hb_wd hb_KT s U w fp2) : hb_wd hb_KT s U w (fp ++ fp2) := fun d hd => (List.mem_append.mp hd).elim (h1 d) (h2 d)
theorem hc_nm {j lo : Nat} {L : List Nat} (hL : (L.all (fun c => Nat.ble lo c)) = true := by decide) (hj : j < lo) : j ∉ L := fun h => by
  have := Nat.le_of_ble_eq_true (List.all_eq_true.mp hL j h)
  omega
def hc_Z_Play : List Value := [.null, .null, .null, .null, .null, .null, .null, .null, .int 0, .null, .null, .int 0, .int 0, .int 0, .int 0, .int 0]
theorem hc_Zok_Play : ∀ j, j < 16 → defaultValue (tyX3 j) = vp_V hc_Z_Play j := by decide +kernel
theorem hc_w80 : Cond.methodLink "HopeBank$Play" 3 Lib.objectInit ∈ hb_G.2.1.1 := hb_wm (i := 280) (by decide +kernel)
theorem hc_w81 : Cond.fieldLink "HopeBank$Play" 9 "HopeBank$Play" "fell" "[I" ∈ hb_G.2.1.1 := hb_wm (i := 297) (by decide +kernel)
theorem hc_w82 : Cond.fieldLink "HopeBank$Play" 15 "HopeBank$Play" "into" "[I" ∈ hb_G.2.1.1 := hb_wm (i := 300) (by decide +kernel)
theorem hc_w83 : Cond.fieldLink "HopeBank$Play" 18 "HopeBank$Play" "volume" "[I" ∈ hb_G.2.1.1 := hb_wm (i := 302) (by decide +kernel)
theorem hc_w84 : Cond.fieldLink "HopeBank$Play" 21 "HopeBank$Play" "gone" "[I" ∈ hb_G.2.1.1 := hb_wm (i := 305) (by decide +kernel)
theorem hc_w85 : Cond.fieldLink "HopeBank$Play" 24 "HopeBank$Play" "how" "[I" ∈ hb_G.2.1.1 := hb_wm (i := 307) (by decide +kernel)
theorem hc_w86 : Cond.fieldLink "HopeBank$Play" 27 "HopeBank$Play" "took" "[I" ∈ hb_G.2.1.1 := hb_wm (i := 310) (by decide +kernel)
theorem hc_w87 : Cond.fieldLink "HopeBank$Play" 30 "HopeBank$Play" "results" "[I" ∈ hb_G.2.1.1 := hb_wm (i := 313) (by decide +kernel)
theorem hc_w88 : Cond.fieldLink "HopeBank$Play" 33 "HopeBank$Play" "spares" "[I" ∈ hb_G.2.1.1 := hb_wm (i := 318) (by decide +kernel)
theorem hc_w89 : Cond.fieldLink "HopeBank$Play" 36 "HopeBank$Play" "inside" "[I" ∈ hb_G.2.1.1 := hb_wm (i := 319) (by decide +kernel)
theorem hc_w90 : Cond.fieldLink "HopeBank$Play" 39 "HopeBank$Play" "town" "LHopeBank$Town;" ∈ hb_G.2.1.1 := hb_wm (i := 296) (by decide +kernel)
theorem hc_w91 : Cond.initialized "HopeBank$Play" ∈ hb_G.2.1.1 := hb_wm (i := 116) (by decide +kernel)
theorem hc_w92 : Cond.methodLink "HopeBank$Play" 43 ⟨"HopeBank$Play", "choose", "(IZ)V"⟩ ∈ hb_G.2.1.1 := hb_wm (i := 281) (by decide +kernel)
theorem hc_w93 : Cond.instanceMethod ⟨"HopeBank$Play", "choose", "(IZ)V"⟩ ∈ hb_G.2.1.1 := hb_wm (i := 282) (by decide +kernel)
theorem hc_w94 : Cond.selects "HopeBank$Play" ⟨"HopeBank$Play", "choose", "(IZ)V"⟩ ⟨"HopeBank$Play", "choose", "(IZ)V"⟩ ∈ hb_G.2.1.1 := hb_wm (i := 283) (by decide +kernel)
theorem hc_w95 : Cond.methodLink "HopeBank$Play" 47 ⟨"HopeBank$Play", "begin", "()V"⟩ ∈ hb_G.2.1.1 := hb_wm (i := 285) (by decide +kernel)
theorem hc_w96 : Cond.instanceMethod ⟨"HopeBank$Play", "begin", "()V"⟩ ∈ hb_G.2.1.1 := hb_wm (i := 287) (by decide +kernel)
theorem hc_w97 : Cond.selects "HopeBank$Play" ⟨"HopeBank$Play", "begin", "()V"⟩ ⟨"HopeBank$Play", "begin", "()V"⟩ ∈ hb_G.2.1.1 := hb_wm (i := 0) (by decide +kernel)
theorem hc_d_Play_0 : decode prog_5_method_1_code 0 = .ok (.aload_n 0, 1) := by decide +kernel
theorem hc_d_Play_1 : decode prog_5_method_1_code 1 = .ok (.invokespecial 3, 3) := by decide +kernel
theorem hc_d_Play_4 : decode prog_5_method_1_code 4 = .ok (.aload_n 0, 1) := by decide +kernel
theorem hc_d_Play_5 : decode prog_5_method_1_code 5 = .ok (.bipush 8, 2) := by decide +kernel
theorem hc_d_Play_7 : decode prog_5_method_1_code 7 = .ok (.newarray .int, 2) := by decide +kernel
theorem hc_d_Play_9 : decode prog_5_method_1_code 9 = .ok (.putfield 9, 3) := by decide +kernel
theorem hc_d_Play_12 : decode prog_5_method_1_code 12 = .ok (.aload_n 0, 1) := by decide +kernel
theorem hc_d_Play_13 : decode prog_5_method_1_code 13 = .ok (.bipush 8, 2) := by decide +kernel
theorem hc_d_Play_15 : decode prog_5_method_1_code 15 = .ok (.newarray .int, 2) := by decide +kernel
theorem hc_d_Play_17 : decode prog_5_method_1_code 17 = .ok (.putfield 15, 3) := by decide +kernel
theorem hc_d_Play_20 : decode prog_5_method_1_code 20 = .ok (.aload_n 0, 1) := by decide +kernel
theorem hc_d_Play_21 : decode prog_5_method_1_code 21 = .ok (.bipush 8, 2) := by decide +kernel
theorem hc_d_Play_23 : decode prog_5_method_1_code 23 = .ok (.newarray .int, 2) := by decide +kernel
theorem hc_d_Play_25 : decode prog_5_method_1_code 25 = .ok (.putfield 18, 3) := by decide +kernel
theorem hc_d_Play_28 : decode prog_5_method_1_code 28 = .ok (.aload_n 0, 1) := by decide +kernel
theorem hc_d_Play_29 : decode prog_5_method_1_code 29 = .ok (.bipush 8, 2) := by decide +kernel
theorem hc_d_Play_31 : decode prog_5_method_1_code 31 = .ok (.newarray .int, 2) := by decide +kernel
theorem hc_d_Play_33 : decode prog_5_method_1_code 33 = .ok (.putfield 21, 3) := by decide +kernel
theorem hc_d_Play_36 : decode prog_5_method_1_code 36 = .ok (.aload_n 0, 1) := by decide +kernel
theorem hc_d_Play_37 : decode prog_5_method_1_code 37 = .ok (.bipush 8, 2) := by decide +kernel
theorem hc_d_Play_39 : decode prog_5_method_1_code 39 = .ok (.newarray .int, 2) := by decide +kernel
theorem hc_d_Play_41 : decode prog_5_method_1_code 41 = .ok (.putfield 24, 3) := by decide +kernel
theorem hc_d_Play_44 : decode prog_5_method_1_code 44 = .ok (.aload_n 0, 1) := by decide +kernel
theorem hc_d_Play_45 : decode prog_5_method_1_code 45 = .ok (.bipush 6, 2) := by decide +kernel
theorem hc_d_Play_47 : decode prog_5_method_1_code 47 = .ok (.newarray .int, 2) := by decide +kernel
theorem hc_d_Play_49 : decode prog_5_method_1_code 49 = .ok (.putfield 27, 3) := by decide +kernel
theorem hc_d_Play_52 : decode prog_5_method_1_code 52 = .ok (.aload_n 0, 1) := by decide +kernel
theorem hc_d_Play_53 : decode prog_5_method_1_code 53 = .ok (.bipush 30, 2) := by decide +kernel
theorem hc_d_Play_55 : decode prog_5_method_1_code 55 = .ok (.newarray .int, 2) := by decide +kernel
theorem hc_d_Play_57 : decode prog_5_method_1_code 57 = .ok (.putfield 30, 3) := by decide +kernel
theorem hc_d_Play_60 : decode prog_5_method_1_code 60 = .ok (.aload_n 0, 1) := by decide +kernel
theorem hc_d_Play_61 : decode prog_5_method_1_code 61 = .ok (.iconst 5, 1) := by decide +kernel
theorem hc_d_Play_62 : decode prog_5_method_1_code 62 = .ok (.newarray .int, 2) := by decide +kernel
theorem hc_d_Play_64 : decode prog_5_method_1_code 64 = .ok (.putfield 33, 3) := by decide +kernel
theorem hc_d_Play_67 : decode prog_5_method_1_code 67 = .ok (.aload_n 0, 1) := by decide +kernel
theorem hc_d_Play_68 : decode prog_5_method_1_code 68 = .ok (.iconst 5, 1) := by decide +kernel
theorem hc_d_Play_69 : decode prog_5_method_1_code 69 = .ok (.newarray .int, 2) := by decide +kernel
theorem hc_d_Play_71 : decode prog_5_method_1_code 71 = .ok (.putfield 36, 3) := by decide +kernel
theorem hc_d_Play_74 : decode prog_5_method_1_code 74 = .ok (.aload_n 0, 1) := by decide +kernel
theorem hc_d_Play_75 : decode prog_5_method_1_code 75 = .ok (.aload_n 1, 1) := by decide +kernel
theorem hc_d_Play_76 : decode prog_5_method_1_code 76 = .ok (.putfield 39, 3) := by decide +kernel
theorem hc_d_Play_79 : decode prog_5_method_1_code 79 = .ok (.aload_n 0, 1) := by decide +kernel
theorem hc_d_Play_80 : decode prog_5_method_1_code 80 = .ok (.iconst (-1), 1) := by decide +kernel
theorem hc_d_Play_81 : decode prog_5_method_1_code 81 = .ok (.iconst 1, 1) := by decide +kernel
theorem hc_d_Play_82 : decode prog_5_method_1_code 82 = .ok (.invokevirtual 43, 3) := by decide +kernel
theorem hc_d_Play_85 : decode prog_5_method_1_code 85 = .ok (.aload_n 0, 1) := by decide +kernel
theorem hc_d_Play_86 : decode prog_5_method_1_code 86 = .ok (.invokevirtual 47, 3) := by decide +kernel
theorem hc_d_Play_89 : decode prog_5_method_1_code 89 = .ok (.return_, 1) := by decide +kernel
abbrev hc_y_Play : hbY := (⟨"HopeBank$Play", "<init>", "(LHopeBank$Town;)V"⟩, prog_5_method_1_code, 2, none)
set_option maxRecDepth 100000 in
theorem hc_cd_Play : Cond.code ⟨"HopeBank$Play", "<init>", "(LHopeBank$Town;)V"⟩ prog_5_method_1_code 2 none ∈ hb_G.2.1.1 := List.mem_filter.mpr ⟨List.mem_of_getElem? (i := 279) rfl, rfl⟩
set_option maxHeartbeats 8000000 in
theorem hc_Play80 {l : Launch} {D : va_G} {S : Nat → Nat} {wd : va_W} {a x1 : Nat} (hn : wd.length = 81) (hk : wd[80]? = some (a, .inr (3, hc_Z_Play))) (hx1 : hc_ad wd 19 = x1) : hc_Met l hc_y_Play 2 45 9 86 D (hc_ad wd) S wd [19, 22, 23] [.ref a, .ref x1] (hc_PT wd 80 90 [80, 81, 82, 83, 84, 85, 86, 87, 88, 89]) := by
  refine hc_enter (by decide) (Nat.le_of_ble_eq_true rfl) ?_
  intro p e s m below meth c ls hBd hin hh hwd hGs hX hl
  obtain ⟨hx, hb, hml, hown, hlocks, hret, hTw⟩ := id hBd
  obtain ⟨k, hk0⟩ := hc_Kof hTw
  have hkn := (List.getElem?_eq_some_iff.mp hk).1
  rw [hn] at hkn
  have hh : hc_H D s wd (wd.set 80 (a, .inr (3, [.null, .null, .null, .null, .null, .null, .null, .null, .int 0, .null, .null, .int 0, .int 0, .int 0, .int 0, .int 0])) ++ []) s.heap [] := by rw [← hc_start (show wd[80]? = some (a, .inr (3, [.null, .null, .null, .null, .null, .null, .null, .null, .int 0, .null, .null, .int 0, .int 0, .int 0, .int 0, .int 0])) from hk)]; exact hh
  refine lv_aload_n hx hb hc_d_Play_0 rfl (lv_at hl 0 rfl) ?_
  refine hc_obj (own := "HopeBank$Play") hx hb (by rw [hml, hl.1]) hown hTw hc_w80 hc_oi hc_oc hc_d_Play_1 (Nat.le_of_ble_eq_true rfl) (Nat.le_of_ble_eq_true rfl) ?_
  refine lv_aload_n hx hb hc_d_Play_4 rfl (lv_at hl 0 rfl) ?_
  refine lv_bipush (v := nI 8) hx hb hc_d_Play_5 (by decide) ?_
  refine hc_newi (N' := 8) (cA := k.1) hx hb hTw hGs.1 hh hc_w3 hk0.1.2 (by decide) (by decide) (Nat.le_of_ble_eq_true rfl) (Nat.le_of_ble_eq_true rfl) (Nat.le_of_ble_eq_true rfl) hc_d_Play_7 (fun q156 Hhh157 hh157 => ?_)
  rw [List.append_assoc] at hh157
  have hh157 : hc_H D s wd (wd.set 80 (a, .inr (3, [.null, .null, .null, .null, .null, .null, .null, .null, .int 0, .null, .null, .int 0, .int 0, .int 0, .int 0, .int 0])) ++ [(q156, .inl (k.1, 8, .inl (fun _ => 0)))]) _ _ := hh157
  refine hc_putF (ci := 3) (k := 1) (own := "HopeBank$Play") (C := RX3) (T := TX3) (N := 16) (t := tyX3 1) hx hb hown hTw hGs.1 hin hh157 rfl (hc_get hn hkn) (by decide) hc_w81 rfl rfl (tyX3_ok 1 (by decide)) rfl rfl (Nat.le_of_ble_eq_true rfl) hc_d_Play_9 (hc_set hn hkn) (fun Hhh158 locshh158 hh158 => ?_)
  have hh158 : hc_H D s wd (wd.set 80 (a, .inr (3, [.null, .ref q156, .null, .null, .null, .null, .null, .null, .int 0, .null, .null, .int 0, .int 0, .int 0, .int 0, .int 0])) ++ [(q156, .inl (k.1, 8, .inl (fun _ => 0)))]) _ _ := hh158
  refine lv_aload_n hx hb hc_d_Play_12 rfl (lv_at hl 0 rfl) ?_
  refine lv_bipush (v := nI 8) hx hb hc_d_Play_13 (by decide) ?_
  refine hc_newi (N' := 8) (cA := k.1) hx hb hTw hGs.1 hh158 hc_w3 hk0.1.2 (by decide) (by decide) (Nat.le_of_ble_eq_true rfl) (Nat.le_of_ble_eq_true rfl) (Nat.le_of_ble_eq_true rfl) hc_d_Play_15 (fun q159 Hhh160 hh160 => ?_)
  rw [List.append_assoc] at hh160
  have hh160 : hc_H D s wd (wd.set 80 (a, .inr (3, [.null, .ref q156, .null, .null, .null, .null, .null, .null, .int 0, .null, .null, .int 0, .int 0, .int 0, .int 0, .int 0])) ++ [(q156, .inl (k.1, 8, .inl (fun _ => 0))), (q159, .inl (k.1, 8, .inl (fun _ => 0)))]) _ _ := hh160
  refine hc_putF (ci := 3) (k := 2) (own := "HopeBank$Play") (C := RX3) (T := TX3) (N := 16) (t := tyX3 2) hx hb hown hTw hGs.1 hin hh160 rfl (hc_get hn hkn) (by decide) hc_w82 rfl rfl (tyX3_ok 2 (by decide)) rfl rfl (Nat.le_of_ble_eq_true rfl) hc_d_Play_17 (hc_set hn hkn) (fun Hhh161 locshh161 hh161 => ?_)
  have hh161 : hc_H D s wd (wd.set 80 (a, .inr (3, [.null, .ref q156, .ref q159, .null, .null, .null, .null, .null, .int 0, .null, .null, .int 0, .int 0, .int 0, .int 0, .int 0])) ++ [(q156, .inl (k.1, 8, .inl (fun _ => 0))), (q159, .inl (k.1, 8, .inl (fun _ => 0)))]) _ _ := hh161
  refine lv_aload_n hx hb hc_d_Play_20 rfl (lv_at hl 0 rfl) ?_
  refine lv_bipush (v := nI 8) hx hb hc_d_Play_21 (by decide) ?_
  refine hc_newi (N' := 8) (cA := k.1) hx hb hTw hGs.1 hh161 hc_w3 hk0.1.2 (by decide) (by decide) (Nat.le_of_ble_eq_true rfl) (Nat.le_of_ble_eq_true rfl) (Nat.le_of_ble_eq_true rfl) hc_d_Play_23 (fun q162 Hhh163 hh163 => ?_)
  rw [List.append_assoc] at hh163
  have hh163 : hc_H D s wd (wd.set 80 (a, .inr (3, [.null, .ref q156, .ref q159, .null, .null, .null, .null, .null, .int 0, .null, .null, .int 0, .int 0, .int 0, .int 0, .int 0])) ++ [(q156, .inl (k.1, 8, .inl (fun _ => 0))), (q159, .inl (k.1, 8, .inl (fun _ => 0))), (q162, .inl (k.1, 8, .inl (fun _ => 0)))]) _ _ := hh163
  refine hc_putF (ci := 3) (k := 3) (own := "HopeBank$Play") (C := RX3) (T := TX3) (N := 16) (t := tyX3 3) hx hb hown hTw hGs.1 hin hh163 rfl (hc_get hn hkn) (by decide) hc_w83 rfl rfl (tyX3_ok 3 (by decide)) rfl rfl (Nat.le_of_ble_eq_true rfl) hc_d_Play_25 (hc_set hn hkn) (fun Hhh164 locshh164 hh164 => ?_)
  have hh164 : hc_H D s wd (wd.set 80 (a, .inr (3, [.null, .ref q156, .ref q159, .ref q162, .null, .null, .null, .null, .int 0, .null, .null, .int 0, .int 0, .int 0, .int 0, .int 0])) ++ [(q156, .inl (k.1, 8, .inl (fun _ => 0))), (q159, .inl (k.1, 8, .inl (fun _ => 0))), (q162, .inl (k.1, 8, .inl (fun _ => 0)))]) _ _ := hh164
  refine lv_aload_n hx hb hc_d_Play_28 rfl (lv_at hl 0 rfl) ?_
  refine lv_bipush (v := nI 8) hx hb hc_d_Play_29 (by decide) ?_
  refine hc_newi (N' := 8) (cA := k.1) hx hb hTw hGs.1 hh164 hc_w3 hk0.1.2 (by decide) (by decide) (Nat.le_of_ble_eq_true rfl) (Nat.le_of_ble_eq_true rfl) (Nat.le_of_ble_eq_true rfl) hc_d_Play_31 (fun q165 Hhh166 hh166 => ?_)
  rw [List.append_assoc] at hh166
  have hh166 : hc_H D s wd (wd.set 80 (a, .inr (3, [.null, .ref q156, .ref q159, .ref q162, .null, .null, .null, .null, .int 0, .null, .null, .int 0, .int 0, .int 0, .int 0, .int 0])) ++ [(q156, .inl (k.1, 8, .inl (fun _ => 0))), (q159, .inl (k.1, 8, .inl (fun _ => 0))), (q162, .inl (k.1, 8, .inl (fun _ => 0))), (q165, .inl (k.1, 8, .inl (fun _ => 0)))]) _ _ := hh166
  refine hc_putF (ci := 3) (k := 4) (own := "HopeBank$Play") (C := RX3) (T := TX3) (N := 16) (t := tyX3 4) hx hb hown hTw hGs.1 hin hh166 rfl (hc_get hn hkn) (by decide) hc_w84 rfl rfl (tyX3_ok 4 (by decide)) rfl rfl (Nat.le_of_ble_eq_true rfl) hc_d_Play_33 (hc_set hn hkn) (fun Hhh167 locshh167 hh167 => ?_)
  have hh167 : hc_H D s wd (wd.set 80 (a, .inr (3, [.null, .ref q156, .ref q159, .ref q162, .ref q165, .null, .null, .null, .int 0, .null, .null, .int 0, .int 0, .int 0, .int 0, .int 0])) ++ [(q156, .inl (k.1, 8, .inl (fun _ => 0))), (q159, .inl (k.1, 8, .inl (fun _ => 0))), (q162, .inl (k.1, 8, .inl (fun _ => 0))), (q165, .inl (k.1, 8, .inl (fun _ => 0)))]) _ _ := hh167
  refine lv_aload_n hx hb hc_d_Play_36 rfl (lv_at hl 0 rfl) ?_
  refine lv_bipush (v := nI 8) hx hb hc_d_Play_37 (by decide) ?_
  refine hc_newi (N' := 8) (cA := k.1) hx hb hTw hGs.1 hh167 hc_w3 hk0.1.2 (by decide) (by decide) (Nat.le_of_ble_eq_true rfl) (Nat.le_of_ble_eq_true rfl) (Nat.le_of_ble_eq_true rfl) hc_d_Play_39 (fun q168 Hhh169 hh169 => ?_)
  rw [List.append_assoc] at hh169
  have hh169 : hc_H D s wd (wd.set 80 (a, .inr (3, [.null, .ref q156, .ref q159, .ref q162, .ref q165, .null, .null, .null, .int 0, .null, .null, .int 0, .int 0, .int 0, .int 0, .int 0])) ++ [(q156, .inl (k.1, 8, .inl (fun _ => 0))), (q159, .inl (k.1, 8, .inl (fun _ => 0))), (q162, .inl (k.1, 8, .inl (fun _ => 0))), (q165, .inl (k.1, 8, .inl (fun _ => 0))), (q168, .inl (k.1, 8, .inl (fun _ => 0)))]) _ _ := hh169
  refine hc_putF (ci := 3) (k := 5) (own := "HopeBank$Play") (C := RX3) (T := TX3) (N := 16) (t := tyX3 5) hx hb hown hTw hGs.1 hin hh169 rfl (hc_get hn hkn) (by decide) hc_w85 rfl rfl (tyX3_ok 5 (by decide)) rfl rfl (Nat.le_of_ble_eq_true rfl) hc_d_Play_41 (hc_set hn hkn) (fun Hhh170 locshh170 hh170 => ?_)
  have hh170 : hc_H D s wd (wd.set 80 (a, .inr (3, [.null, .ref q156, .ref q159, .ref q162, .ref q165, .ref q168, .null, .null, .int 0, .null, .null, .int 0, .int 0, .int 0, .int 0, .int 0])) ++ [(q156, .inl (k.1, 8, .inl (fun _ => 0))), (q159, .inl (k.1, 8, .inl (fun _ => 0))), (q162, .inl (k.1, 8, .inl (fun _ => 0))), (q165, .inl (k.1, 8, .inl (fun _ => 0))), (q168, .inl (k.1, 8, .inl (fun _ => 0)))]) _ _ := hh170
  refine lv_aload_n hx hb hc_d_Play_44 rfl (lv_at hl 0 rfl) ?_
  refine lv_bipush (v := nI 6) hx hb hc_d_Play_45 (by decide) ?_
  refine hc_newi (N' := 6) (cA := k.1) hx hb hTw hGs.1 hh170 hc_w3 hk0.1.2 (by decide) (by decide) (Nat.le_of_ble_eq_true rfl) (Nat.le_of_ble_eq_true rfl) (Nat.le_of_ble_eq_true rfl) hc_d_Play_47 (fun q171 Hhh172 hh172 => ?_)
  rw [List.append_assoc] at hh172
  have hh172 : hc_H D s wd (wd.set 80 (a, .inr (3, [.null, .ref q156, .ref q159, .ref q162, .ref q165, .ref q168, .null, .null, .int 0, .null, .null, .int 0, .int 0, .int 0, .int 0, .int 0])) ++ [(q156, .inl (k.1, 8, .inl (fun _ => 0))), (q159, .inl (k.1, 8, .inl (fun _ => 0))), (q162, .inl (k.1, 8, .inl (fun _ => 0))), (q165, .inl (k.1, 8, .inl (fun _ => 0))), (q168, .inl (k.1, 8, .inl (fun _ => 0))), (q171, .inl (k.1, 6, .inl (fun _ => 0)))]) _ _ := hh172
  refine hc_putF (ci := 3) (k := 6) (own := "HopeBank$Play") (C := RX3) (T := TX3) (N := 16) (t := tyX3 6) hx hb hown hTw hGs.1 hin hh172 rfl (hc_get hn hkn) (by decide) hc_w86 rfl rfl (tyX3_ok 6 (by decide)) rfl rfl (Nat.le_of_ble_eq_true rfl) hc_d_Play_49 (hc_set hn hkn) (fun Hhh173 locshh173 hh173 => ?_)
  have hh173 : hc_H D s wd (wd.set 80 (a, .inr (3, [.null, .ref q156, .ref q159, .ref q162, .ref q165, .ref q168, .ref q171, .null, .int 0, .null, .null, .int 0, .int 0, .int 0, .int 0, .int 0])) ++ [(q156, .inl (k.1, 8, .inl (fun _ => 0))), (q159, .inl (k.1, 8, .inl (fun _ => 0))), (q162, .inl (k.1, 8, .inl (fun _ => 0))), (q165, .inl (k.1, 8, .inl (fun _ => 0))), (q168, .inl (k.1, 8, .inl (fun _ => 0))), (q171, .inl (k.1, 6, .inl (fun _ => 0)))]) _ _ := hh173
  refine lv_aload_n hx hb hc_d_Play_52 rfl (lv_at hl 0 rfl) ?_
  refine lv_bipush (v := nI 30) hx hb hc_d_Play_53 (by decide) ?_
  refine hc_newi (N' := 30) (cA := k.1) hx hb hTw hGs.1 hh173 hc_w3 hk0.1.2 (by decide) (by decide) (Nat.le_of_ble_eq_true rfl) (Nat.le_of_ble_eq_true rfl) (Nat.le_of_ble_eq_true rfl) hc_d_Play_55 (fun q174 Hhh175 hh175 => ?_)
  rw [List.append_assoc] at hh175
  have hh175 : hc_H D s wd (wd.set 80 (a, .inr (3, [.null, .ref q156, .ref q159, .ref q162, .ref q165, .ref q168, .ref q171, .null, .int 0, .null, .null, .int 0, .int 0, .int 0, .int 0, .int 0])) ++ [(q156, .inl (k.1, 8, .inl (fun _ => 0))), (q159, .inl (k.1, 8, .inl (fun _ => 0))), (q162, .inl (k.1, 8, .inl (fun _ => 0))), (q165, .inl (k.1, 8, .inl (fun _ => 0))), (q168, .inl (k.1, 8, .inl (fun _ => 0))), (q171, .inl (k.1, 6, .inl (fun _ => 0))), (q174, .inl (k.1, 30, .inl (fun _ => 0)))]) _ _ := hh175
  refine hc_putF (ci := 3) (k := 7) (own := "HopeBank$Play") (C := RX3) (T := TX3) (N := 16) (t := tyX3 7) hx hb hown hTw hGs.1 hin hh175 rfl (hc_get hn hkn) (by decide) hc_w87 rfl rfl (tyX3_ok 7 (by decide)) rfl rfl (Nat.le_of_ble_eq_true rfl) hc_d_Play_57 (hc_set hn hkn) (fun Hhh176 locshh176 hh176 => ?_)
  have hh176 : hc_H D s wd (wd.set 80 (a, .inr (3, [.null, .ref q156, .ref q159, .ref q162, .ref q165, .ref q168, .ref q171, .ref q174, .int 0, .null, .null, .int 0, .int 0, .int 0, .int 0, .int 0])) ++ [(q156, .inl (k.1, 8, .inl (fun _ => 0))), (q159, .inl (k.1, 8, .inl (fun _ => 0))), (q162, .inl (k.1, 8, .inl (fun _ => 0))), (q165, .inl (k.1, 8, .inl (fun _ => 0))), (q168, .inl (k.1, 8, .inl (fun _ => 0))), (q171, .inl (k.1, 6, .inl (fun _ => 0))), (q174, .inl (k.1, 30, .inl (fun _ => 0)))]) _ _ := hh176
  refine lv_aload_n hx hb hc_d_Play_60 rfl (lv_at hl 0 rfl) ?_
  refine lv_iconst (v := nI 5) hx hb hc_d_Play_61 (by decide) ?_
  refine hc_newi (N' := 5) (cA := k.1) hx hb hTw hGs.1 hh176 hc_w3 hk0.1.2 (by decide) (by decide) (Nat.le_of_ble_eq_true rfl) (Nat.le_of_ble_eq_true rfl) (Nat.le_of_ble_eq_true rfl) hc_d_Play_62 (fun q177 Hhh178 hh178 => ?_)
  rw [List.append_assoc] at hh178
  have hh178 : hc_H D s wd (wd.set 80 (a, .inr (3, [.null, .ref q156, .ref q159, .ref q162, .ref q165, .ref q168, .ref q171, .ref q174, .int 0, .null, .null, .int 0, .int 0, .int 0, .int 0, .int 0])) ++ [(q156, .inl (k.1, 8, .inl (fun _ => 0))), (q159, .inl (k.1, 8, .inl (fun _ => 0))), (q162, .inl (k.1, 8, .inl (fun _ => 0))), (q165, .inl (k.1, 8, .inl (fun _ => 0))), (q168, .inl (k.1, 8, .inl (fun _ => 0))), (q171, .inl (k.1, 6, .inl (fun _ => 0))), (q174, .inl (k.1, 30, .inl (fun _ => 0))), (q177, .inl (k.1, 5, .inl (fun _ => 0)))]) _ _ := hh178
  refine hc_putF (ci := 3) (k := 9) (own := "HopeBank$Play") (C := RX3) (T := TX3) (N := 16) (t := tyX3 9) hx hb hown hTw hGs.1 hin hh178 rfl (hc_get hn hkn) (by decide) hc_w88 rfl rfl (tyX3_ok 9 (by decide)) rfl rfl (Nat.le_of_ble_eq_true rfl) hc_d_Play_64 (hc_set hn hkn) (fun Hhh179 locshh179 hh179 => ?_)
  have hh179 : hc_H D s wd (wd.set 80 (a, .inr (3, [.null, .ref q156, .ref q159, .ref q162, .ref q165, .ref q168, .ref q171, .ref q174, .int 0, .ref q177, .null, .int 0, .int 0, .int 0, .int 0, .int 0])) ++ [(q156, .inl (k.1, 8, .inl (fun _ => 0))), (q159, .inl (k.1, 8, .inl (fun _ => 0))), (q162, .inl (k.1, 8, .inl (fun _ => 0))), (q165, .inl (k.1, 8, .inl (fun _ => 0))), (q168, .inl (k.1, 8, .inl (fun _ => 0))), (q171, .inl (k.1, 6, .inl (fun _ => 0))), (q174, .inl (k.1, 30, .inl (fun _ => 0))), (q177, .inl (k.1, 5, .inl (fun _ => 0)))]) _ _ := hh179
  refine lv_aload_n hx hb hc_d_Play_67 rfl (lv_at hl 0 rfl) ?_
  refine lv_iconst (v := nI 5) hx hb hc_d_Play_68 (by decide) ?_
  refine hc_newi (N' := 5) (cA := k.1) hx hb hTw hGs.1 hh179 hc_w3 hk0.1.2 (by decide) (by decide) (Nat.le_of_ble_eq_true rfl) (Nat.le_of_ble_eq_true rfl) (Nat.le_of_ble_eq_true rfl) hc_d_Play_69 (fun q180 Hhh181 hh181 => ?_)
  rw [List.append_assoc] at hh181
  have hh181 : hc_H D s wd (wd.set 80 (a, .inr (3, [.null, .ref q156, .ref q159, .ref q162, .ref q165, .ref q168, .ref q171, .ref q174, .int 0, .ref q177, .null, .int 0, .int 0, .int 0, .int 0, .int 0])) ++ [(q156, .inl (k.1, 8, .inl (fun _ => 0))), (q159, .inl (k.1, 8, .inl (fun _ => 0))), (q162, .inl (k.1, 8, .inl (fun _ => 0))), (q165, .inl (k.1, 8, .inl (fun _ => 0))), (q168, .inl (k.1, 8, .inl (fun _ => 0))), (q171, .inl (k.1, 6, .inl (fun _ => 0))), (q174, .inl (k.1, 30, .inl (fun _ => 0))), (q177, .inl (k.1, 5, .inl (fun _ => 0))), (q180, .inl (k.1, 5, .inl (fun _ => 0)))]) _ _ := hh181
  refine hc_putF (ci := 3) (k := 10) (own := "HopeBank$Play") (C := RX3) (T := TX3) (N := 16) (t := tyX3 10) hx hb hown hTw hGs.1 hin hh181 rfl (hc_get hn hkn) (by decide) hc_w89 rfl rfl (tyX3_ok 10 (by decide)) rfl rfl (Nat.le_of_ble_eq_true rfl) hc_d_Play_71 (hc_set hn hkn) (fun Hhh182 locshh182 hh182 => ?_)
  have hh182 : hc_H D s wd (wd.set 80 (a, .inr (3, [.null, .ref q156, .ref q159, .ref q162, .ref q165, .ref q168, .ref q171, .ref q174, .int 0, .ref q177, .ref q180, .int 0, .int 0, .int 0, .int 0, .int 0])) ++ [(q156, .inl (k.1, 8, .inl (fun _ => 0))), (q159, .inl (k.1, 8, .inl (fun _ => 0))), (q162, .inl (k.1, 8, .inl (fun _ => 0))), (q165, .inl (k.1, 8, .inl (fun _ => 0))), (q168, .inl (k.1, 8, .inl (fun _ => 0))), (q171, .inl (k.1, 6, .inl (fun _ => 0))), (q174, .inl (k.1, 30, .inl (fun _ => 0))), (q177, .inl (k.1, 5, .inl (fun _ => 0))), (q180, .inl (k.1, 5, .inl (fun _ => 0)))]) _ _ := hh182
  refine lv_aload_n hx hb hc_d_Play_74 rfl (lv_at hl 0 rfl) ?_
  refine lv_aload_n hx hb hc_d_Play_75 rfl (lv_at hl 1 rfl) ?_
  refine hc_putF (ci := 3) (k := 0) (own := "HopeBank$Play") (C := RX3) (T := TX3) (N := 16) (t := tyX3 0) hx hb hown hTw hGs.1 hin hh182 rfl (hc_get hn hkn) (by decide) hc_w90 rfl rfl (tyX3_ok 0 (by decide)) rfl rfl (Nat.le_of_ble_eq_true rfl) hc_d_Play_76 (hc_set hn hkn) (fun Hhh183 locshh183 hh183 => ?_)
  have hh183 : hc_H D s wd (wd.set 80 (a, .inr (3, [.ref x1, .ref q156, .ref q159, .ref q162, .ref q165, .ref q168, .ref q171, .ref q174, .int 0, .ref q177, .ref q180, .int 0, .int 0, .int 0, .int 0, .int 0])) ++ [(q156, .inl (k.1, 8, .inl (fun _ => 0))), (q159, .inl (k.1, 8, .inl (fun _ => 0))), (q162, .inl (k.1, 8, .inl (fun _ => 0))), (q165, .inl (k.1, 8, .inl (fun _ => 0))), (q168, .inl (k.1, 8, .inl (fun _ => 0))), (q171, .inl (k.1, 6, .inl (fun _ => 0))), (q174, .inl (k.1, 30, .inl (fun _ => 0))), (q177, .inl (k.1, 5, .inl (fun _ => 0))), (q180, .inl (k.1, 5, .inl (fun _ => 0)))]) _ _ := hh183
  obtain ⟨w, hw⟩ : ∃ w : va_W, w = wd.set 80 (a, .inr (3, [.ref x1, .ref q156, .ref q159, .ref q162, .ref q165, .ref q168, .ref q171, .ref q174, .int 0, .ref q177, .ref q180, .int 0, .int 0, .int 0, .int 0, .int 0])) ++ [(q156, .inl (k.1, 8, .inl (fun _ => 0))), (q159, .inl (k.1, 8, .inl (fun _ => 0))), (q162, .inl (k.1, 8, .inl (fun _ => 0))), (q165, .inl (k.1, 8, .inl (fun _ => 0))), (q168, .inl (k.1, 8, .inl (fun _ => 0))), (q171, .inl (k.1, 6, .inl (fun _ => 0))), (q174, .inl (k.1, 30, .inl (fun _ => 0))), (q177, .inl (k.1, 5, .inl (fun _ => 0))), (q180, .inl (k.1, 5, .inl (fun _ => 0)))] := ⟨_, rfl⟩
  rw [← hw] at hh183
  have hU : ∀ c, c < 81 → hc_ad w c = hc_ad wd c := fun c hc => by rw [hw]; exact hc_ado hn hc hk
  have g80 : w[80]? = some (a, .inr (3, [.ref x1, .ref q156, .ref q159, .ref q162, .ref q165, .ref q168, .ref q171, .ref q174, .int 0, .ref q177, .ref q180, .int 0, .int 0, .int 0, .int 0, .int 0])) := by rw [hw]; exact hc_get hn (by decide)
  have g81 : w[81]? = some (q156, .inl (k.1, 8, .inl (fun _ => 0))) := by rw [hw]; exact (hc_getr (i := 0) hn).trans rfl
  have g82 : w[82]? = some (q159, .inl (k.1, 8, .inl (fun _ => 0))) := by rw [hw]; exact (hc_getr (i := 1) hn).trans rfl
  have g83 : w[83]? = some (q162, .inl (k.1, 8, .inl (fun _ => 0))) := by rw [hw]; exact (hc_getr (i := 2) hn).trans rfl
  have g84 : w[84]? = some (q165, .inl (k.1, 8, .inl (fun _ => 0))) := by rw [hw]; exact (hc_getr (i := 3) hn).trans rfl
  have g85 : w[85]? = some (q168, .inl (k.1, 8, .inl (fun _ => 0))) := by rw [hw]; exact (hc_getr (i := 4) hn).trans rfl
  have g86 : w[86]? = some (q171, .inl (k.1, 6, .inl (fun _ => 0))) := by rw [hw]; exact (hc_getr (i := 5) hn).trans rfl
  have g87 : w[87]? = some (q174, .inl (k.1, 30, .inl (fun _ => 0))) := by rw [hw]; exact (hc_getr (i := 6) hn).trans rfl
  have g88 : w[88]? = some (q177, .inl (k.1, 5, .inl (fun _ => 0))) := by rw [hw]; exact (hc_getr (i := 7) hn).trans rfl
  have g89 : w[89]? = some (q180, .inl (k.1, 5, .inl (fun _ => 0))) := by rw [hw]; exact (hc_getr (i := 8) hn).trans rfl
  have d80 : hc_ad w 80 = a := by unfold hc_ad; rw [g80]; rfl
  have d81 : hc_ad w 81 = q156 := by unfold hc_ad; rw [g81]; rfl
  have d82 : hc_ad w 82 = q159 := by unfold hc_ad; rw [g82]; rfl
  have d83 : hc_ad w 83 = q162 := by unfold hc_ad; rw [g83]; rfl
  have d84 : hc_ad w 84 = q165 := by unfold hc_ad; rw [g84]; rfl
  have d85 : hc_ad w 85 = q168 := by unfold hc_ad; rw [g85]; rfl
  have d86 : hc_ad w 86 = q171 := by unfold hc_ad; rw [g86]; rfl
  have d87 : hc_ad w 87 = q174 := by unfold hc_ad; rw [g87]; rfl
  have d88 : hc_ad w 88 = q177 := by unfold hc_ad; rw [g88]; rfl
  have d89 : hc_ad w 89 = q180 := by unfold hc_ad; rw [g89]; rfl
  have d19 : hc_ad w 19 = x1 := (hU 19 (by decide)).trans hx1
  have hT : hb_wd hb_KT s (hc_ad w) w [80, 81, 82, 83, 84, 85, 86, 87, 88, 89] := (hc_wdc (kd := (0, 3, 16, [(2, 19, 0), (2, 81, 0), (2, 82, 0), (2, 83, 0), (2, 84, 0), (2, 85, 0), (2, 86, 0), (2, 87, 0), (0, (-2147483648), 2147483647), (2, 88, 0), (2, 89, 0), (0, (-2147483648), 2147483647), (0, (-2147483648), 2147483647), (0, 0, 1), (0, (-2147483648), 2147483647), (0, (-2147483648), 2147483647)])) rfl (hc_at g80) (hc_cellO rfl ⟨congrArg Value.ref (d19).symm, congrArg Value.ref (d81).symm, congrArg Value.ref (d82).symm, congrArg Value.ref (d83).symm, congrArg Value.ref (d84).symm, congrArg Value.ref (d85).symm, congrArg Value.ref (d86).symm, congrArg Value.ref (d87).symm, ⟨0, rfl, by decide, by decide⟩, congrArg Value.ref (d88).symm, congrArg Value.ref (d89).symm, ⟨0, rfl, by decide, by decide⟩, ⟨0, rfl, by decide, by decide⟩, ⟨0, rfl, by decide, by decide⟩, ⟨0, rfl, by decide, by decide⟩, ⟨0, rfl, by decide, by decide⟩, trivial⟩) (by decide) (hc_wdc (kd := (1, 0, 8, [(0, (-2147483648), 2147483647)])) rfl (hc_at g81) (hc_cellI hk0.1 (fun _ _ => ⟨by decide, by decide⟩)) (by decide) (hc_wdc (kd := (1, 0, 8, [(0, (-2147483648), 2147483647)])) rfl (hc_at g82) (hc_cellI hk0.1 (fun _ _ => ⟨by decide, by decide⟩)) (by decide) (hc_wdc (kd := (1, 0, 8, [(0, (-2147483648), 2147483647)])) rfl (hc_at g83) (hc_cellI hk0.1 (fun _ _ => ⟨by decide, by decide⟩)) (by decide) (hc_wdc (kd := (1, 0, 8, [(0, (-2147483648), 2147483647)])) rfl (hc_at g84) (hc_cellI hk0.1 (fun _ _ => ⟨by decide, by decide⟩)) (by decide) (hc_wdc (kd := (1, 0, 8, [(0, (-2147483648), 2147483647)])) rfl (hc_at g85) (hc_cellI hk0.1 (fun _ _ => ⟨by decide, by decide⟩)) (by decide) (hc_wdc (kd := (1, 0, 6, [(0, (-2147483648), 2147483647)])) rfl (hc_at g86) (hc_cellI hk0.1 (fun _ _ => ⟨by decide, by decide⟩)) (by decide) (hc_wdc (kd := (1, 0, 30, [(0, (-2147483648), 2147483647)])) rfl (hc_at g87) (hc_cellI hk0.1 (fun _ _ => ⟨by decide, by decide⟩)) (by decide) (hc_wdc (kd := (1, 0, 5, [(0, (-2147483648), 2147483647)])) rfl (hc_at g88) (hc_cellI hk0.1 (fun _ _ => ⟨by decide, by decide⟩)) (by decide) (hc_wdc (kd := (1, 0, 5, [(0, (-2147483648), 2147483647)])) rfl (hc_at g89) (hc_cellI hk0.1 (fun _ _ => ⟨by decide, by decide⟩)) (by decide) hc_wdn))))))))))
  have hO : hb_wd hb_KT s (hc_ad w) w [19, 22, 23] := hc_wdU (n := 81) hwd (by decide +kernel) hU (fun c hc => by rw [hw]; exact hc_old hn (by rcases List.mem_cons.mp hc with e | hc; (· omega); rcases List.mem_cons.mp hc with e | hc; (· omega); rcases List.mem_cons.mp hc with e | hc; (· omega); cases hc) (fun e => by subst e; revert hc; decide))
  have hF : hb_wd hb_KT s (hc_ad w) w [19, 22, 23, 80, 81, 82, 83, 84, 85, 86, 87, 88, 89] := hc_wda hO hT
  refine lv_aload_n hx hb hc_d_Play_79 rfl (lv_at hl 0 rfl) ?_
  refine lv_iconst (v := (-1 : Int32)) hx hb hc_d_Play_80 (by decide) ?_
  refine lv_iconst (v := nI 1) hx hb hc_d_Play_81 (by decide) ?_
  refine hc_cQ (q := hb_q258) (y := (⟨"HopeBank$Play", "choose", "(IZ)V"⟩, prog_5_method_2_code, 3, none)) (U := hc_ad w) (root := 80) (ci := 3) (b := a) (As := [.int (-1 : Int32), .int (nI 1)]) (rest := []) hBd hGs hh183 hb_m258 rfl rfl rfl (by decide +kernel) ⟨congrArg Value.ref d80.symm, ⟨by decide, _, rfl, by decide⟩, ⟨by decide, _, rfl, by decide⟩, trivial⟩ (hT.less (by decide)) g80 rfl hc_w91 hc_w92 hc_w93 hc_w94 (by decide) ⟨(Nat.le_of_ble_eq_true rfl), (Nat.le_of_ble_eq_true rfl)⟩ (fun sig h => by cases h; rfl) hl.1 rfl (Nat.le_of_ble_eq_true rfl) ⟨(Nat.le_of_ble_eq_true rfl), (Nat.le_of_ble_eq_true rfl)⟩ hc_d_Play_82 (fun w1 H1 locs1 hh1 hwd1 hf1 => ?_)
  have hF1 : hb_wd hb_KT s (hc_ad w) w1 [19, 22, 23, 80, 81, 82, 83, 84, 85, 86, 87, 88, 89] := hF.back (Vm.Alike.refl _) hwd1 hf1 (by decide)
  obtain ⟨kd, ec, c1, c2, c3, c4⟩ := hF1 80 (by decide)
  rw [show hb_KT[80]? = some (0, 3, 16, [(2, 19, 0), (2, 81, 0), (2, 82, 0), (2, 83, 0), (2, 84, 0), (2, 85, 0), (2, 86, 0), (2, 87, 0), (0, (-2147483648), 2147483647), (2, 88, 0), (2, 89, 0), (0, (-2147483648), 2147483647), (0, (-2147483648), 2147483647), (0, 0, 1), (0, (-2147483648), 2147483647), (0, (-2147483648), 2147483647)]) from rfl] at c1
  cases c1
  obtain ⟨fs1, e1, -⟩ := hb_sh0 c3.1 rfl
  subst e1
  rw [d80] at c2
  refine lv_aload_n hx hb hc_d_Play_85 rfl (lv_at hl 0 rfl) ?_
  refine hc_cQ (q := hb_q268) (y := (⟨"HopeBank$Play", "begin", "()V"⟩, prog_5_method_5_code, 2, none)) (U := hc_ad w) (root := 80) (ci := 3) (b := a) (As := []) (rest := []) hBd hGs hh1 hb_m268 rfl rfl rfl (by decide +kernel) ⟨congrArg Value.ref d80.symm, trivial⟩ hF1 c2 rfl hc_w91 hc_w95 hc_w96 hc_w97 (by decide) ⟨(Nat.le_of_ble_eq_true rfl), (Nat.le_of_ble_eq_true rfl)⟩ (fun sig h => by cases h; rfl) hl.1 rfl (Nat.le_of_ble_eq_true rfl) ⟨(Nat.le_of_ble_eq_true rfl), (Nat.le_of_ble_eq_true rfl)⟩ hc_d_Play_86 (fun w2 H2 locs2 hh2 hwd2 hf2 => ?_)
  have hea : hc_ad w2 = hc_ad w := funext (fun c => (hc_fra hf2 c).trans (hc_fra hf1 c))
  refine W.widen (k := 9) (n := 86) (by omega) (by omega) ?_
  refine hc_ret hx hb hret hlocks hh2 hc_d_Play_89 (fun t hv => ⟨?_, fun j hj => ?_, fun j hj hjk => ?_, ?_⟩)
  · rw [hc_frl hf2, hc_frl hf1, hw, List.length_append, List.length_set, hn]; rfl
  · rw [hea]; exact hU j (by omega)
  · rw [(hf2 j).2 (hc_nm (lo := 80) (hj := by omega)), (hf1 j).2 (hc_nm (lo := 80) (hj := by omega)), hw]; exact hc_old hn (by omega) (fun e => hjk e.symm)
  · rw [hea]; exact (hwd2.moved hv).less (by decide)
set_option maxHeartbeats 8000000 in
theorem hc_Play92 {l : Launch} {D : va_G} {S : Nat → Nat} {wd : va_W} {a x1 : Nat} (hn : wd.length = 93) (hk : wd[92]? = some (a, .inr (3, hc_Z_Play))) (hx1 : hc_ad wd 19 = x1) : hc_Met l hc_y_Play 2 45 9 86 D (hc_ad wd) S wd [19, 22, 23] [.ref a, .ref x1] (hc_PT wd 92 102 [92, 93, 94, 95, 96, 97, 98, 99, 100, 101]) := by
  refine hc_enter (by decide) (Nat.le_of_ble_eq_true rfl) ?_
  intro p e s m below meth c ls hBd hin hh hwd hGs hX hl
  obtain ⟨hx, hb, hml, hown, hlocks, hret, hTw⟩ := id hBd
  obtain ⟨k, hk0⟩ := hc_Kof hTw
  have hkn := (List.getElem?_eq_some_iff.mp hk).1
  rw [hn] at hkn
  have hh : hc_H D s wd (wd.set 92 (a, .inr (3, [.null, .null, .null, .null, .null, .null, .null, .null, .int 0, .null, .null, .int 0, .int 0, .int 0, .int 0, .int 0])) ++ []) s.heap [] := by rw [← hc_start (show wd[92]? = some (a, .inr (3, [.null, .null, .null, .null, .null, .null, .null, .null, .int 0, .null, .null, .int 0, .int 0, .int 0, .int 0, .int 0])) from hk)]; exact hh
  refine lv_aload_n hx hb hc_d_Play_0 rfl (lv_at hl 0 rfl) ?_
  refine hc_obj (own := "HopeBank$Play") hx hb (by rw [hml, hl.1]) hown hTw hc_w80 hc_oi hc_oc hc_d_Play_1 (Nat.le_of_ble_eq_true rfl) (Nat.le_of_ble_eq_true rfl) ?_
  refine lv_aload_n hx hb hc_d_Play_4 rfl (lv_at hl 0 rfl) ?_
  refine lv_bipush (v := nI 8) hx hb hc_d_Play_5 (by decide) ?_
  refine hc_newi (N' := 8) (cA := k.1) hx hb hTw hGs.1 hh hc_w3 hk0.1.2 (by decide) (by decide) (Nat.le_of_ble_eq_true rfl) (Nat.le_of_ble_eq_true rfl) (Nat.le_of_ble_eq_true rfl) hc_d_Play_7 (fun q184 Hhh185 hh185 => ?_)
  rw [List.append_assoc] at hh185
  have hh185 : hc_H D s wd (wd.set 92 (a, .inr (3, [.null, .null, .null, .null, .null, .null, .null, .null, .int 0, .null, .null, .int 0, .int 0, .int 0, .int 0, .int 0])) ++ [(q184, .inl (k.1, 8, .inl (fun _ => 0)))]) _ _ := hh185
  refine hc_putF (ci := 3) (k := 1) (own := "HopeBank$Play") (C := RX3) (T := TX3) (N := 16) (t := tyX3 1) hx hb hown hTw hGs.1 hin hh185 rfl (hc_get hn hkn) (by decide) hc_w81 rfl rfl (tyX3_ok 1 (by decide)) rfl rfl (Nat.le_of_ble_eq_true rfl) hc_d_Play_9 (hc_set hn hkn) (fun Hhh186 locshh186 hh186 => ?_)
  have hh186 : hc_H D s wd (wd.set 92 (a, .inr (3, [.null, .ref q184, .null, .null, .null, .null, .null, .null, .int 0, .null, .null, .int 0, .int 0, .int 0, .int 0, .int 0])) ++ [(q184, .inl (k.1, 8, .inl (fun _ => 0)))]) _ _ := hh186
  refine lv_aload_n hx hb hc_d_Play_12 rfl (lv_at hl 0 rfl) ?_
  refine lv_bipush (v := nI 8) hx hb hc_d_Play_13 (by decide) ?_
  refine hc_newi (N' := 8) (cA := k.1) hx hb hTw hGs.1 hh186 hc_w3 hk0.1.2 (by decide) (by decide) (Nat.le_of_ble_eq_true rfl) (Nat.le_of_ble_eq_true rfl) (Nat.le_of_ble_eq_true rfl) hc_d_Play_15 (fun q187 Hhh188 hh188 => ?_)
  rw [List.append_assoc] at hh188
  have hh188 : hc_H D s wd (wd.set 92 (a, .inr (3, [.null, .ref q184, .null, .null, .null, .null, .null, .null, .int 0, .null, .null, .int 0, .int 0, .int 0, .int 0, .int 0])) ++ [(q184, .inl (k.1, 8, .inl (fun _ => 0))), (q187, .inl (k.1, 8, .inl (fun _ => 0)))]) _ _ := hh188
  refine hc_putF (ci := 3) (k := 2) (own := "HopeBank$Play") (C := RX3) (T := TX3) (N := 16) (t := tyX3 2) hx hb hown hTw hGs.1 hin hh188 rfl (hc_get hn hkn) (by decide) hc_w82 rfl rfl (tyX3_ok 2 (by decide)) rfl rfl (Nat.le_of_ble_eq_true rfl) hc_d_Play_17 (hc_set hn hkn) (fun Hhh189 locshh189 hh189 => ?_)
  have hh189 : hc_H D s wd (wd.set 92 (a, .inr (3, [.null, .ref q184, .ref q187, .null, .null, .null, .null, .null, .int 0, .null, .null, .int 0, .int 0, .int 0, .int 0, .int 0])) ++ [(q184, .inl (k.1, 8, .inl (fun _ => 0))), (q187, .inl (k.1, 8, .inl (fun _ => 0)))]) _ _ := hh189
  refine lv_aload_n hx hb hc_d_Play_20 rfl (lv_at hl 0 rfl) ?_
  refine lv_bipush (v := nI 8) hx hb hc_d_Play_21 (by decide) ?_
  refine hc_newi (N' := 8) (cA := k.1) hx hb hTw hGs.1 hh189 hc_w3 hk0.1.2 (by decide) (by decide) (Nat.le_of_ble_eq_true rfl) (Nat.le_of_ble_eq_true rfl) (Nat.le_of_ble_eq_true rfl) hc_d_Play_23 (fun q190 Hhh191 hh191 => ?_)
  rw [List.append_assoc] at hh191
  have hh191 : hc_H D s wd (wd.set 92 (a, .inr (3, [.null, .ref q184, .ref q187, .null, .null, .null, .null, .null, .int 0, .null, .null, .int 0, .int 0, .int 0, .int 0, .int 0])) ++ [(q184, .inl (k.1, 8, .inl (fun _ => 0))), (q187, .inl (k.1, 8, .inl (fun _ => 0))), (q190, .inl (k.1, 8, .inl (fun _ => 0)))]) _ _ := hh191
  refine hc_putF (ci := 3) (k := 3) (own := "HopeBank$Play") (C := RX3) (T := TX3) (N := 16) (t := tyX3 3) hx hb hown hTw hGs.1 hin hh191 rfl (hc_get hn hkn) (by decide) hc_w83 rfl rfl (tyX3_ok 3 (by decide)) rfl rfl (Nat.le_of_ble_eq_true rfl) hc_d_Play_25 (hc_set hn hkn) (fun Hhh192 locshh192 hh192 => ?_)
  have hh192 : hc_H D s wd (wd.set 92 (a, .inr (3, [.null, .ref q184, .ref q187, .ref q190, .null, .null, .null, .null, .int 0, .null, .null, .int 0, .int 0, .int 0, .int 0, .int 0])) ++ [(q184, .inl (k.1, 8, .inl (fun _ => 0))), (q187, .inl (k.1, 8, .inl (fun _ => 0))), (q190, .inl (k.1, 8, .inl (fun _ => 0)))]) _ _ := hh192
  refine lv_aload_n hx hb hc_d_Play_28 rfl (lv_at hl 0 rfl) ?_
  refine lv_bipush (v := nI 8) hx hb hc_d_Play_29 (by decide) ?_
  refine hc_newi (N' := 8) (cA := k.1) hx hb hTw hGs.1 hh192 hc_w3 hk0.1.2 (by decide) (by decide) (Nat.le_of_ble_eq_true rfl) (Nat.le_of_ble_eq_true rfl) (Nat.le_of_ble_eq_true rfl) hc_d_Play_31 (fun q193 Hhh194 hh194 => ?_)
  rw [List.append_assoc] at hh194
  have hh194 : hc_H D s wd (wd.set 92 (a, .inr (3, [.null, .ref q184, .ref q187, .ref q190, .null, .null, .null, .null, .int 0, .null, .null, .int 0, .int 0, .int 0, .int 0, .int 0])) ++ [(q184, .inl (k.1, 8, .inl (fun _ => 0))), (q187, .inl (k.1, 8, .inl (fun _ => 0))), (q190, .inl (k.1, 8, .inl (fun _ => 0))), (q193, .inl (k.1, 8, .inl (fun _ => 0)))]) _ _ := hh194
  refine hc_putF (ci := 3) (k := 4) (own := "HopeBank$Play") (C := RX3) (T := TX3) (N := 16) (t := tyX3 4) hx hb hown hTw hGs.1 hin hh194 rfl (hc_get hn hkn) (by decide) hc_w84 rfl rfl (tyX3_ok 4 (by decide)) rfl rfl (Nat.le_of_ble_eq_true rfl) hc_d_Play_33 (hc_set hn hkn) (fun Hhh195 locshh195 hh195 => ?_)
  have hh195 : hc_H D s wd (wd.set 92 (a, .inr (3, [.null, .ref q184, .ref q187, .ref q190, .ref q193, .null, .null, .null, .int 0, .null, .null, .int 0, .int 0, .int 0, .int 0, .int 0])) ++ [(q184, .inl (k.1, 8, .inl (fun _ => 0))), (q187, .inl (k.1, 8, .inl (fun _ => 0))), (q190, .inl (k.1, 8, .inl (fun _ => 0))), (q193, .inl (k.1, 8, .inl (fun _ => 0)))]) _ _ := hh195
  refine lv_aload_n hx hb hc_d_Play_36 rfl (lv_at hl 0 rfl) ?_
  refine lv_bipush (v := nI 8) hx hb hc_d_Play_37 (by decide) ?_
  refine hc_newi (N' := 8) (cA := k.1) hx hb hTw hGs.1 hh195 hc_w3 hk0.1.2 (by decide) (by decide) (Nat.le_of_ble_eq_true rfl) (Nat.le_of_ble_eq_true rfl) (Nat.le_of_ble_eq_true rfl) hc_d_Play_39 (fun q196 Hhh197 hh197 => ?_)
  rw [List.append_assoc] at hh197
  have hh197 : hc_H D s wd (wd.set 92 (a, .inr (3, [.null, .ref q184, .ref q187, .ref q190, .ref q193, .null, .null, .null, .int 0, .null, .null, .int 0, .int 0, .int 0, .int 0, .int 0])) ++ [(q184, .inl (k.1, 8, .inl (fun _ => 0))), (q187, .inl (k.1, 8, .inl (fun _ => 0))), (q190, .inl (k.1, 8, .inl (fun _ => 0))), (q193, .inl (k.1, 8, .inl (fun _ => 0))), (q196, .inl (k.1, 8, .inl (fun _ => 0)))]) _ _ := hh197
  refine hc_putF (ci := 3) (k := 5) (own := "HopeBank$Play") (C := RX3) (T := TX3) (N := 16) (t := tyX3 5) hx hb hown hTw hGs.1 hin hh197 rfl (hc_get hn hkn) (by decide) hc_w85 rfl rfl (tyX3_ok 5 (by decide)) rfl rfl (Nat.le_of_ble_eq_true rfl) hc_d_Play_41 (hc_set hn hkn) (fun Hhh198 locshh198 hh198 => ?_)
  have hh198 : hc_H D s wd (wd.set 92 (a, .inr (3, [.null, .ref q184, .ref q187, .ref q190, .ref q193, .ref q196, .null, .null, .int 0, .null, .null, .int 0, .int 0, .int 0, .int 0, .int 0])) ++ [(q184, .inl (k.1, 8, .inl (fun _ => 0))), (q187, .inl (k.1, 8, .inl (fun _ => 0))), (q190, .inl (k.1, 8, .inl (fun _ => 0))), (q193, .inl (k.1, 8, .inl (fun _ => 0))), (q196, .inl (k.1, 8, .inl (fun _ => 0)))]) _ _ := hh198
  refine lv_aload_n hx hb hc_d_Play_44 rfl (lv_at hl 0 rfl) ?_
  refine lv_bipush (v := nI 6) hx hb hc_d_Play_45 (by decide) ?_
  refine hc_newi (N' := 6) (cA := k.1) hx hb hTw hGs.1 hh198 hc_w3 hk0.1.2 (by decide) (by decide) (Nat.le_of_ble_eq_true rfl) (Nat.le_of_ble_eq_true rfl) (Nat.le_of_ble_eq_true rfl) hc_d_Play_47 (fun q199 Hhh200 hh200 => ?_)
  rw [List.append_assoc] at hh200
  have hh200 : hc_H D s wd (wd.set 92 (a, .inr (3, [.null, .ref q184, .ref q187, .ref q190, .ref q193, .ref q196, .null, .null, .int 0, .null, .null, .int 0, .int 0, .int 0, .int 0, .int 0])) ++ [(q184, .inl (k.1, 8, .inl (fun _ => 0))), (q187, .inl (k.1, 8, .inl (fun _ => 0))), (q190, .inl (k.1, 8, .inl (fun _ => 0))), (q193, .inl (k.1, 8, .inl (fun _ => 0))), (q196, .inl (k.1, 8, .inl (fun _ => 0))), (q199, .inl (k.1, 6, .inl (fun _ => 0)))]) _ _ := hh200
  refine hc_putF (ci := 3) (k := 6) (own := "HopeBank$Play") (C := RX3) (T := TX3) (N := 16) (t := tyX3 6) hx hb hown hTw hGs.1 hin hh200 rfl (hc_get hn hkn) (by decide) hc_w86 rfl rfl (tyX3_ok 6 (by decide)) rfl rfl (Nat.le_of_ble_eq_true rfl) hc_d_Play_49 (hc_set hn hkn) (fun Hhh201 locshh201 hh201 => ?_)
  have hh201 : hc_H D s wd (wd.set 92 (a, .inr (3, [.null, .ref q184, .ref q187, .ref q190, .ref q193, .ref q196, .ref q199, .null, .int 0, .null, .null, .int 0, .int 0, .int 0, .int 0, .int 0])) ++ [(q184, .inl (k.1, 8, .inl (fun _ => 0))), (q187, .inl (k.1, 8, .inl (fun _ => 0))), (q190, .inl (k.1, 8, .inl (fun _ => 0))), (q193, .inl (k.1, 8, .inl (fun _ => 0))), (q196, .inl (k.1, 8, .inl (fun _ => 0))), (q199, .inl (k.1, 6, .inl (fun _ => 0)))]) _ _ := hh201
  refine lv_aload_n hx hb hc_d_Play_52 rfl (lv_at hl 0 rfl) ?_
  refine lv_bipush (v := nI 30) hx hb hc_d_Play_53 (by decide) ?_
  refine hc_newi (N' := 30) (cA := k.1) hx hb hTw hGs.1 hh201 hc_w3 hk0.1.2 (by decide) (by decide) (Nat.le_of_ble_eq_true rfl) (Nat.le_of_ble_eq_true rfl) (Nat.le_of_ble_eq_true rfl) hc_d_Play_55 (fun q202 Hhh203 hh203 => ?_)
  rw [List.append_assoc] at hh203
  have hh203 : hc_H D s wd (wd.set 92 (a, .inr (3, [.null, .ref q184, .ref q187, .ref q190, .ref q193, .ref q196, .ref q199, .null, .int 0, .null, .null, .int 0, .int 0, .int 0, .int 0, .int 0])) ++ [(q184, .inl (k.1, 8, .inl (fun _ => 0))), (q187, .inl (k.1, 8, .inl (fun _ => 0))), (q190, .inl (k.1, 8, .inl (fun _ => 0))), (q193, .inl (k.1, 8, .inl (fun _ => 0))), (q196, .inl (k.1, 8, .inl (fun _ => 0))), (q199, .inl (k.1, 6, .inl (fun _ => 0))), (q202, .inl (k.1, 30, .inl (fun _ => 0)))]) _ _ := hh203
  refine hc_putF (ci := 3) (k := 7) (own := "HopeBank$Play") (C := RX3) (T := TX3) (N := 16) (t := tyX3 7) hx hb hown hTw hGs.1 hin hh203 rfl (hc_get hn hkn) (by decide) hc_w87 rfl rfl (tyX3_ok 7 (by decide)) rfl rfl (Nat.le_of_ble_eq_true rfl) hc_d_Play_57 (hc_set hn hkn) (fun Hhh204 locshh204 hh204 => ?_)
  have hh204 : hc_H D s wd (wd.set 92 (a, .inr (3, [.null, .ref q184, .ref q187, .ref q190, .ref q193, .ref q196, .ref q199, .ref q202, .int 0, .null, .null, .int 0, .int 0, .int 0, .int 0, .int 0])) ++ [(q184, .inl (k.1, 8, .inl (fun _ => 0))), (q187, .inl (k.1, 8, .inl (fun _ => 0))), (q190, .inl (k.1, 8, .inl (fun _ => 0))), (q193, .inl (k.1, 8, .inl (fun _ => 0))), (q196, .inl (k.1, 8, .inl (fun _ => 0))), (q199, .inl (k.1, 6, .inl (fun _ => 0))), (q202, .inl (k.1, 30, .inl (fun _ => 0)))]) _ _ := hh204
  refine lv_aload_n hx hb hc_d_Play_60 rfl (lv_at hl 0 rfl) ?_
  refine lv_iconst (v := nI 5) hx hb hc_d_Play_61 (by decide) ?_
  refine hc_newi (N' := 5) (cA := k.1) hx hb hTw hGs.1 hh204 hc_w3 hk0.1.2 (by decide) (by decide) (Nat.le_of_ble_eq_true rfl) (Nat.le_of_ble_eq_true rfl) (Nat.le_of_ble_eq_true rfl) hc_d_Play_62 (fun q205 Hhh206 hh206 => ?_)
  rw [List.append_assoc] at hh206
  have hh206 : hc_H D s wd (wd.set 92 (a, .inr (3, [.null, .ref q184, .ref q187, .ref q190, .ref q193, .ref q196, .ref q199, .ref q202, .int 0, .null, .null, .int 0, .int 0, .int 0, .int 0, .int 0])) ++ [(q184, .inl (k.1, 8, .inl (fun _ => 0))), (q187, .inl (k.1, 8, .inl (fun _ => 0))), (q190, .inl (k.1, 8, .inl (fun _ => 0))), (q193, .inl (k.1, 8, .inl (fun _ => 0))), (q196, .inl (k.1, 8, .inl (fun _ => 0))), (q199, .inl (k.1, 6, .inl (fun _ => 0))), (q202, .inl (k.1, 30, .inl (fun _ => 0))), (q205, .inl (k.1, 5, .inl (fun _ => 0)))]) _ _ := hh206
  refine hc_putF (ci := 3) (k := 9) (own := "HopeBank$Play") (C := RX3) (T := TX3) (N := 16) (t := tyX3 9) hx hb hown hTw hGs.1 hin hh206 rfl (hc_get hn hkn) (by decide) hc_w88 rfl rfl (tyX3_ok 9 (by decide)) rfl rfl (Nat.le_of_ble_eq_true rfl) hc_d_Play_64 (hc_set hn hkn) (fun Hhh207 locshh207 hh207 => ?_)
  have hh207 : hc_H D s wd (wd.set 92 (a, .inr (3, [.null, .ref q184, .ref q187, .ref q190, .ref q193, .ref q196, .ref q199, .ref q202, .int 0, .ref q205, .null, .int 0, .int 0, .int 0, .int 0, .int 0])) ++ [(q184, .inl (k.1, 8, .inl (fun _ => 0))), (q187, .inl (k.1, 8, .inl (fun _ => 0))), (q190, .inl (k.1, 8, .inl (fun _ => 0))), (q193, .inl (k.1, 8, .inl (fun _ => 0))), (q196, .inl (k.1, 8, .inl (fun _ => 0))), (q199, .inl (k.1, 6, .inl (fun _ => 0))), (q202, .inl (k.1, 30, .inl (fun _ => 0))), (q205, .inl (k.1, 5, .inl (fun _ => 0)))]) _ _ := hh207
  refine lv_aload_n hx hb hc_d_Play_67 rfl (lv_at hl 0 rfl) ?_
  refine lv_iconst (v := nI 5) hx hb hc_d_Play_68 (by decide) ?_
  refine hc_newi (N' := 5) (cA := k.1) hx hb hTw hGs.1 hh207 hc_w3 hk0.1.2 (by decide) (by decide) (Nat.le_of_ble_eq_true rfl) (Nat.le_of_ble_eq_true rfl) (Nat.le_of_ble_eq_true rfl) hc_d_Play_69 (fun q208 Hhh209 hh209 => ?_)
  rw [List.append_assoc] at hh209
  have hh209 : hc_H D s wd (wd.set 92 (a, .inr (3, [.null, .ref q184, .ref q187, .ref q190, .ref q193, .ref q196, .ref q199, .ref q202, .int 0, .ref q205, .null, .int 0, .int 0, .int 0, .int 0, .int 0])) ++ [(q184, .inl (k.1, 8, .inl (fun _ => 0))), (q187, .inl (k.1, 8, .inl (fun _ => 0))), (q190, .inl (k.1, 8, .inl (fun _ => 0))), (q193, .inl (k.1, 8, .inl (fun _ => 0))), (q196, .inl (k.1, 8, .inl (fun _ => 0))), (q199, .inl (k.1, 6, .inl (fun _ => 0))), (q202, .inl (k.1, 30, .inl (fun _ => 0))), (q205, .inl (k.1, 5, .inl (fun _ => 0))), (q208, .inl (k.1, 5, .inl (fun _ => 0)))]) _ _ := hh209
  refine hc_putF (ci := 3) (k := 10) (own := "HopeBank$Play") (C := RX3) (T := TX3) (N := 16) (t := tyX3 10) hx hb hown hTw hGs.1 hin hh209 rfl (hc_get hn hkn) (by decide) hc_w89 rfl rfl (tyX3_ok 10 (by decide)) rfl rfl (Nat.le_of_ble_eq_true rfl) hc_d_Play_71 (hc_set hn hkn) (fun Hhh210 locshh210 hh210 => ?_)
  have hh210 : hc_H D s wd (wd.set 92 (a, .inr (3, [.null, .ref q184, .ref q187, .ref q190, .ref q193, .ref q196, .ref q199, .ref q202, .int 0, .ref q205, .ref q208, .int 0, .int 0, .int 0, .int 0, .int 0])) ++ [(q184, .inl (k.1, 8, .inl (fun _ => 0))), (q187, .inl (k.1, 8, .inl (fun _ => 0))), (q190, .inl (k.1, 8, .inl (fun _ => 0))), (q193, .inl (k.1, 8, .inl (fun _ => 0))), (q196, .inl (k.1, 8, .inl (fun _ => 0))), (q199, .inl (k.1, 6, .inl (fun _ => 0))), (q202, .inl (k.1, 30, .inl (fun _ => 0))), (q205, .inl (k.1, 5, .inl (fun _ => 0))), (q208, .inl (k.1, 5, .inl (fun _ => 0)))]) _ _ := hh210
  refine lv_aload_n hx hb hc_d_Play_74 rfl (lv_at hl 0 rfl) ?_
  refine lv_aload_n hx hb hc_d_Play_75 rfl (lv_at hl 1 rfl) ?_
  refine hc_putF (ci := 3) (k := 0) (own := "HopeBank$Play") (C := RX3) (T := TX3) (N := 16) (t := tyX3 0) hx hb hown hTw hGs.1 hin hh210 rfl (hc_get hn hkn) (by decide) hc_w90 rfl rfl (tyX3_ok 0 (by decide)) rfl rfl (Nat.le_of_ble_eq_true rfl) hc_d_Play_76 (hc_set hn hkn) (fun Hhh211 locshh211 hh211 => ?_)
  have hh211 : hc_H D s wd (wd.set 92 (a, .inr (3, [.ref x1, .ref q184, .ref q187, .ref q190, .ref q193, .ref q196, .ref q199, .ref q202, .int 0, .ref q205, .ref q208, .int 0, .int 0, .int 0, .int 0, .int 0])) ++ [(q184, .inl (k.1, 8, .inl (fun _ => 0))), (q187, .inl (k.1, 8, .inl (fun _ => 0))), (q190, .inl (k.1, 8, .inl (fun _ => 0))), (q193, .inl (k.1, 8, .inl (fun _ => 0))), (q196, .inl (k.1, 8, .inl (fun _ => 0))), (q199, .inl (k.1, 6, .inl (fun _ => 0))), (q202, .inl (k.1, 30, .inl (fun _ => 0))), (q205, .inl (k.1, 5, .inl (fun _ => 0))), (q208, .inl (k.1, 5, .inl (fun _ => 0)))]) _ _ := hh211
  obtain ⟨w, hw⟩ : ∃ w : va_W, w = wd.set 92 (a, .inr (3, [.ref x1, .ref q184, .ref q187, .ref q190, .ref q193, .ref q196, .ref q199, .ref q202, .int 0, .ref q205, .ref q208, .int 0, .int 0, .int 0, .int 0, .int 0])) ++ [(q184, .inl (k.1, 8, .inl (fun _ => 0))), (q187, .inl (k.1, 8, .inl (fun _ => 0))), (q190, .inl (k.1, 8, .inl (fun _ => 0))), (q193, .inl (k.1, 8, .inl (fun _ => 0))), (q196, .inl (k.1, 8, .inl (fun _ => 0))), (q199, .inl (k.1, 6, .inl (fun _ => 0))), (q202, .inl (k.1, 30, .inl (fun _ => 0))), (q205, .inl (k.1, 5, .inl (fun _ => 0))), (q208, .inl (k.1, 5, .inl (fun _ => 0)))] := ⟨_, rfl⟩
  rw [← hw] at hh211
  have hU : ∀ c, c < 93 → hc_ad w c = hc_ad wd c := fun c hc => by rw [hw]; exact hc_ado hn hc hk
  have g92 : w[92]? = some (a, .inr (3, [.ref x1, .ref q184, .ref q187, .ref q190, .ref q193, .ref q196, .ref q199, .ref q202, .int 0, .ref q205, .ref q208, .int 0, .int 0, .int 0, .int 0, .int 0])) := by rw [hw]; exact hc_get hn (by decide)
  have g93 : w[93]? = some (q184, .inl (k.1, 8, .inl (fun _ => 0))) := by rw [hw]; exact (hc_getr (i := 0) hn).trans rfl
  have g94 : w[94]? = some (q187, .inl (k.1, 8, .inl (fun _ => 0))) := by rw [hw]; exact (hc_getr (i := 1) hn).trans rfl
  have g95 : w[95]? = some (q190, .inl (k.1, 8, .inl (fun _ => 0))) := by rw [hw]; exact (hc_getr (i := 2) hn).trans rfl
  have g96 : w[96]? = some (q193, .inl (k.1, 8, .inl (fun _ => 0))) := by rw [hw]; exact (hc_getr (i := 3) hn).trans rfl
  have g97 : w[97]? = some (q196, .inl (k.1, 8, .inl (fun _ => 0))) := by rw [hw]; exact (hc_getr (i := 4) hn).trans rfl
  have g98 : w[98]? = some (q199, .inl (k.1, 6, .inl (fun _ => 0))) := by rw [hw]; exact (hc_getr (i := 5) hn).trans rfl
  have g99 : w[99]? = some (q202, .inl (k.1, 30, .inl (fun _ => 0))) := by rw [hw]; exact (hc_getr (i := 6) hn).trans rfl
  have g100 : w[100]? = some (q205, .inl (k.1, 5, .inl (fun _ => 0))) := by rw [hw]; exact (hc_getr (i := 7) hn).trans rfl
  have g101 : w[101]? = some (q208, .inl (k.1, 5, .inl (fun _ => 0))) := by rw [hw]; exact (hc_getr (i := 8) hn).trans rfl
  have d92 : hc_ad w 92 = a := by unfold hc_ad; rw [g92]; rfl
  have d93 : hc_ad w 93 = q184 := by unfold hc_ad; rw [g93]; rfl
  have d94 : hc_ad w 94 = q187 := by unfold hc_ad; rw [g94]; rfl
  have d95 : hc_ad w 95 = q190 := by unfold hc_ad; rw [g95]; rfl
  have d96 : hc_ad w 96 = q193 := by unfold hc_ad; rw [g96]; rfl
  have d97 : hc_ad w 97 = q196 := by unfold hc_ad; rw [g97]; rfl
  have d98 : hc_ad w 98 = q199 := by unfold hc_ad; rw [g98]; rfl
  have d99 : hc_ad w 99 = q202 := by unfold hc_ad; rw [g99]; rfl
  have d100 : hc_ad w 100 = q205 := by unfold hc_ad; rw [g100]; rfl
  have d101 : hc_ad w 101 = q208 := by unfold hc_ad; rw [g101]; rfl
  have d19 : hc_ad w 19 = x1 := (hU 19 (by decide)).trans hx1
  have hT : hb_wd hb_KT s (hc_ad w) w [92, 93, 94, 95, 96, 97, 98, 99, 100, 101] := (hc_wdc (kd := (0, 3, 16, [(2, 19, 0), (2, 93, 0), (2, 94, 0), (2, 95, 0), (2, 96, 0), (2, 97, 0), (2, 98, 0), (2, 99, 0), (0, (-2147483648), 2147483647), (2, 100, 0), (2, 101, 0), (0, (-2147483648), 2147483647), (0, (-2147483648), 2147483647), (0, 0, 1), (0, (-2147483648), 2147483647), (0, (-2147483648), 2147483647)])) rfl (hc_at g92) (hc_cellO rfl ⟨congrArg Value.ref (d19).symm, congrArg Value.ref (d93).symm, congrArg Value.ref (d94).symm, congrArg Value.ref (d95).symm, congrArg Value.ref (d96).symm, congrArg Value.ref (d97).symm, congrArg Value.ref (d98).symm, congrArg Value.ref (d99).symm, ⟨0, rfl, by decide, by decide⟩, congrArg Value.ref (d100).symm, congrArg Value.ref (d101).symm, ⟨0, rfl, by decide, by decide⟩, ⟨0, rfl, by decide, by decide⟩, ⟨0, rfl, by decide, by decide⟩, ⟨0, rfl, by decide, by decide⟩, ⟨0, rfl, by decide, by decide⟩, trivial⟩) (by decide) (hc_wdc (kd := (1, 0, 8, [(0, (-2147483648), 2147483647)])) rfl (hc_at g93) (hc_cellI hk0.1 (fun _ _ => ⟨by decide, by decide⟩)) (by decide) (hc_wdc (kd := (1, 0, 8, [(0, (-2147483648), 2147483647)])) rfl (hc_at g94) (hc_cellI hk0.1 (fun _ _ => ⟨by decide, by decide⟩)) (by decide) (hc_wdc (kd := (1, 0, 8, [(0, (-2147483648), 2147483647)])) rfl (hc_at g95) (hc_cellI hk0.1 (fun _ _ => ⟨by decide, by decide⟩)) (by decide) (hc_wdc (kd := (1, 0, 8, [(0, (-2147483648), 2147483647)])) rfl (hc_at g96) (hc_cellI hk0.1 (fun _ _ => ⟨by decide, by decide⟩)) (by decide) (hc_wdc (kd := (1, 0, 8, [(0, (-2147483648), 2147483647)])) rfl (hc_at g97) (hc_cellI hk0.1 (fun _ _ => ⟨by decide, by decide⟩)) (by decide) (hc_wdc (kd := (1, 0, 6, [(0, (-2147483648), 2147483647)])) rfl (hc_at g98) (hc_cellI hk0.1 (fun _ _ => ⟨by decide, by decide⟩)) (by decide) (hc_wdc (kd := (1, 0, 30, [(0, (-2147483648), 2147483647)])) rfl (hc_at g99) (hc_cellI hk0.1 (fun _ _ => ⟨by decide, by decide⟩)) (by decide) (hc_wdc (kd := (1, 0, 5, [(0, (-2147483648), 2147483647)])) rfl (hc_at g100) (hc_cellI hk0.1 (fun _ _ => ⟨by decide, by decide⟩)) (by decide) (hc_wdc (kd := (1, 0, 5, [(0, (-2147483648), 2147483647)])) rfl (hc_at g101) (hc_cellI hk0.1 (fun _ _ => ⟨by decide, by decide⟩)) (by decide) hc_wdn))))))))))
  have hO : hb_wd hb_KT s (hc_ad w) w [19, 22, 23] := hc_wdU (n := 93) hwd (by decide +kernel) hU (fun c hc => by rw [hw]; exact hc_old hn (by rcases List.mem_cons.mp hc with e | hc; (· omega); rcases List.mem_cons.mp hc with e | hc; (· omega); rcases List.mem_cons.mp hc with e | hc; (· omega); cases hc) (fun e => by subst e; revert hc; decide))
  have hF : hb_wd hb_KT s (hc_ad w) w [19, 22, 23, 92, 93, 94, 95, 96, 97, 98, 99, 100, 101] := hc_wda hO hT
  refine lv_aload_n hx hb hc_d_Play_79 rfl (lv_at hl 0 rfl) ?_
  refine lv_iconst (v := (-1 : Int32)) hx hb hc_d_Play_80 (by decide) ?_
  refine lv_iconst (v := nI 1) hx hb hc_d_Play_81 (by decide) ?_
  refine hc_cQ (q := hb_q459) (y := (⟨"HopeBank$Play", "choose", "(IZ)V"⟩, prog_5_method_2_code, 3, none)) (U := hc_ad w) (root := 92) (ci := 3) (b := a) (As := [.int (-1 : Int32), .int (nI 1)]) (rest := []) hBd hGs hh211 hb_m459 rfl rfl rfl (by decide +kernel) ⟨congrArg Value.ref d92.symm, ⟨by decide, _, rfl, by decide⟩, ⟨by decide, _, rfl, by decide⟩, trivial⟩ (hT.less (by decide)) g92 rfl hc_w91 hc_w92 hc_w93 hc_w94 (by decide) ⟨(Nat.le_of_ble_eq_true rfl), (Nat.le_of_ble_eq_true rfl)⟩ (fun sig h => by cases h; rfl) hl.1 rfl (Nat.le_of_ble_eq_true rfl) ⟨(Nat.le_of_ble_eq_true rfl), (Nat.le_of_ble_eq_true rfl)⟩ hc_d_Play_82 (fun w1 H1 locs1 hh1 hwd1 hf1 => ?_)
  have hF1 : hb_wd hb_KT s (hc_ad w) w1 [19, 22, 23, 92, 93, 94, 95, 96, 97, 98, 99, 100, 101] := hF.back (Vm.Alike.refl _) hwd1 hf1 (by decide)
  obtain ⟨kd, ec, c1, c2, c3, c4⟩ := hF1 92 (by decide)
  rw [show hb_KT[92]? = some (0, 3, 16, [(2, 19, 0), (2, 93, 0), (2, 94, 0), (2, 95, 0), (2, 96, 0), (2, 97, 0), (2, 98, 0), (2, 99, 0), (0, (-2147483648), 2147483647), (2, 100, 0), (2, 101, 0), (0, (-2147483648), 2147483647), (0, (-2147483648), 2147483647), (0, 0, 1), (0, (-2147483648), 2147483647), (0, (-2147483648), 2147483647)]) from rfl] at c1
  cases c1
  obtain ⟨fs1, e1, -⟩ := hb_sh0 c3.1 rfl
  subst e1
  rw [d92] at c2
  refine lv_aload_n hx hb hc_d_Play_85 rfl (lv_at hl 0 rfl) ?_
  refine hc_cQ (q := hb_q468) (y := (⟨"HopeBank$Play", "begin", "()V"⟩, prog_5_method_5_code, 2, none)) (U := hc_ad w) (root := 92) (ci := 3) (b := a) (As := []) (rest := []) hBd hGs hh1 hb_m468 rfl rfl rfl (by decide +kernel) ⟨congrArg Value.ref d92.symm, trivial⟩ hF1 c2 rfl hc_w91 hc_w95 hc_w96 hc_w97 (by decide) ⟨(Nat.le_of_ble_eq_true rfl), (Nat.le_of_ble_eq_true rfl)⟩ (fun sig h => by cases h; rfl) hl.1 rfl (Nat.le_of_ble_eq_true rfl) ⟨(Nat.le_of_ble_eq_true rfl), (Nat.le_of_ble_eq_true rfl)⟩ hc_d_Play_86 (fun w2 H2 locs2 hh2 hwd2 hf2 => ?_)
  have hea : hc_ad w2 = hc_ad w := funext (fun c => (hc_fra hf2 c).trans (hc_fra hf1 c))
  refine W.widen (k := 9) (n := 86) (by omega) (by omega) ?_
  refine hc_ret hx hb hret hlocks hh2 hc_d_Play_89 (fun t hv => ⟨?_, fun j hj => ?_, fun j hj hjk => ?_, ?_⟩)
  · rw [hc_frl hf2, hc_frl hf1, hw, List.length_append, List.length_set, hn]; rfl
  · rw [hea]; exact hU j (by omega)
  · rw [(hf2 j).2 (hc_nm (lo := 92) (hj := by omega)), (hf1 j).2 (hc_nm (lo := 92) (hj := by omega)), hw]; exact hc_old hn (by omega) (fun e => hjk e.symm)
  · rw [hea]; exact (hwd2.moved hv).less (by decide)
