section HCG
variable {p : Program} {l : Launch} {e : Env} {R : Room} {s : State} {m : MethodId} {args : Array Value} {below : List Frame} {meth : Method} {c : Code} {Q : State → Prop} {cc : ByteArray} {pc cells slots : Nat} {D : va_G} {wd0 w w' : va_W} {ls : Array Slot} {rest : List Value} {H : Heap} {locs : List Loc} {own C : String} {index : Nat}
theorem hc_sR {B L : va_W} {n i : Nat} {y : Nat × va_E} (hn : B.length = n) : (B ++ L).set (n + i) y = B ++ L.set i y := by
  rw [List.set_append_right _ _ (by omega), hn, Nat.add_sub_cancel_left]
theorem hc_newq {n : Int32} {N' : Nat} (hx : p.tables.exec = Jvm.exec) (hb : c.code = cc) (hown : s.vm.findClass own = some m.cls) (hTw : ∀ w ∈ hb_G.2.1.1, w.before args s = true) (hao : va_AO C s) (hK : va_K D vwCl [] s) (hh : hc_H D s wd0 w H locs) (w1 : Cond.classLink own index C ∈ hb_G.2.1.1) (hn : ¬ n < 0) (hN : n.toNatClampNeg = N') (hby : N' * 4 ≤ 536870912) (hcl : cells + 1 ≤ R.cells) (hsl : slots + N' ≤ R.slots) (hdg : decode cc pc = .ok (.anewarray index, 3))
    (kk : ∀ (q : Nat) (cQ : ClassId) (H1 : Heap), ArrOfT s cQ (.object C) → va_RA s cQ (.object C) → hc_H D s wd0 (w ++ [(q, .inl (cQ, N', .inr (.inr (.inr (.inr (fun _ => none))))))]) H1 locs → W p l e R s m args below meth c H1 locs (cells + 1) (slots + N') Q (F0 m (pc + 3) ls (.ref q :: rest))) : W p l e R s m args below meth c H locs cells slots Q (F0 m pc ls (.int n :: rest)) :=
  va_newq hx hb hown (hTw _ w1) hao hK hh.1 hh.2.1 hh.2.2 (fun q h => Or.inr h) hn hN hby hcl hsl hdg (fun q cA H1 hK1 hP hD hS => kk q cA H1 (hK1.2 0 (cA, .object C) rfl).1 (hK1.2 0 (cA, .object C) rfl).2 ⟨hP, hD, hS⟩)
theorem hc_alen {q0 a n : Nat} {cA : ClassId} {ty : FieldType} {f : Nat → Option Nat} {v : Int32} (hx : p.tables.exec = Jvm.exec) (hb : c.code = cc) (hK : va_K D vwCl [] s) (hA1 : ArrOfT s cA ty) (hA2 : va_RA s cA ty) (hh : hc_H D s wd0 w H locs) (he : w[q0]? = some (a, .inl (cA, n, .inr (.inr (.inr (.inr f)))))) (hv : Int32.ofNat n = v) (hdg : decode cc pc = .ok (.arraylength, 1))
    (kk : W p l e R s m args below meth c H locs cells slots Q (F0 m (pc + 1) ls (.int v :: rest))) : W p l e R s m args below meth c H locs cells slots Q (F0 m pc ls (.ref a :: rest)) :=
  va_alen (v := v) hx hb (hb_Karr hK hA1 hA2) hh.1 q0 0 he rfl hv hdg kk
theorem hc_astq {q0 qk a n v : Nat} {i : Int32} {cA : ClassId} {f : Nat → Option Nat} {vs : List Value} (hx : p.tables.exec = Jvm.exec) (hb : c.code = cc) (hK : va_K D vwCl [] s) (hA1 : ArrOfT s cA (.object "HopeBank$Town")) (hA2 : va_RA s cA (.object "HopeBank$Town")) (hh : hc_H D s wd0 w H locs) (he : w[q0]? = some (a, .inl (cA, n, .inr (.inr (.inr (.inr f)))))) (hv : w[qk]? = some (v, .inr (9, vs))) (hi : vp_in i n) (hdg : decode cc pc = .ok (.aastore, 1)) (hw : w.set q0 (a, .inl (cA, n, .inr (.inr (.inr (.inr (va_up f i.toNatClampNeg (some v))))))) = w')
    (kk : ∀ (H1 : Heap) (locs1 : List Loc), hc_H D s wd0 w' H1 locs1 → W p l e R s m args below meth c H1 locs1 cells slots Q (F0 m (pc + 1) ls rest)) : W p l e R s m args below meth c H locs cells slots Q (F0 m pc ls (.ref v :: .int i :: .ref a :: rest)) :=
  va_astq (r := (RX9, TX9, 8)) hx hb (hb_Karr hK hA1 hA2) hh.1 hh.2.1 hh.2.2 q0 0 qk 9 he rfl hv rfl hi hdg (fun H1 locs1 hP hD hS => kk H1 locs1 (by rw [← hw]; exact ⟨hP, hD, hS⟩))
end HCG
theorem hc_Bfr {s : State} {wd B w' : va_W} {ki a ci n : Nat} {fs : List Value} {fp mods fp1 : List Nat} (h : hc_B s wd B ki a ci n fs fp) (h1 : hb_wd hb_KT s (hc_ad B) w' fp1) (hf : hb_fr mods B w') (hm : ∀ c ∈ mods, c ∈ fp1) (hk : ki ∉ mods ∧ ∀ c ∈ mods, c ∈ fp) (hmw : ∀ j, j < wd.length → j ∉ mods) : hc_B s wd w' ki a ci n fs fp := by
  obtain ⟨b1, b2, b3, b4, b5⟩ := h
  have hea : hc_ad w' = hc_ad B := funext (fun c => hc_fra hf c)
  refine ⟨(hc_frl hf).trans b1, ((hf ki).2 hk.1).trans b2, ?_, fun j hj => (hc_fra hf j).trans (b4 j hj), fun j hj hjk => ((hf j).2 (hmw j hj)).trans (b5 j hj hjk)⟩
  rw [hea]
  exact b3.back (Vm.Alike.refl _) h1 hf hm
def hc_Z_Slots : List Value := [.null, .null, .null]
theorem hc_Zok_Slots : ∀ j, j < 3 → defaultValue (tyX6 j) = vp_V hc_Z_Slots j := by decide +kernel
def hc_Z_Trials : List Value := [.null, .null, .null, .long 0, .long 0]
theorem hc_Zok_Trials : ∀ j, j < 5 → defaultValue (tyX10 j) = vp_V hc_Z_Trials j := by decide +kernel
theorem hc_w98 : Cond.methodLink "HopeBank$Slots" 3 Lib.objectInit ∈ hb_G.2.1.1 := hb_wm (i := 482) (by decide +kernel)
theorem hc_w99 : Cond.classLink "HopeBank$Slots" 9 "[[J" ∈ hb_G.2.1.1 := hb_wm (i := 483) (by decide +kernel)
theorem hc_w100 : Cond.fieldLink "HopeBank$Slots" 11 "HopeBank$Slots" "numbers" "[[J" ∈ hb_G.2.1.1 := hb_wm (i := 486) (by decide +kernel)
theorem hc_w101 : Cond.fieldLink "HopeBank$Slots" 16 "HopeBank$Slots" "widths" "[I" ∈ hb_G.2.1.1 := hb_wm (i := 487) (by decide +kernel)
theorem hc_w102 : Cond.fieldLink "HopeBank$Slots" 20 "HopeBank$Slots" "lengths" "[I" ∈ hb_G.2.1.1 := hb_wm (i := 488) (by decide +kernel)
theorem hc_w103 : Cond.initialized "java/util/Arrays" ∈ hb_G.2.1.1 := hb_wm (i := 117) (by decide +kernel)
theorem hc_w104 : Cond.methodLink "HopeBank$Slots" 23 ⟨"java/util/Arrays", "fill", "([II)V"⟩ ∈ hb_G.2.1.1 := hb_wm (i := 485) (by decide +kernel)
theorem hc_w105 : Cond.static ⟨"java/util/Arrays", "fill", "([II)V"⟩ ∈ hb_G.2.1.1 := hb_wm (i := 290) (by decide +kernel)
theorem hc_w106 : Cond.methodLink "HopeBank$Trials" 3 Lib.objectInit ∈ hb_G.2.1.1 := hb_wm (i := 376) (by decide +kernel)
theorem hc_w107 : Cond.fieldLink "HopeBank$Trials" 9 "HopeBank$Trials" "town" "LHopeBank$Town;" ∈ hb_G.2.1.1 := hb_wm (i := 381) (by decide +kernel)
theorem hc_w108 : Cond.classLink "HopeBank$Trials" 15 "HopeBank$Play" ∈ hb_G.2.1.1 := hb_wm (i := 377) (by decide +kernel)
theorem hc_w109 : Cond.instantiable "HopeBank$Play" 16 ∈ hb_G.2.1.1 := hb_wm (i := 276) (by decide +kernel)
theorem hc_w110 : Cond.methodLink "HopeBank$Trials" 17 ⟨"HopeBank$Play", "<init>", "(LHopeBank$Town;)V"⟩ ∈ hb_G.2.1.1 := hb_wm (i := 378) (by decide +kernel)
theorem hc_w111 : Cond.instanceMethod ⟨"HopeBank$Play", "<init>", "(LHopeBank$Town;)V"⟩ ∈ hb_G.2.1.1 := hb_wm (i := 278) (by decide +kernel)
theorem hc_w112 : Cond.fieldLink "HopeBank$Trials" 20 "HopeBank$Trials" "play" "LHopeBank$Play;" ∈ hb_G.2.1.1 := hb_wm (i := 382) (by decide +kernel)
theorem hc_w113 : Cond.classLink "HopeBank$Trials" 24 "HopeBank$Look" ∈ hb_G.2.1.1 := hb_wm (i := 379) (by decide +kernel)
theorem hc_w114 : Cond.instantiable "HopeBank$Look" 2 ∈ hb_G.2.1.1 := hb_wm (i := 359) (by decide +kernel)
theorem hc_w115 : Cond.initialized "HopeBank$Look" ∈ hb_G.2.1.1 := hb_wm (i := 118) (by decide +kernel)
theorem hc_w116 : Cond.methodLink "HopeBank$Trials" 26 ⟨"HopeBank$Look", "<init>", "(LHopeBank$Town;LHopeBank$Play;)V"⟩ ∈ hb_G.2.1.1 := hb_wm (i := 380) (by decide +kernel)
theorem hc_w117 : Cond.instanceMethod ⟨"HopeBank$Look", "<init>", "(LHopeBank$Town;LHopeBank$Play;)V"⟩ ∈ hb_G.2.1.1 := hb_wm (i := 361) (by decide +kernel)
theorem hc_w118 : Cond.fieldLink "HopeBank$Trials" 29 "HopeBank$Trials" "look" "LHopeBank$Look;" ∈ hb_G.2.1.1 := hb_wm (i := 383) (by decide +kernel)
theorem hc_w119 : Cond.fieldLink "HopeBank$Trials" 33 "HopeBank$Trials" "below" "J" ∈ hb_G.2.1.1 := hb_wm (i := 385) (by decide +kernel)
theorem hc_d_Slots_0 : decode prog_8_method_1_code 0 = .ok (.aload_n 0, 1) := by decide +kernel
theorem hc_d_Slots_1 : decode prog_8_method_1_code 1 = .ok (.invokespecial 3, 3) := by decide +kernel
theorem hc_d_Slots_4 : decode prog_8_method_1_code 4 = .ok (.aload_n 0, 1) := by decide +kernel
theorem hc_d_Slots_5 : decode prog_8_method_1_code 5 = .ok (.iconst 4, 1) := by decide +kernel
theorem hc_d_Slots_6 : decode prog_8_method_1_code 6 = .ok (.bipush 60, 2) := by decide +kernel
theorem hc_d_Slots_8 : decode prog_8_method_1_code 8 = .ok (.multianewarray 9 2, 4) := by decide +kernel
theorem hc_d_Slots_12 : decode prog_8_method_1_code 12 = .ok (.putfield 11, 3) := by decide +kernel
theorem hc_d_Slots_15 : decode prog_8_method_1_code 15 = .ok (.aload_n 0, 1) := by decide +kernel
theorem hc_d_Slots_16 : decode prog_8_method_1_code 16 = .ok (.iconst 4, 1) := by decide +kernel
theorem hc_d_Slots_17 : decode prog_8_method_1_code 17 = .ok (.newarray .int, 2) := by decide +kernel
theorem hc_d_Slots_19 : decode prog_8_method_1_code 19 = .ok (.putfield 16, 3) := by decide +kernel
theorem hc_d_Slots_22 : decode prog_8_method_1_code 22 = .ok (.aload_n 0, 1) := by decide +kernel
theorem hc_d_Slots_23 : decode prog_8_method_1_code 23 = .ok (.iconst 4, 1) := by decide +kernel
theorem hc_d_Slots_24 : decode prog_8_method_1_code 24 = .ok (.newarray .int, 2) := by decide +kernel
theorem hc_d_Slots_26 : decode prog_8_method_1_code 26 = .ok (.putfield 20, 3) := by decide +kernel
theorem hc_d_Slots_29 : decode prog_8_method_1_code 29 = .ok (.aload_n 0, 1) := by decide +kernel
theorem hc_d_Slots_30 : decode prog_8_method_1_code 30 = .ok (.getfield 16, 3) := by decide +kernel
theorem hc_d_Slots_33 : decode prog_8_method_1_code 33 = .ok (.iconst (-1), 1) := by decide +kernel
theorem hc_d_Slots_34 : decode prog_8_method_1_code 34 = .ok (.invokestatic 23, 3) := by decide +kernel
theorem hc_d_Slots_37 : decode prog_8_method_1_code 37 = .ok (.return_, 1) := by decide +kernel
abbrev hc_y_Slots : hbY := (⟨"HopeBank$Slots", "<init>", "()V"⟩, prog_8_method_1_code, 1, none)
set_option maxRecDepth 100000 in
theorem hc_cd_Slots : Cond.code ⟨"HopeBank$Slots", "<init>", "()V"⟩ prog_8_method_1_code 1 none ∈ hb_G.2.1.1 := List.mem_filter.mpr ⟨List.mem_of_getElem? (i := 481) rfl, rfl⟩
theorem hc_d_Trials_0 : decode prog_12_method_1_code 0 = .ok (.aload_n 0, 1) := by decide +kernel
theorem hc_d_Trials_1 : decode prog_12_method_1_code 1 = .ok (.invokespecial 3, 3) := by decide +kernel
theorem hc_d_Trials_4 : decode prog_12_method_1_code 4 = .ok (.aload_n 0, 1) := by decide +kernel
theorem hc_d_Trials_5 : decode prog_12_method_1_code 5 = .ok (.aload_n 1, 1) := by decide +kernel
theorem hc_d_Trials_6 : decode prog_12_method_1_code 6 = .ok (.putfield 9, 3) := by decide +kernel
theorem hc_d_Trials_9 : decode prog_12_method_1_code 9 = .ok (.aload_n 0, 1) := by decide +kernel
theorem hc_d_Trials_10 : decode prog_12_method_1_code 10 = .ok (.new 15, 3) := by decide +kernel
theorem hc_d_Trials_13 : decode prog_12_method_1_code 13 = .ok (.dup, 1) := by decide +kernel
theorem hc_d_Trials_14 : decode prog_12_method_1_code 14 = .ok (.aload_n 1, 1) := by decide +kernel
theorem hc_d_Trials_15 : decode prog_12_method_1_code 15 = .ok (.invokespecial 17, 3) := by decide +kernel
theorem hc_d_Trials_18 : decode prog_12_method_1_code 18 = .ok (.putfield 20, 3) := by decide +kernel
theorem hc_d_Trials_21 : decode prog_12_method_1_code 21 = .ok (.aload_n 0, 1) := by decide +kernel
theorem hc_d_Trials_22 : decode prog_12_method_1_code 22 = .ok (.new 24, 3) := by decide +kernel
theorem hc_d_Trials_25 : decode prog_12_method_1_code 25 = .ok (.dup, 1) := by decide +kernel
theorem hc_d_Trials_26 : decode prog_12_method_1_code 26 = .ok (.aload_n 1, 1) := by decide +kernel
theorem hc_d_Trials_27 : decode prog_12_method_1_code 27 = .ok (.aload_n 0, 1) := by decide +kernel
theorem hc_d_Trials_28 : decode prog_12_method_1_code 28 = .ok (.getfield 20, 3) := by decide +kernel
theorem hc_d_Trials_31 : decode prog_12_method_1_code 31 = .ok (.invokespecial 26, 3) := by decide +kernel
theorem hc_d_Trials_34 : decode prog_12_method_1_code 34 = .ok (.putfield 29, 3) := by decide +kernel
theorem hc_d_Trials_37 : decode prog_12_method_1_code 37 = .ok (.aload_n 0, 1) := by decide +kernel
theorem hc_d_Trials_38 : decode prog_12_method_1_code 38 = .ok (.lconst 1, 1) := by decide +kernel
theorem hc_d_Trials_39 : decode prog_12_method_1_code 39 = .ok (.putfield 33, 3) := by decide +kernel
theorem hc_d_Trials_42 : decode prog_12_method_1_code 42 = .ok (.return_, 1) := by decide +kernel
abbrev hc_y_Trials : hbY := (⟨"HopeBank$Trials", "<init>", "(LHopeBank$Town;)V"⟩, prog_12_method_1_code, 2, none)
set_option maxRecDepth 100000 in
theorem hc_cd_Trials : Cond.code ⟨"HopeBank$Trials", "<init>", "(LHopeBank$Town;)V"⟩ prog_12_method_1_code 2 none ∈ hb_G.2.1.1 := List.mem_filter.mpr ⟨List.mem_of_getElem? (i := 375) rfl, rfl⟩
set_option maxHeartbeats 16000000 in
theorem hc_Slots {l : Launch} {D : va_G} {S : Nat → Nat} {wd : va_W} {a : Nat} (hn : wd.length = 114) (hk : wd[113]? = some (a, .inr (6, hc_Z_Slots))) : hc_Met l hc_y_Slots 2 45 7 252 D (hc_ad wd) S wd [] [.ref a] (fun t w' => hc_PT wd 113 121 [113, 114, 115, 116, 117, 118, 119, 120] t w' ∧ (∀ j, j < 4 → hp_at (hc_ad w') w' 119 j (-1))) := by
  have hwl : wd.length = 114 := hn
  refine hc_enter (by decide) (Nat.le_of_ble_eq_true rfl) ?_
  intro p e s m below meth c ls hBd hin hh hwd hGs hX hl
  obtain ⟨hx, hb, hml, hown, hlocks, hret, hTw⟩ := id hBd
  obtain ⟨k, hk0⟩ := hc_Kof hTw
  have hB := hc_B0 hn (show wd[113]? = some (a, .inr (6, [.null, .null, .null])) from hk) hwd
  refine lv_aload_n hx hb hc_d_Slots_0 rfl (lv_at hl 0 rfl) ?_
  refine hc_obj (own := "HopeBank$Slots") hx hb (by rw [hml, hl.1]) hown hTw hc_w98 hc_oi hc_oc hc_d_Slots_1 (Nat.le_of_ble_eq_true rfl) (Nat.le_of_ble_eq_true rfl) ?_
  refine lv_aload_n hx hb hc_d_Slots_4 rfl (lv_at hl 0 rfl) ?_
  refine lv_iconst (v := nI 4) hx hb hc_d_Slots_5 (by decide) ?_
  refine lv_bipush (v := nI 60) hx hb hc_d_Slots_6 (by decide) ?_
  refine hc_multi (own := "HopeBank$Slots") hx hb hown hTw hX hh hc_w99 hc_w77 hk0.2.2.2.2 (Nat.le_of_ble_eq_true rfl) (Nat.le_of_ble_eq_true rfl) hc_d_Slots_8 (fun q212 cQ Hhh213 locshh213 hQ1 hQ2 hh213 => ?_)
  have hh213 : hc_H D s wd (wd ++ [(q212, .inl (cQ, 4, .inr (.inr (.inr (.inr (fun j => some (q212 + 1 + j))))))), (q212 + 1, .inl (k.2.2.2, 60, .inr (.inl (fun _ => 0)))), (q212 + 2, .inl (k.2.2.2, 60, .inr (.inl (fun _ => 0)))), (q212 + 3, .inl (k.2.2.2, 60, .inr (.inl (fun _ => 0)))), (q212 + 4, .inl (k.2.2.2, 60, .inr (.inl (fun _ => 0))))]) _ _ := hh213
  obtain ⟨W214, eW214⟩ : ∃ B : va_W, B = wd ++ [(q212, .inl (cQ, 4, .inr (.inr (.inr (.inr (fun j => some (q212 + 1 + j))))))), (q212 + 1, .inl (k.2.2.2, 60, .inr (.inl (fun _ => 0)))), (q212 + 2, .inl (k.2.2.2, 60, .inr (.inl (fun _ => 0)))), (q212 + 3, .inl (k.2.2.2, 60, .inr (.inl (fun _ => 0)))), (q212 + 4, .inl (k.2.2.2, 60, .inr (.inl (fun _ => 0))))] := ⟨_, rfl⟩
  have g214_114 : W214[114]? = some (q212, .inl (cQ, 4, .inr (.inr (.inr (.inr (fun j => some (q212 + 1 + j))))))) := by rw [eW214]; exact (hc_gr (n := 114) (i := 0) hB.1).trans rfl
  have d214_114 : hc_ad W214 114 = q212 := by unfold hc_ad; rw [g214_114]; rfl
  have g214_115 : W214[115]? = some (q212 + 1, .inl (k.2.2.2, 60, .inr (.inl (fun _ => 0)))) := by rw [eW214]; exact (hc_gr (n := 114) (i := 1) hB.1).trans rfl
  have d214_115 : hc_ad W214 115 = q212 + 1 := by unfold hc_ad; rw [g214_115]; rfl
  have g214_116 : W214[116]? = some (q212 + 2, .inl (k.2.2.2, 60, .inr (.inl (fun _ => 0)))) := by rw [eW214]; exact (hc_gr (n := 114) (i := 2) hB.1).trans rfl
  have d214_116 : hc_ad W214 116 = q212 + 2 := by unfold hc_ad; rw [g214_116]; rfl
  have g214_117 : W214[117]? = some (q212 + 3, .inl (k.2.2.2, 60, .inr (.inl (fun _ => 0)))) := by rw [eW214]; exact (hc_gr (n := 114) (i := 3) hB.1).trans rfl
  have d214_117 : hc_ad W214 117 = q212 + 3 := by unfold hc_ad; rw [g214_117]; rfl
  have g214_118 : W214[118]? = some (q212 + 4, .inl (k.2.2.2, 60, .inr (.inl (fun _ => 0)))) := by rw [eW214]; exact (hc_gr (n := 114) (i := 4) hB.1).trans rfl
  have d214_118 : hc_ad W214 118 = q212 + 4 := by unfold hc_ad; rw [g214_118]; rfl
  have t214_118 : hb_wd hb_KT s (hc_ad W214) W214 [118] := hc_wdc (c := 118) (kd := (4, 0, 60, [(1, (-9223372036854775808), 9223372036854775807)])) rfl (hc_at g214_118) (hc_cellJ hk0.2.2.2 (fun _ _ => ⟨by decide, by decide⟩)) (by decide) hc_wdn
  have t214_117 : hb_wd hb_KT s (hc_ad W214) W214 [117, 118] := hc_wdc (c := 117) (kd := (4, 0, 60, [(1, (-9223372036854775808), 9223372036854775807)])) rfl (hc_at g214_117) (hc_cellJ hk0.2.2.2 (fun _ _ => ⟨by decide, by decide⟩)) (by decide) t214_118
  have t214_116 : hb_wd hb_KT s (hc_ad W214) W214 [116, 117, 118] := hc_wdc (c := 116) (kd := (4, 0, 60, [(1, (-9223372036854775808), 9223372036854775807)])) rfl (hc_at g214_116) (hc_cellJ hk0.2.2.2 (fun _ _ => ⟨by decide, by decide⟩)) (by decide) t214_117
  have t214_115 : hb_wd hb_KT s (hc_ad W214) W214 [115, 116, 117, 118] := hc_wdc (c := 115) (kd := (4, 0, 60, [(1, (-9223372036854775808), 9223372036854775807)])) rfl (hc_at g214_115) (hc_cellJ hk0.2.2.2 (fun _ _ => ⟨by decide, by decide⟩)) (by decide) t214_116
  have t214_114 : hb_wd hb_KT s (hc_ad W214) W214 [114, 115, 116, 117, 118] := hc_wdc (c := 114) (kd := (5, 0, 4, [(2, 115, 0), (2, 116, 0), (2, 117, 0), (2, 118, 0)])) rfl (hc_at g214_114) (hc_cellQ (ty := .array .long) rfl ⟨hQ1, hQ2⟩ rfl (fun k hk => by rcases (show k = 0 ∨ k = 1 ∨ k = 2 ∨ k = 3 by omega) with e | e | e | e <;> subst e; (· exact ⟨115, 0, rfl, congrArg some (d214_115).symm⟩); (· exact ⟨116, 0, rfl, congrArg some (d214_116).symm⟩); (· exact ⟨117, 0, rfl, congrArg some (d214_117).symm⟩); (· exact ⟨118, 0, rfl, congrArg some (d214_118).symm⟩))) (by decide) t214_115
  have hT214 := t214_114
  rw [eW214] at hT214
  have hB214 := hc_Bapp (m := 5) hB (by decide +kernel) rfl (by rw [hwl]; decide) hT214
  rw [← eW214] at hB214 hh213
  refine hc_putF (q0 := 113) (ci := 6) (k := 0) (own := "HopeBank$Slots") (C := RX6) (T := TX6) (N := 3) (t := tyX6 0) hx hb hown hTw hGs.1 hin hh213 rfl hB214.2.1 (by decide) hc_w100 rfl rfl (tyX6_ok 0 (by decide)) rfl rfl (Nat.le_of_ble_eq_true rfl) hc_d_Slots_12 rfl (fun Hhh215 locshh215 hh215 => ?_)
  have hh215 : hc_H D s wd (W214.set 113 (a, .inr (6, [.ref q212, .null, .null]))) _ _ := hh215
  obtain ⟨B216, e216⟩ : ∃ B : va_W, B = W214.set 113 (a, .inr (6, [.ref q212, .null, .null])) := ⟨_, rfl⟩
  have hB216 := hc_Bput (fs' := [.ref q212, .null, .null]) hB214 (by decide +kernel) (by decide +kernel)
  rw [← e216] at hB216 hh215
  have d114_216 : hc_ad B216 114 = q212 := by rw [e216]; exact (hc_ads hB214.2.1 114).trans d214_114
  refine lv_aload_n hx hb hc_d_Slots_15 rfl (lv_at hl 0 rfl) ?_
  refine lv_iconst (v := nI 4) hx hb hc_d_Slots_16 (by decide) ?_
  refine hc_newi (N' := 4) (cA := k.1) hx hb hTw hGs.1 hh215 hc_w3 hk0.1.2 (by decide) (by decide) (Nat.le_of_ble_eq_true rfl) (Nat.le_of_ble_eq_true rfl) (Nat.le_of_ble_eq_true rfl) hc_d_Slots_17 (fun q217 Hhh218 hh218 => ?_)
  have hh218 : hc_H D s wd (B216 ++ [(q217, .inl (k.1, 4, .inl (fun _ => 0)))]) _ _ := hh218
  obtain ⟨W219, eW219⟩ : ∃ B : va_W, B = B216 ++ [(q217, .inl (k.1, 4, .inl (fun _ => 0)))] := ⟨_, rfl⟩
  have g219_119 : W219[119]? = some (q217, .inl (k.1, 4, .inl (fun _ => 0))) := by rw [eW219]; exact (hc_gr (n := 119) (i := 0) hB216.1).trans rfl
  have d219_119 : hc_ad W219 119 = q217 := by unfold hc_ad; rw [g219_119]; rfl
  have d219_114 : hc_ad W219 114 = q212 := by rw [eW219]; exact (hc_adl (by rw [hB216.1]; decide)).trans d114_216
  have t219_119 : hb_wd hb_KT s (hc_ad W219) W219 [119] := hc_wdc (c := 119) (kd := (1, 0, 4, [(0, (-1), 3)])) rfl (hc_at g219_119) (hc_cellI hk0.1 (fun _ _ => ⟨by decide, by decide⟩)) (by decide) hc_wdn
  have hT219 := t219_119
  rw [eW219] at hT219
  have hB219 := hc_Bapp (m := 1) hB216 (by decide +kernel) rfl (by rw [hwl]; decide) hT219
  rw [← eW219] at hB219 hh218
  refine hc_putF (q0 := 113) (ci := 6) (k := 1) (own := "HopeBank$Slots") (C := RX6) (T := TX6) (N := 3) (t := tyX6 1) hx hb hown hTw hGs.1 hin hh218 rfl hB219.2.1 (by decide) hc_w101 rfl rfl (tyX6_ok 1 (by decide)) rfl rfl (Nat.le_of_ble_eq_true rfl) hc_d_Slots_19 rfl (fun Hhh220 locshh220 hh220 => ?_)
  have hh220 : hc_H D s wd (W219.set 113 (a, .inr (6, [.ref q212, .ref q217, .null]))) _ _ := hh220
  obtain ⟨B221, e221⟩ : ∃ B : va_W, B = W219.set 113 (a, .inr (6, [.ref q212, .ref q217, .null])) := ⟨_, rfl⟩
  have hB221 := hc_Bput (fs' := [.ref q212, .ref q217, .null]) hB219 (by decide +kernel) (by decide +kernel)
  rw [← e221] at hB221 hh220
  have d114_221 : hc_ad B221 114 = q212 := by rw [e221]; exact (hc_ads hB219.2.1 114).trans d219_114
  have d119_221 : hc_ad B221 119 = q217 := by rw [e221]; exact (hc_ads hB219.2.1 119).trans d219_119
  refine lv_aload_n hx hb hc_d_Slots_22 rfl (lv_at hl 0 rfl) ?_
  refine lv_iconst (v := nI 4) hx hb hc_d_Slots_23 (by decide) ?_
  refine hc_newi (N' := 4) (cA := k.1) hx hb hTw hGs.1 hh220 hc_w3 hk0.1.2 (by decide) (by decide) (Nat.le_of_ble_eq_true rfl) (Nat.le_of_ble_eq_true rfl) (Nat.le_of_ble_eq_true rfl) hc_d_Slots_24 (fun q222 Hhh223 hh223 => ?_)
  have hh223 : hc_H D s wd (B221 ++ [(q222, .inl (k.1, 4, .inl (fun _ => 0)))]) _ _ := hh223
  obtain ⟨W224, eW224⟩ : ∃ B : va_W, B = B221 ++ [(q222, .inl (k.1, 4, .inl (fun _ => 0)))] := ⟨_, rfl⟩
  have g224_120 : W224[120]? = some (q222, .inl (k.1, 4, .inl (fun _ => 0))) := by rw [eW224]; exact (hc_gr (n := 120) (i := 0) hB221.1).trans rfl
  have d224_120 : hc_ad W224 120 = q222 := by unfold hc_ad; rw [g224_120]; rfl
  have d224_114 : hc_ad W224 114 = q212 := by rw [eW224]; exact (hc_adl (by rw [hB221.1]; decide)).trans d114_221
  have d224_119 : hc_ad W224 119 = q217 := by rw [eW224]; exact (hc_adl (by rw [hB221.1]; decide)).trans d119_221
  have t224_120 : hb_wd hb_KT s (hc_ad W224) W224 [120] := hc_wdc (c := 120) (kd := (1, 0, 4, [(0, 0, 60)])) rfl (hc_at g224_120) (hc_cellI hk0.1 (fun _ _ => ⟨by decide, by decide⟩)) (by decide) hc_wdn
  have hT224 := t224_120
  rw [eW224] at hT224
  have hB224 := hc_Bapp (m := 1) hB221 (by decide +kernel) rfl (by rw [hwl]; decide) hT224
  rw [← eW224] at hB224 hh223
  refine hc_putF (q0 := 113) (ci := 6) (k := 2) (own := "HopeBank$Slots") (C := RX6) (T := TX6) (N := 3) (t := tyX6 2) hx hb hown hTw hGs.1 hin hh223 rfl hB224.2.1 (by decide) hc_w102 rfl rfl (tyX6_ok 2 (by decide)) rfl rfl (Nat.le_of_ble_eq_true rfl) hc_d_Slots_26 rfl (fun Hhh225 locshh225 hh225 => ?_)
  have hh225 : hc_H D s wd (W224.set 113 (a, .inr (6, [.ref q212, .ref q217, .ref q222]))) _ _ := hh225
  obtain ⟨B226, e226⟩ : ∃ B : va_W, B = W224.set 113 (a, .inr (6, [.ref q212, .ref q217, .ref q222])) := ⟨_, rfl⟩
  have hB226 := hc_Bput (fs' := [.ref q212, .ref q217, .ref q222]) hB224 (by decide +kernel) (by decide +kernel)
  rw [← e226] at hB226 hh225
  have d114_226 : hc_ad B226 114 = q212 := by rw [e226]; exact (hc_ads hB224.2.1 114).trans d224_114
  have d119_226 : hc_ad B226 119 = q217 := by rw [e226]; exact (hc_ads hB224.2.1 119).trans d224_119
  have d120_226 : hc_ad B226 120 = q222 := by rw [e226]; exact (hc_ads hB224.2.1 120).trans d224_120
  refine lv_aload_n hx hb hc_d_Slots_29 rfl (lv_at hl 0 rfl) ?_
  refine hc_getf (q0 := 113) (ci := 6) (k := 1) (v := .ref q217) (own := "HopeBank$Slots") (C := RX6) (T := TX6) (N := 3) hx hb hown hTw hGs.1 hh225 rfl hB226.2.1 (by decide) hc_w101 rfl hc_d_Slots_30 ?_
  refine lv_iconst (v := (-1 : Int32)) hx hb hc_d_Slots_33 (by decide) ?_
  refine hp_cQS (q := hb_q2115) (y := (⟨"java/util/Arrays", "fill", "([II)V"⟩, prog_21_method_103_code, 4, none)) (U := hc_ad B226) (As := [.ref q217, .int (-1 : Int32)]) (rest := []) hBd hGs hh225 hb_m2115 rfl rfl rfl (by decide +kernel) ⟨congrArg Value.ref (d119_226).symm, ⟨by decide, _, rfl, by decide⟩, trivial⟩ (hB226.2.2.1.less (by decide)) hc_w103 hc_w104 hc_w105 (by decide) ⟨(Nat.le_of_ble_eq_true rfl), (Nat.le_of_ble_eq_true rfl)⟩ (fun sig h => by cases h; rfl) hl.1 rfl (Nat.le_of_ble_eq_true rfl) ⟨(Nat.le_of_ble_eq_true rfl), (Nat.le_of_ble_eq_true rfl)⟩ hc_d_Slots_34 (fun w227 H227 locs227 hh227 hwd227 hf227 hs227 => ?_)
  have hB227 := hc_Bfr hB226 hwd227 hf227 (by decide) ⟨by decide, by decide⟩ (fun j hj => hc_nm (lo := 119) (hj := by omega))
  have hw227 : ∀ j, j < 4 → hp_at (hc_ad w227) w227 119 j (-1) := fun j hj => by
    rw [show hc_ad w227 = hc_ad B226 from funext (fun c => hc_fra hf227 c)]
    rcases (show j = 0 ∨ j = 1 ∨ j = 2 ∨ j = 3 by omega) with e | e | e | e <;> subst e
    · exact hs227 119 0 (-1) (by decide +kernel)
    · exact hs227 119 1 (-1) (by decide +kernel)
    · exact hs227 119 2 (-1) (by decide +kernel)
    · exact hs227 119 3 (-1) (by decide +kernel)
  have d114_227 : hc_ad w227 114 = q212 := (hc_fra hf227 114).trans d114_226
  have d119_227 : hc_ad w227 119 = q217 := (hc_fra hf227 119).trans d119_226
  have d120_227 : hc_ad w227 120 = q222 := (hc_fra hf227 120).trans d120_226
  refine W.widen (k := 7) (n := 252) (by omega) (by omega) ?_
  exact hc_ret hx hb hret hlocks hh227 hc_d_Slots_37 (fun t hv => ⟨hc_Bend hB227 hv (kd := (0, 6, 3, [(2, 114, 0), (2, 119, 0), (2, 120, 0)])) rfl (hc_cellO rfl ⟨congrArg Value.ref (d114_227).symm, congrArg Value.ref (d119_227).symm, congrArg Value.ref (d120_227).symm, trivial⟩) (by decide) (by decide +kernel), hw227⟩)
set_option maxHeartbeats 16000000 in
theorem hc_Trials {l : Launch} {D : va_G} {S : Nat → Nat} {wd : va_W} {a x1 : Nat} (hn : wd.length = 92) (hk : wd[91]? = some (a, .inr (10, hc_Z_Trials))) (hx1 : hc_ad wd 19 = x1) : hc_Met l hc_y_Trials 3 70 11 104 D (hc_ad wd) S wd [19, 22, 23] [.ref a, .ref x1] (hc_PT wd 91 103 [91, 92, 93, 94, 95, 96, 97, 98, 99, 100, 101, 102]) := by
  have hwl : wd.length = 92 := hn
  refine hc_enter (by decide) (Nat.le_of_ble_eq_true rfl) ?_
  intro p e s m below meth c ls hBd hin hh hwd hGs hX hl
  obtain ⟨hx, hb, hml, hown, hlocks, hret, hTw⟩ := id hBd
  obtain ⟨k, hk0⟩ := hc_Kof hTw
  have hB := hc_B0 hn (show wd[91]? = some (a, .inr (10, [.null, .null, .null, .long 0, .long 0])) from hk) hwd
  refine lv_aload_n hx hb hc_d_Trials_0 rfl (lv_at hl 0 rfl) ?_
  refine hc_obj (own := "HopeBank$Trials") hx hb (by rw [hml, hl.1]) hown hTw hc_w106 hc_oi hc_oc hc_d_Trials_1 (Nat.le_of_ble_eq_true rfl) (Nat.le_of_ble_eq_true rfl) ?_
  refine lv_aload_n hx hb hc_d_Trials_4 rfl (lv_at hl 0 rfl) ?_
  refine lv_aload_n hx hb hc_d_Trials_5 rfl (lv_at hl 1 rfl) ?_
  refine hc_putF (q0 := 91) (ci := 10) (k := 0) (own := "HopeBank$Trials") (C := RX10) (T := TX10) (N := 5) (t := tyX10 0) hx hb hown hTw hGs.1 hin hh rfl hB.2.1 (by decide) hc_w107 rfl rfl (tyX10_ok 0 (by decide)) rfl rfl (Nat.le_of_ble_eq_true rfl) hc_d_Trials_6 rfl (fun Hhh228 locshh228 hh228 => ?_)
  have hh228 : hc_H D s wd (wd.set 91 (a, .inr (10, [.ref x1, .null, .null, .long 0, .long 0]))) _ _ := hh228
  obtain ⟨B229, e229⟩ : ∃ B : va_W, B = wd.set 91 (a, .inr (10, [.ref x1, .null, .null, .long 0, .long 0])) := ⟨_, rfl⟩
  have hB229 := hc_Bput (fs' := [.ref x1, .null, .null, .long 0, .long 0]) hB (by decide +kernel) (by decide +kernel)
  rw [← e229] at hB229 hh228
  have d19_229 : hc_ad B229 19 = x1 := by rw [e229]; exact (hc_ads hB.2.1 19).trans hx1
  refine lv_aload_n hx hb hc_d_Trials_9 rfl (lv_at hl 0 rfl) ?_
  refine hc_new (ci := 3) (fs := hc_Z_Play) (own := "HopeBank$Trials") (C := RX3) (T := TX3) (N := 16) (ty := tyX3) hx hb hown hTw hGs.1 hh228 rfl tyX3_ok hc_Zok_Play hc_w108 hc_w109 hc_w91 (Nat.le_of_ble_eq_true rfl) (Nat.le_of_ble_eq_true rfl) hc_d_Trials_10 (fun q230 Hhh231 hh231 => ?_)
  have hh231 : hc_H D s wd (B229 ++ [(q230, .inr (3, hc_Z_Play))]) _ _ := hh231
  refine lv_dup hx hb hc_d_Trials_13 rfl ?_
  refine lv_aload_n hx hb hc_d_Trials_14 rfl (lv_at hl 1 rfl) ?_
  refine hc_cI (nm := ⟨"HopeBank$Play", "<init>", "(LHopeBank$Town;)V"⟩) (bc := prog_5_method_1_code) (mL := 2) (b := q230) (As := [.ref x1]) (rest := [.ref q230, .ref a]) (fp := [19, 22, 23]) (U := (hc_ad (B229 ++ [(q230, .inr (3, hc_Z_Play))]))) hBd hGs hX hh231 (hc_wdU (n := 92) (hB229.2.2.1.less (by decide +kernel)) (by decide +kernel) (fun c hc => hc_adl (by rw [hB229.1]; exact hc)) (fun c hc => List.getElem?_append_left (by rw [hB229.1]; exact hc_clt (n := 92) (fp := [19, 22, 23]) (by decide +kernel) c hc))) (hc_Play92 (by rw [List.length_append, hB229.1]; rfl) ((hc_gr (n := 92) (i := 0) hB229.1).trans rfl) ((hc_adl (by rw [hB229.1]; decide)).trans d19_229)) hc_cd_Play hc_w91 hc_w110 hc_w111 rfl (by decide) ⟨(Nat.le_of_ble_eq_true rfl), (Nat.le_of_ble_eq_true rfl)⟩ (fun sig h => by cases h; rfl) hl.1 rfl (Nat.le_of_ble_eq_true rfl) ⟨(Nat.le_of_ble_eq_true rfl), (Nat.le_of_ble_eq_true rfl)⟩ hc_d_Trials_15 (fun t232 w232 H232 locs232 hv232 hp232 hh232 => ?_)
  have hB232 := hc_Bpt hB229 hp232 hv232 (by decide +kernel) (by rw [hwl]; decide)
  have da232 : ∀ c, c < 92 → hc_ad w232 c = hc_ad B229 c := fun c hc => (hp232.2.1 c (by rw [List.length_append, hB229.1]; show c < 92 + 1; omega)).trans (hc_adl (by rw [hB229.1]; exact hc))
  have dn232 : hc_ad w232 92 = q230 := (hp232.2.1 92 (by rw [List.length_append, hB229.1]; show 92 < 92 + 1; decide)).trans (by unfold hc_ad; rw [hc_gr (n := 92) (i := 0) hB229.1]; rfl)
  have d19_232 : hc_ad w232 19 = x1 := (da232 19 (by decide)).trans d19_229
  refine hc_putF (q0 := 91) (ci := 10) (k := 1) (own := "HopeBank$Trials") (C := RX10) (T := TX10) (N := 5) (t := tyX10 1) hx hb hown hTw hGs.1 hin hh232 rfl hB232.2.1 (by decide) hc_w112 rfl rfl (tyX10_ok 1 (by decide)) rfl rfl (Nat.le_of_ble_eq_true rfl) hc_d_Trials_18 rfl (fun Hhh233 locshh233 hh233 => ?_)
  have hh233 : hc_H D s wd (w232.set 91 (a, .inr (10, [.ref x1, .ref q230, .null, .long 0, .long 0]))) _ _ := hh233
  obtain ⟨B234, e234⟩ : ∃ B : va_W, B = w232.set 91 (a, .inr (10, [.ref x1, .ref q230, .null, .long 0, .long 0])) := ⟨_, rfl⟩
  have hB234 := hc_Bput (fs' := [.ref x1, .ref q230, .null, .long 0, .long 0]) hB232 (by decide +kernel) (by decide +kernel)
  rw [← e234] at hB234 hh233
  have d19_234 : hc_ad B234 19 = x1 := by rw [e234]; exact (hc_ads hB232.2.1 19).trans d19_232
  have d92_234 : hc_ad B234 92 = q230 := by rw [e234]; exact (hc_ads hB232.2.1 92).trans dn232
  refine lv_aload_n hx hb hc_d_Trials_21 rfl (lv_at hl 0 rfl) ?_
  refine hc_new (ci := 1) (fs := hc_Z_Look) (own := "HopeBank$Trials") (C := RX1) (T := TX1) (N := 2) (ty := tyX1) hx hb hown hTw hGs.1 hh233 rfl tyX1_ok hc_Zok_Look hc_w113 hc_w114 hc_w115 (Nat.le_of_ble_eq_true rfl) (Nat.le_of_ble_eq_true rfl) hc_d_Trials_22 (fun q235 Hhh236 hh236 => ?_)
  have hh236 : hc_H D s wd (B234 ++ [(q235, .inr (1, hc_Z_Look))]) _ _ := hh236
  refine lv_dup hx hb hc_d_Trials_25 rfl ?_
  refine lv_aload_n hx hb hc_d_Trials_26 rfl (lv_at hl 1 rfl) ?_
  refine lv_aload_n hx hb hc_d_Trials_27 rfl (lv_at hl 0 rfl) ?_
  refine hc_getf (q0 := 91) (ci := 10) (k := 1) (v := .ref q230) (own := "HopeBank$Trials") (C := RX10) (T := TX10) (N := 5) hx hb hown hTw hGs.1 hh236 rfl (hc_gl hB234.2.1) (by decide) hc_w112 rfl hc_d_Trials_28 ?_
  refine hc_cI (nm := ⟨"HopeBank$Look", "<init>", "(LHopeBank$Town;LHopeBank$Play;)V"⟩) (bc := prog_3_method_1_code) (mL := 3) (b := q235) (As := [.ref x1, .ref q230]) (rest := [.ref q235, .ref a]) (fp := []) (U := hc_ad wd) hBd hGs hX hh236 hc_nofp (hc_Look (U := hc_ad wd) (n0 := 103) (ki := 102) (by rw [List.length_append, hB234.1]; rfl) ((hc_gr (n := 102) (i := 0) hB234.1).trans rfl)) hc_cd_Look hc_w115 hc_w116 hc_w117 rfl (by decide) ⟨(Nat.le_of_ble_eq_true rfl), (Nat.le_of_ble_eq_true rfl)⟩ (fun sig h => by cases h; rfl) hl.1 rfl (Nat.le_of_ble_eq_true rfl) ⟨(Nat.le_of_ble_eq_true rfl), (Nat.le_of_ble_eq_true rfl)⟩ hc_d_Trials_31 (fun t237 w237 H237 locs237 hv237 hp237 hh237 => ?_)
  obtain ⟨b237, hb237⟩ := hp237 k (hk0.moved hv237)
  rw [hc_sR (n := 102) (i := 0) hB234.1, List.append_assoc] at hb237
  subst hb237
  have hh237 : hc_H D s wd (B234 ++ [(q235, .inr (1, hc_F_Look x1 q230 b237))]) _ _ := hh237
  obtain ⟨W238, eW238⟩ : ∃ B : va_W, B = B234 ++ [(q235, .inr (1, hc_F_Look x1 q230 b237))] := ⟨_, rfl⟩
  have g238_102 : W238[102]? = some (q235, .inr (1, hc_F_Look x1 q230 b237)) := by rw [eW238]; exact (hc_gr (n := 102) (i := 0) hB234.1).trans rfl
  have d238_102 : hc_ad W238 102 = q235 := by unfold hc_ad; rw [g238_102]; rfl
  have d238_19 : hc_ad W238 19 = x1 := by rw [eW238]; exact (hc_adl (by rw [hB234.1]; decide)).trans d19_234
  have d238_92 : hc_ad W238 92 = q230 := by rw [eW238]; exact (hc_adl (by rw [hB234.1]; decide)).trans d92_234
  have t238_102 : hb_wd hb_KT s (hc_ad W238) W238 [102] := hc_wdc (c := 102) (kd := (0, 1, 2, [(2, 19, 0), (2, 92, 0)])) rfl (hc_at g238_102) (hc_cellO rfl ⟨congrArg Value.ref (d238_19).symm, congrArg Value.ref (d238_92).symm, trivial⟩) (by decide) hc_wdn
  have hT238 := t238_102
  rw [eW238] at hT238
  have hB238 := hc_Bapp (m := 1) hB234 (by decide +kernel) rfl (by rw [hwl]; decide) hT238
  rw [← eW238] at hB238 hh237
  refine hc_putF (q0 := 91) (ci := 10) (k := 2) (own := "HopeBank$Trials") (C := RX10) (T := TX10) (N := 5) (t := tyX10 2) hx hb hown hTw hGs.1 hin hh237 rfl hB238.2.1 (by decide) hc_w118 rfl rfl (tyX10_ok 2 (by decide)) rfl rfl (Nat.le_of_ble_eq_true rfl) hc_d_Trials_34 rfl (fun Hhh239 locshh239 hh239 => ?_)
  have hh239 : hc_H D s wd (W238.set 91 (a, .inr (10, [.ref x1, .ref q230, .ref q235, .long 0, .long 0]))) _ _ := hh239
  obtain ⟨B240, e240⟩ : ∃ B : va_W, B = W238.set 91 (a, .inr (10, [.ref x1, .ref q230, .ref q235, .long 0, .long 0])) := ⟨_, rfl⟩
  have hB240 := hc_Bput (fs' := [.ref x1, .ref q230, .ref q235, .long 0, .long 0]) hB238 (by decide +kernel) (by decide +kernel)
  rw [← e240] at hB240 hh239
  have d19_240 : hc_ad B240 19 = x1 := by rw [e240]; exact (hc_ads hB238.2.1 19).trans d238_19
  have d92_240 : hc_ad B240 92 = q230 := by rw [e240]; exact (hc_ads hB238.2.1 92).trans d238_92
  have d102_240 : hc_ad B240 102 = q235 := by rw [e240]; exact (hc_ads hB238.2.1 102).trans d238_102
  refine lv_aload_n hx hb hc_d_Trials_37 rfl (lv_at hl 0 rfl) ?_
  refine lv_lconst (v := 1) hx hb hc_d_Trials_38 (by decide) ?_
  refine hc_put (q0 := 91) (ci := 10) (k := 4) (own := "HopeBank$Trials") (C := RX10) (T := TX10) (N := 5) (t := tyX10 4) hx hb hown hTw hGs.1 hh239 rfl hB240.2.1 (by decide) hc_w119 rfl (tyX10_ok 4 (by decide)) rfl rfl (Nat.le_of_ble_eq_true rfl) hc_d_Trials_39 rfl (fun Hhh241 locshh241 hh241 => ?_)
  have hh241 : hc_H D s wd (B240.set 91 (a, .inr (10, [.ref x1, .ref q230, .ref q235, .long 0, .long 1]))) _ _ := hh241
  obtain ⟨B242, e242⟩ : ∃ B : va_W, B = B240.set 91 (a, .inr (10, [.ref x1, .ref q230, .ref q235, .long 0, .long 1])) := ⟨_, rfl⟩
  have hB242 := hc_Bput (fs' := [.ref x1, .ref q230, .ref q235, .long 0, .long 1]) hB240 (by decide +kernel) (by decide +kernel)
  rw [← e242] at hB242 hh241
  have d19_242 : hc_ad B242 19 = x1 := by rw [e242]; exact (hc_ads hB240.2.1 19).trans d19_240
  have d92_242 : hc_ad B242 92 = q230 := by rw [e242]; exact (hc_ads hB240.2.1 92).trans d92_240
  have d102_242 : hc_ad B242 102 = q235 := by rw [e242]; exact (hc_ads hB240.2.1 102).trans d102_240
  refine W.widen (k := 11) (n := 104) (by omega) (by omega) ?_
  exact hc_ret hx hb hret hlocks hh241 hc_d_Trials_42 (fun t hv => hc_Bend hB242 hv (kd := (0, 10, 5, [(2, 19, 0), (2, 92, 0), (2, 102, 0), (1, (-9223372036854775808), 9223372036854775807), (1, (-9223372036854775808), 9223372036854775807)])) rfl (hc_cellO rfl ⟨congrArg Value.ref (d19_242).symm, congrArg Value.ref (d92_242).symm, congrArg Value.ref (d102_242).symm, ⟨0, rfl, by decide, by decide⟩, ⟨1, rfl, by decide, by decide⟩, trivial⟩) (by decide) (by decide +kernel))
