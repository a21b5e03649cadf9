/-! the world behind both constructors -/
set_option maxHeartbeats 4000000 in
theorem hs_world {s : State} {w1 W : va_W} {q2 : Nat} {k : hcK} {b : Nat → Nat} (h1 : w1.length = 124) (h2 : hb_wd hb_KT s (hc_ad w1) w1 [0, 1, 2, 3, 4, 5, 6, 7, 8, 9, 10, 11, 12, 13, 14, 15, 16, 17, 18, 19, 20, 21, 22, 23, 24, 25, 26, 27, 28, 29, 30, 31, 32, 33, 34, 35, 36, 37, 38, 39, 40, 41, 42, 43, 44, 45, 46, 47, 48, 49, 50, 51, 52, 53, 54, 55, 56, 57, 58, 59, 60, 61, 62, 63, 64, 65, 66, 67, 68, 69, 70, 71, 72, 73, 74, 75, 76, 77, 78, 79, 80, 81, 82, 83, 84, 85, 86, 87, 88, 89, 90, 91, 92, 93, 94, 95, 96, 97, 98, 99, 100, 101, 102, 103, 104, 105, 106, 107, 108, 109, 110, 111, 112, 113, 114, 115, 116, 117, 118, 119, 120, 121, 122, 123]) (h5 : ∀ j, j < 4 → hp_at (hc_ad w1) w1 119 j (-1)) (hk0 : hc_K s k) (hW : W = w1 ++ ((q2, .inr (12, hc_F_HopeBankModel b)) :: hc_L_HopeBankModel k b)) : hl_inv s (hc_ad W) W ∧ hc_ad W 124 = q2 ∧ hc_ad W 0 = hc_ad w1 0 := by
  have h3 : hb_wd hb_KT s (hc_ad W) W [0, 1, 2, 3, 4, 5, 6, 7, 8, 9, 10, 11, 12, 13, 14, 15, 16, 17, 18, 19, 20, 21, 22, 23, 24, 25, 26, 27, 28, 29, 30, 31, 32, 33, 34, 35, 36, 37, 38, 39, 40, 41, 42, 43, 44, 45, 46, 47, 48, 49, 50, 51, 52, 53, 54, 55, 56, 57, 58, 59, 60, 61, 62, 63, 64, 65, 66, 67, 68, 69, 70, 71, 72, 73, 74, 75, 76, 77, 78, 79, 80, 81, 82, 83, 84, 85, 86, 87, 88, 89, 90, 91, 92, 93, 94, 95, 96, 97, 98, 99, 100, 101, 102, 103, 104, 105, 106, 107, 108, 109, 110, 111, 112, 113, 114, 115, 116, 117, 118, 119, 120, 121, 122, 123] := hc_wdU (n := 124) h2 (by decide +kernel) (fun c hc => by rw [hW]; exact hc_adl (by rw [h1]; exact hc)) (fun c hc => by rw [hW]; exact List.getElem?_append_left (by rw [h1]; exact hc_clt (n := 124) (fp := [0, 1, 2, 3, 4, 5, 6, 7, 8, 9, 10, 11, 12, 13, 14, 15, 16, 17, 18, 19, 20, 21, 22, 23, 24, 25, 26, 27, 28, 29, 30, 31, 32, 33, 34, 35, 36, 37, 38, 39, 40, 41, 42, 43, 44, 45, 46, 47, 48, 49, 50, 51, 52, 53, 54, 55, 56, 57, 58, 59, 60, 61, 62, 63, 64, 65, 66, 67, 68, 69, 70, 71, 72, 73, 74, 75, 76, 77, 78, 79, 80, 81, 82, 83, 84, 85, 86, 87, 88, 89, 90, 91, 92, 93, 94, 95, 96, 97, 98, 99, 100, 101, 102, 103, 104, 105, 106, 107, 108, 109, 110, 111, 112, 113, 114, 115, 116, 117, 118, 119, 120, 121, 122, 123]) (by decide +kernel) c hc))
  have g124 : W[124]? = some (q2, .inr (12, hc_F_HopeBankModel b)) := by rw [hW]; exact (hc_gr (n := 124) (i := 0) h1).trans rfl
  have g125 : W[125]? = some (b 0, .inl (k.1, 122, .inl (fun _ => 0))) := by rw [hW]; exact (hc_gr (n := 124) (i := 1) h1).trans rfl
  have g126 : W[126]? = some (b 1, .inl (k.1, 366, .inl (fun _ => 0))) := by rw [hW]; exact (hc_gr (n := 124) (i := 2) h1).trans rfl
  have g127 : W[127]? = some (b 2, .inl (k.2.2.1, 3, .inl (fun _ => 0))) := by rw [hW]; exact (hc_gr (n := 124) (i := 3) h1).trans rfl
  have g128 : W[128]? = some (b 3, .inl (k.2.1, 900, .inl (fun _ => 0))) := by rw [hW]; exact (hc_gr (n := 124) (i := 4) h1).trans rfl
  have g129 : W[129]? = some (b 4, .inl (k.1, 5, .inl (fun _ => 0))) := by rw [hW]; exact (hc_gr (n := 124) (i := 5) h1).trans rfl
  have g130 : W[130]? = some (b 5, .inl (k.1, 122, .inl (fun _ => 0))) := by rw [hW]; exact (hc_gr (n := 124) (i := 6) h1).trans rfl
  have g131 : W[131]? = some (b 6, .inl (k.1, 5, .inl (fun _ => 0))) := by rw [hW]; exact (hc_gr (n := 124) (i := 7) h1).trans rfl
  have g132 : W[132]? = some (b 7, .inl (k.1, 8, .inl (fun _ => 0))) := by rw [hW]; exact (hc_gr (n := 124) (i := 8) h1).trans rfl
  have g133 : W[133]? = some (b 8, .inl (k.1, 160, .inl (fun _ => 0))) := by rw [hW]; exact (hc_gr (n := 124) (i := 9) h1).trans rfl
  have g134 : W[134]? = some (b 9, .inl (k.1, 8, .inl (fun _ => 0))) := by rw [hW]; exact (hc_gr (n := 124) (i := 10) h1).trans rfl
  have g135 : W[135]? = some (b 10, .inl (k.1, 8, .inl (fun _ => 0))) := by rw [hW]; exact (hc_gr (n := 124) (i := 11) h1).trans rfl
  have g136 : W[136]? = some (b 11, .inl (k.1, 8, .inl (fun _ => 0))) := by rw [hW]; exact (hc_gr (n := 124) (i := 12) h1).trans rfl
  have g137 : W[137]? = some (b 12, .inl (k.1, 6, .inl (fun _ => 0))) := by rw [hW]; exact (hc_gr (n := 124) (i := 13) h1).trans rfl
  have g138 : W[138]? = some (b 13, .inl (k.2.2.1, 5, .inl (fun _ => 0))) := by rw [hW]; exact (hc_gr (n := 124) (i := 14) h1).trans rfl
  have g139 : W[139]? = some (b 14, .inl (k.2.2.1, 1536, .inl (fun _ => 0))) := by rw [hW]; exact (hc_gr (n := 124) (i := 15) h1).trans rfl
  have g140 : W[140]? = some (b 15, .inl (k.1, 5, .inl (fun _ => 0))) := by rw [hW]; exact (hc_gr (n := 124) (i := 16) h1).trans rfl
  have g141 : W[141]? = some (b 16, .inl (k.1, 256, .inl (fun _ => 0))) := by rw [hW]; exact (hc_gr (n := 124) (i := 17) h1).trans rfl
  have g142 : W[142]? = some (b 17, .inl (k.1, 256, .inl (fun _ => 0))) := by rw [hW]; exact (hc_gr (n := 124) (i := 18) h1).trans rfl
  have g143 : W[143]? = some (b 18, .inl (k.1, 256, .inl (fun _ => 0))) := by rw [hW]; exact (hc_gr (n := 124) (i := 19) h1).trans rfl
  have g144 : W[144]? = some (b 19, .inl (k.1, 4, .inl (upd (upd (upd (upd (fun _ => 0) 0 (-1 : Int32)) 1 (-1 : Int32)) 2 (-1 : Int32)) 3 (-1 : Int32)))) := by rw [hW]; exact (hc_gr (n := 124) (i := 20) h1).trans rfl
  have g145 : W[145]? = some (b 20, .inl (k.1, 4, .inl (fun _ => 0))) := by rw [hW]; exact (hc_gr (n := 124) (i := 21) h1).trans rfl
  have g146 : W[146]? = some (b 21, .inl (k.2.2.2, 240, .inr (.inl (fun _ => 0)))) := by rw [hW]; exact (hc_gr (n := 124) (i := 22) h1).trans rfl
  have g147 : W[147]? = some (b 22, .inl (k.2.2.2, 60, .inr (.inl (fun _ => 0)))) := by rw [hW]; exact (hc_gr (n := 124) (i := 23) h1).trans rfl
  have d124 : hc_ad W 124 = q2 := by unfold hc_ad; rw [g124]; rfl
  have d125 : hc_ad W 125 = b 0 := by unfold hc_ad; rw [g125]; rfl
  have d126 : hc_ad W 126 = b 1 := by unfold hc_ad; rw [g126]; rfl
  have d127 : hc_ad W 127 = b 2 := by unfold hc_ad; rw [g127]; rfl
  have d128 : hc_ad W 128 = b 3 := by unfold hc_ad; rw [g128]; rfl
  have d129 : hc_ad W 129 = b 4 := by unfold hc_ad; rw [g129]; rfl
  have d130 : hc_ad W 130 = b 5 := by unfold hc_ad; rw [g130]; rfl
  have d131 : hc_ad W 131 = b 6 := by unfold hc_ad; rw [g131]; rfl
  have d132 : hc_ad W 132 = b 7 := by unfold hc_ad; rw [g132]; rfl
  have d133 : hc_ad W 133 = b 8 := by unfold hc_ad; rw [g133]; rfl
  have d134 : hc_ad W 134 = b 9 := by unfold hc_ad; rw [g134]; rfl
  have d135 : hc_ad W 135 = b 10 := by unfold hc_ad; rw [g135]; rfl
  have d136 : hc_ad W 136 = b 11 := by unfold hc_ad; rw [g136]; rfl
  have d137 : hc_ad W 137 = b 12 := by unfold hc_ad; rw [g137]; rfl
  have d138 : hc_ad W 138 = b 13 := by unfold hc_ad; rw [g138]; rfl
  have d139 : hc_ad W 139 = b 14 := by unfold hc_ad; rw [g139]; rfl
  have d140 : hc_ad W 140 = b 15 := by unfold hc_ad; rw [g140]; rfl
  have d141 : hc_ad W 141 = b 16 := by unfold hc_ad; rw [g141]; rfl
  have d142 : hc_ad W 142 = b 17 := by unfold hc_ad; rw [g142]; rfl
  have d143 : hc_ad W 143 = b 18 := by unfold hc_ad; rw [g143]; rfl
  have d144 : hc_ad W 144 = b 19 := by unfold hc_ad; rw [g144]; rfl
  have d145 : hc_ad W 145 = b 20 := by unfold hc_ad; rw [g145]; rfl
  have d146 : hc_ad W 146 = b 21 := by unfold hc_ad; rw [g146]; rfl
  have d147 : hc_ad W 147 = b 22 := by unfold hc_ad; rw [g147]; rfl
  have t147 : hb_wd hb_KT s (hc_ad W) W [147] := hc_wdc (c := 147) (kd := (4, 0, 60, [(1, (-9223372036854775808), 9223372036854775807)])) rfl (hc_at g147) (hc_cellJ hk0.2.2.2 (fun _ _ => ⟨by decide, by decide⟩)) (by decide) hc_nofp
  have t146 : hb_wd hb_KT s (hc_ad W) W [146, 147] := hc_wdc (c := 146) (kd := (4, 0, 240, [(1, (-9223372036854775808), 9223372036854775807)])) rfl (hc_at g146) (hc_cellJ hk0.2.2.2 (fun _ _ => ⟨by decide, by decide⟩)) (by decide) t147
  have t145 : hb_wd hb_KT s (hc_ad W) W [145, 146, 147] := hc_wdc (c := 145) (kd := (1, 0, 4, [(0, 0, 3)])) rfl (hc_at g145) (hc_cellI hk0.1 (fun _ _ => ⟨by decide, by decide⟩)) (by decide) t146
  have t144 : hb_wd hb_KT s (hc_ad W) W [144, 145, 146, 147] := hc_wdc (c := 144) (kd := (1, 0, 4, [(0, (-1), 60)])) rfl (hc_at g144) (hc_cellI hk0.1 (fun k hk => by rcases (show k = 0 ∨ k = 1 ∨ k = 2 ∨ k = 3 by omega) with e | e | e | e <;> subst e <;> exact ⟨by decide, by decide⟩)) (by decide) t145
  have t143 : hb_wd hb_KT s (hc_ad W) W [143, 144, 145, 146, 147] := hc_wdc (c := 143) (kd := (1, 0, 256, [(0, 0, 255)])) rfl (hc_at g143) (hc_cellI hk0.1 (fun _ _ => ⟨by decide, by decide⟩)) (by decide) t144
  have t142 : hb_wd hb_KT s (hc_ad W) W [142, 143, 144, 145, 146, 147] := hc_wdc (c := 142) (kd := (1, 0, 256, [(0, (-2147483648), 2147483647)])) rfl (hc_at g142) (hc_cellI hk0.1 (fun _ _ => ⟨by decide, by decide⟩)) (by decide) t143
  have t141 : hb_wd hb_KT s (hc_ad W) W [141, 142, 143, 144, 145, 146, 147] := hc_wdc (c := 141) (kd := (1, 0, 256, [(0, (-2147483648), 2147483647)])) rfl (hc_at g141) (hc_cellI hk0.1 (fun _ _ => ⟨by decide, by decide⟩)) (by decide) t142
  have t140 : hb_wd hb_KT s (hc_ad W) W [140, 141, 142, 143, 144, 145, 146, 147] := hc_wdc (c := 140) (kd := (1, 0, 5, [(0, 0, 255)])) rfl (hc_at g140) (hc_cellI hk0.1 (fun _ _ => ⟨by decide, by decide⟩)) (by decide) t141
  have t139 : hb_wd hb_KT s (hc_ad W) W [139, 140, 141, 142, 143, 144, 145, 146, 147] := hc_wdc (c := 139) (kd := (3, 0, 1536, [(0, 0, 1)])) rfl (hc_at g139) (hc_cellZ hk0.2.2.1 (fun _ _ => ⟨by decide, by decide⟩)) (by decide) t140
  have t138 : hb_wd hb_KT s (hc_ad W) W [138, 139, 140, 141, 142, 143, 144, 145, 146, 147] := hc_wdc (c := 138) (kd := (3, 0, 5, [(0, 0, 1)])) rfl (hc_at g138) (hc_cellZ hk0.2.2.1 (fun _ _ => ⟨by decide, by decide⟩)) (by decide) t139
  have t137 : hb_wd hb_KT s (hc_ad W) W [137, 138, 139, 140, 141, 142, 143, 144, 145, 146, 147] := hc_wdc (c := 137) (kd := (1, 0, 6, [(0, (-1), 7)])) rfl (hc_at g137) (hc_cellI hk0.1 (fun _ _ => ⟨by decide, by decide⟩)) (by decide) t138
  have t136 : hb_wd hb_KT s (hc_ad W) W [136, 137, 138, 139, 140, 141, 142, 143, 144, 145, 146, 147] := hc_wdc (c := 136) (kd := (1, 0, 8, [(0, (-1), 9)])) rfl (hc_at g136) (hc_cellI hk0.1 (fun _ _ => ⟨by decide, by decide⟩)) (by decide) t137
  have t135 : hb_wd hb_KT s (hc_ad W) W [135, 136, 137, 138, 139, 140, 141, 142, 143, 144, 145, 146, 147] := hc_wdc (c := 135) (kd := (1, 0, 8, [(0, (-1), 4)])) rfl (hc_at g135) (hc_cellI hk0.1 (fun _ _ => ⟨by decide, by decide⟩)) (by decide) t136
  have t134 : hb_wd hb_KT s (hc_ad W) W [134, 135, 136, 137, 138, 139, 140, 141, 142, 143, 144, 145, 146, 147] := hc_wdc (c := 134) (kd := (1, 0, 8, [(0, (-1), 19)])) rfl (hc_at g134) (hc_cellI hk0.1 (fun _ _ => ⟨by decide, by decide⟩)) (by decide) t135
  have t133 : hb_wd hb_KT s (hc_ad W) W [133, 134, 135, 136, 137, 138, 139, 140, 141, 142, 143, 144, 145, 146, 147] := hc_wdc (c := 133) (kd := (1, 0, 160, [(0, (-12), 4)])) rfl (hc_at g133) (hc_cellI hk0.1 (fun _ _ => ⟨by decide, by decide⟩)) (by decide) t134
  have t132 : hb_wd hb_KT s (hc_ad W) W [132, 133, 134, 135, 136, 137, 138, 139, 140, 141, 142, 143, 144, 145, 146, 147] := hc_wdc (c := 132) (kd := (1, 0, 8, [(0, (-12), 4)])) rfl (hc_at g132) (hc_cellI hk0.1 (fun _ _ => ⟨by decide, by decide⟩)) (by decide) t133
  have t131 : hb_wd hb_KT s (hc_ad W) W [131, 132, 133, 134, 135, 136, 137, 138, 139, 140, 141, 142, 143, 144, 145, 146, 147] := hc_wdc (c := 131) (kd := (1, 0, 5, [(0, 0, 60)])) rfl (hc_at g131) (hc_cellI hk0.1 (fun _ _ => ⟨by decide, by decide⟩)) (by decide) t132
  have t130 : hb_wd hb_KT s (hc_ad W) W [130, 131, 132, 133, 134, 135, 136, 137, 138, 139, 140, 141, 142, 143, 144, 145, 146, 147] := hc_wdc (c := 130) (kd := (1, 0, 122, (hb_KT.getD 130 (0, 0, 0, [])).2.2.2)) rfl (hc_at g130) (hc_cellW hk0.1 (by decide +kernel)) (by decide) t131
  have t129 : hb_wd hb_KT s (hc_ad W) W [129, 130, 131, 132, 133, 134, 135, 136, 137, 138, 139, 140, 141, 142, 143, 144, 145, 146, 147] := hc_wdc (c := 129) (kd := (1, 0, 5, [(0, (-2147483648), 2147483647)])) rfl (hc_at g129) (hc_cellI hk0.1 (fun _ _ => ⟨by decide, by decide⟩)) (by decide) t130
  have t128 : hb_wd hb_KT s (hc_ad W) W [128, 129, 130, 131, 132, 133, 134, 135, 136, 137, 138, 139, 140, 141, 142, 143, 144, 145, 146, 147] := hc_wdc (c := 128) (kd := (2, 0, 900, [(0, (-128), 127)])) rfl (hc_at g128) (hc_cellB hk0.2.1 (fun _ _ => ⟨by decide, by decide⟩)) (by decide) t129
  have t127 : hb_wd hb_KT s (hc_ad W) W [127, 128, 129, 130, 131, 132, 133, 134, 135, 136, 137, 138, 139, 140, 141, 142, 143, 144, 145, 146, 147] := hc_wdc (c := 127) (kd := (3, 0, 3, [(0, 0, 1)])) rfl (hc_at g127) (hc_cellZ hk0.2.2.1 (fun _ _ => ⟨by decide, by decide⟩)) (by decide) t128
  have t126 : hb_wd hb_KT s (hc_ad W) W [126, 127, 128, 129, 130, 131, 132, 133, 134, 135, 136, 137, 138, 139, 140, 141, 142, 143, 144, 145, 146, 147] := hc_wdc (c := 126) (kd := (1, 0, 366, (hb_KT.getD 126 (0, 0, 0, [])).2.2.2)) rfl (hc_at g126) (hc_cellW hk0.1 (by decide +kernel)) (by decide) t127
  have t125 : hb_wd hb_KT s (hc_ad W) W [125, 126, 127, 128, 129, 130, 131, 132, 133, 134, 135, 136, 137, 138, 139, 140, 141, 142, 143, 144, 145, 146, 147] := hc_wdc (c := 125) (kd := (1, 0, 122, (hb_KT.getD 125 (0, 0, 0, [])).2.2.2)) rfl (hc_at g125) (hc_cellW hk0.1 (by decide +kernel)) (by decide) t126
  have t124 : hb_wd hb_KT s (hc_ad W) W [124, 125, 126, 127, 128, 129, 130, 131, 132, 133, 134, 135, 136, 137, 138, 139, 140, 141, 142, 143, 144, 145, 146, 147] := hc_wdc (c := 124) (kd := (0, 12, 46, [(0, (-2147483648), 2147483647), (2, 125, 0), (2, 126, 0), (2, 127, 0), (2, 128, 0), (0, 0, 900), (2, 129, 0), (0, 0, 900), (0, 0, 900), (0, 0, 900), (0, 0, 4), (0, (-2147483648), 2147483647), (0, 0, 3), (0, (-1), 900), (2, 130, 0), (2, 131, 0), (2, 132, 0), (2, 133, 0), (2, 134, 0), (2, 135, 0), (2, 136, 0), (2, 137, 0), (2, 138, 0), (0, (-2147483648), 2147483647), (0, 0, 1), (0, (-2147483648), 2147483647), (0, (-1), 4), (0, (-1), 19), (0, (-2147483648), 2147483647), (0, (-2147483648), 2147483647), (0, (-2147483648), 2147483647), (2, 139, 0), (2, 140, 0), (2, 141, 0), (2, 142, 0), (2, 143, 0), (0, 0, 256), (0, 0, 256), (0, (-1), 255), (1, 0, 1000000000000), (1, 0, 1000000000000), (1, (-1000000000000), 1000000000000), (2, 144, 0), (2, 145, 0), (2, 146, 0), (2, 147, 0)])) rfl (hc_at g124) (hc_cellO rfl ⟨⟨0, rfl, by decide, by decide⟩, congrArg Value.ref (d125).symm, congrArg Value.ref (d126).symm, congrArg Value.ref (d127).symm, congrArg Value.ref (d128).symm, ⟨0, rfl, by decide, by decide⟩, congrArg Value.ref (d129).symm, ⟨0, rfl, by decide, by decide⟩, ⟨0, rfl, by decide, by decide⟩, ⟨0, rfl, by decide, by decide⟩, ⟨0, rfl, by decide, by decide⟩, ⟨0, rfl, by decide, by decide⟩, ⟨0, rfl, by decide, by decide⟩, ⟨(-1 : Int32), rfl, by decide, by decide⟩, congrArg Value.ref (d130).symm, congrArg Value.ref (d131).symm, congrArg Value.ref (d132).symm, congrArg Value.ref (d133).symm, congrArg Value.ref (d134).symm, congrArg Value.ref (d135).symm, congrArg Value.ref (d136).symm, congrArg Value.ref (d137).symm, congrArg Value.ref (d138).symm, ⟨0, rfl, by decide, by decide⟩, ⟨0, rfl, by decide, by decide⟩, ⟨0, rfl, by decide, by decide⟩, ⟨0, rfl, by decide, by decide⟩, ⟨0, rfl, by decide, by decide⟩, ⟨0, rfl, by decide, by decide⟩, ⟨0, rfl, by decide, by decide⟩, ⟨0, rfl, by decide, by decide⟩, congrArg Value.ref (d139).symm, congrArg Value.ref (d140).symm, congrArg Value.ref (d141).symm, congrArg Value.ref (d142).symm, congrArg Value.ref (d143).symm, ⟨0, rfl, by decide, by decide⟩, ⟨0, rfl, by decide, by decide⟩, ⟨0, rfl, by decide, by decide⟩, ⟨0, rfl, by decide, by decide⟩, ⟨0, rfl, by decide, by decide⟩, ⟨0, rfl, by decide, by decide⟩, congrArg Value.ref (d144).symm, congrArg Value.ref (d145).symm, congrArg Value.ref (d146).symm, congrArg Value.ref (d147).symm, trivial⟩) (by decide) t125
  have hm : ∀ (c a n : Nat) (cA : ClassId) (off : Nat), W[c]? = some (a, .inl (cA, n, .inl (fun _ => 0))) → hl_mode W c off := by
    intro c a n cA off he a1 c1 n1 g h _
    rw [he] at h
    cases h
    exact Or.inr rfl
  have k5 : ∀ j, j < 4 → hp_at (hc_ad W) W 119 j (-1) := fun j hj => by rw [hW]; exact hp_appat (h5 j hj)
  have k6 : ∀ j, j < 4 → hp_at (hc_ad W) W 144 j (-1) := fun j hj => by
    rcases (show j = 0 ∨ j = 1 ∨ j = 2 ∨ j = 3 by omega) with e | e | e | e <;> subst e <;> exact ⟨_, _, hc_at g144, hb_getI (by decide), by decide⟩
  have k7 : ∀ j, j < 4 → hp_S (hc_ad W) W j := fun j hj => Or.inl ⟨k5 j hj, k6 j hj⟩
  exact ⟨⟨(hc_wda h3 t124).less (by decide +kernel), hm _ _ _ _ _ g125, hm _ _ _ _ _ g126, hm _ _ _ _ _ g126, hm _ _ _ _ _ g126, k7 0 (by decide), k7 1 (by decide), k7 2 (by decide), k7 3 (by decide)⟩, d124, by rw [hW]; exact hc_adl (by rw [h1]; decide)⟩
