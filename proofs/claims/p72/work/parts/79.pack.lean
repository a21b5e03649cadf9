theorem hw_in58 : (58, 12, 31, 9) ∈ hb_PL12.1 := by decide +kernel
theorem hw_ft58 : hb_tyAt (hb_KT.getD 124 (0, 0, 0, [])) 31 = some (2, .ofNat 139, 0) := by decide +kernel
theorem hw_in61 : (61, 12, 32, 9) ∈ hb_PL12.1 := by decide +kernel
theorem hw_ft61 : hb_tyAt (hb_KT.getD 124 (0, 0, 0, [])) 32 = some (2, .ofNat 140, 0) := by decide +kernel
section HPK
variable {l : Launch} {D : va_G} {U S : Nat → Nat} {wd : va_W} {f gx : Nat → Int32} {fx : Nat → Nat} {N P : Nat}
theorem hm_freePigs : hm_Met l hw_y_freePigs 0 0 D U S wd [124, 125, 139, 140] [140] [.ref (U 124)] (fun v wd => v = none ∧ ∃ g, hw_ar U wd 140 5 g ∧ ∀ k, k < 5 → g k = nI 0) := by
  refine hm_enter (by decide) (Nat.le_of_ble_eq_true rfl) ?_
  intro p e s m below meth c ls hBd hh hGs hl
  obtain ⟨hx, hb, hml, hown, hlocks, hret, hTw⟩ := id hBd
  have go : ∀ (n k : Nat) (ls : Array Slot) (wd1 : va_W) (H : Heap) (locs : List Loc) (g : Nat → Int32), k + n = 5 → lv_has ls hw_y_freePigs.2.2.1 [(0, .ref (U 124)), (1, .int (nI k))] → hw_H D U s wd [124, 125, 139, 140] [140] wd1 H locs → hw_ar U wd1 140 5 g → (∀ j, j < k → g j = nI 0) → W p l e (hb_rmF 0 0) s m [Value.ref (U 124)].toArray below meth c H locs 0 0 (MQ below (hm_Post D U wd s.heap.size [124, 125, 139, 140] [140] (fun v wd => v = none ∧ ∃ g, hw_ar U wd 140 5 g ∧ ∀ k, k < 5 → g k = nI 0)) [Value.ref (U 124)].toArray s 0 0 (va_A wd s.heap.size)) (F0 m 2 ls []) := by
    intro n
    induction n with
    | zero =>
      intro k ls wd1 H locs g hk hl hh hg hz
      refine lv_iload_n hx hb hw_d_freePigs_2 rfl (lv_at hl 1 rfl) ?_
      refine lv_iconst (v := nI 5) hx hb hw_d_freePigs_3 (by decide) ?_
      refine hb_row_icmp (tgt := 20) hx hb hw_d_freePigs_4 (by decide) (fun c31 => ?_) (fun c31 => ?_)
      · have c31 := hw_cge c31 (by omega) (by omega)
        exact hm_retV hx hb hret hlocks hh hw_d_freePigs_20 ⟨rfl, g, hg, fun j hj => hz j (by omega)⟩
      · have c31 := hw_clt c31 (by omega) (by omega)
        exact absurd c31 (by omega)
    | succ n ih =>
      intro k ls wd1 H locs g hk hl hh hg hz
      refine lv_iload_n hx hb hw_d_freePigs_2 rfl (lv_at hl 1 rfl) ?_
      refine lv_iconst (v := nI 5) hx hb hw_d_freePigs_3 (by decide) ?_
      refine hb_row_icmp (tgt := 20) hx hb hw_d_freePigs_4 (by decide) (fun c32 => ?_) (fun c32 => ?_)
      · have c32 := hw_cge c32 (by omega) (by omega)
        exact absurd c32 (by omega)
      · have c32 := hw_clt c32 (by omega) (by omega)
        refine lv_aload_n hx hb hw_d_freePigs_7 rfl (lv_at hl 0 rfl) ?_
        refine hm_getf (cN := 140) hx hb hown hTw hGs.1 hh (by decide) (hw_pool hTw) hw_in61 (by decide) hw_ft61 hw_d_freePigs_8 ?_
        refine lv_iload_n hx hb hw_d_freePigs_11 rfl (lv_at hl 1 rfl) ?_
        refine lv_iconst (v := nI 0) hx hb hw_d_freePigs_12 (by decide) ?_
        refine hm_st (k := k) hx hb hGs.1 hh (by decide) (by decide) hw_kt140 hg (by omega) (by decide) (by decide) (by decide) hw_d_freePigs_13 (fun wd33 H33 locs33 hh33 ha33 hk33 => ?_)
        refine lv_iinc (v := nI (k + 1)) (lv' := [(1, .int (nI (k + 1))), (0, .ref (U 124))]) hx hb hw_d_freePigs_14 hl (k := 1) rfl (hw_nI1 k) (by decide) rfl (fun ls34 hl34 => ?_)
        refine lv_goto (tgt := 2) hx hb hw_d_freePigs_17 (by decide) ?_
        exact ih (k + 1) ls34 _ _ _ _ (by omega) (lv_sub hl34 [1, 0] rfl) hh33 ha33 (fun j hj => by by_cases e : j = k; (· rw [e, pk_us]); (· rw [pk_un e]; exact hz j (by omega)))
  obtain ⟨g0, hg0, -⟩ := hm_has1 hh.2.2.2.1 (cN := 140) (by decide) hw_kt140
  refine lv_iconst (v := nI 0) hx hb hw_d_freePigs_0 (by decide) ?_
  refine lv_istore_n (lv' := [(1, .int (nI 0)), (0, .ref (U 124))]) hx hb hw_d_freePigs_1 rfl hl (by decide) rfl (fun ls35 hl35 => ?_)
  exact go 5 0 ls35 _ _ _ _ (by omega) (lv_sub hl35 [1, 0] rfl) hh hg0 (fun j hj => absurd hj (by omega))
theorem hm_layPacks {fr : Nat} (hF : hw_ar U wd 125 122 f) (hN : f 5 = nI N) (hN8 : N ≤ 8) (hP : f 4 = nI P) (hP5 : P ≤ 5) (hX : hw_ar U wd 140 5 gx) (hgx : ∀ k, k < 5 → gx k = nI (fx k)) (hfx : ∀ k, k < 5 → fx k < 256) (hfr : fr < 256) : hm_Met l hw_y_layPacks 3 68 D U S wd [124, 125, 139, 140] [139] [.ref (U 124), .int (nI fr)] (fun v wd => v = none ∧ ∃ c, hw_ar U wd 139 1536 c ∧ ∀ s, s < 256 → c (256 * P + s) = hw_b (hp_cb (hw_holds f N) fx fr P s)) := by
  refine hm_enter (by decide) (Nat.le_of_ble_eq_true rfl) ?_
  intro p e s m below meth c ls hBd hh hGs hl
  obtain ⟨hx, hb, hml, hown, hlocks, hret, hTw⟩ := id hBd
  have go2 : ∀ (n q : Nat) (ls : Array Slot) (wd1 : va_W) (H : Heap) (locs : List Loc) (ch : Nat → Int32), q + n = P → lv_has ls hw_y_layPacks.2.2.1 [(0, .ref (U 124)), (1, .int (nI fr)), (2, .int (nI q))] → hw_H D U s wd [124, 125, 139, 140] [139] wd1 H locs → hw_ar U wd1 125 122 f → hw_ar U wd1 140 5 gx → hw_ar U wd1 139 1536 ch → (∀ q' s, q' ≤ q → s < 256 → ch (256 * q' + s) = hw_b (hp_cb (hw_holds f N) fx fr q' s)) → W p l e (hb_rmF 3 68) s m [Value.ref (U 124), Value.int (nI fr)].toArray below meth c H locs 0 0 (MQ below (hm_Post D U wd s.heap.size [124, 125, 139, 140] [139] (fun v wd => v = none ∧ ∃ c, hw_ar U wd 139 1536 c ∧ ∀ s, s < 256 → c (256 * P + s) = hw_b (hp_cb (hw_holds f N) fx fr P s))) [Value.ref (U 124), Value.int (nI fr)].toArray s 0 0 (va_A wd s.heap.size)) (F0 m 32 ls []) := by
    intro n
    induction n with
    | zero =>
      intro q ls wd1 H locs ch hq hl hh hF hX hc hC
      have e1 : q = P := by omega
      subst e1
      refine lv_iload_n hx hb hw_d_layPacks_32 rfl (lv_at hl 2 rfl) ?_
      refine lv_aload_n hx hb hw_d_layPacks_33 rfl (lv_at hl 0 rfl) ?_
      refine hm_getf (cN := 125) hx hb hown hTw hGs.1 hh (by decide) (hw_pool hTw) hw_in9 (by decide) hw_ft9 hw_d_layPacks_34 ?_
      refine lv_iconst (v := nI 4) hx hb hw_d_layPacks_37 (by decide) ?_
      refine hm_ld (k := 4) hx hb hGs.1 hh (by decide) hw_kt125 hF (by omega) (by decide) hw_d_layPacks_38 ?_
      rw [hP]
      refine hb_row_icmp (tgt := 167) hx hb hw_d_layPacks_39 (by decide) (fun c36 => ?_) (fun c36 => ?_)
      · have c36 := hw_cge c36 (by omega) (by omega)
        exact hm_retV hx hb hret hlocks hh hw_d_layPacks_167 ⟨rfl, ch, hc, fun s hs => hC q s (Nat.le_refl _) hs⟩
      · have c36 := hw_clt c36 (by omega) (by omega)
        exact absurd c36 (by omega)
    | succ n ih =>
      intro q ls wd1 H locs ch hq hl hh hF hX hc hC
      have hq5 : q < 5 := by omega
      have go3 : ∀ (n t : Nat) (ls : Array Slot) (wd1 : va_W) (H : Heap) (locs : List Loc) (ch : Nat → Int32), t + n = 256 → lv_has ls hw_y_layPacks.2.2.1 [(0, .ref (U 124)), (1, .int (nI fr)), (2, .int (nI q)), (3, .int (nI t))] → hw_H D U s wd [124, 125, 139, 140] [139] wd1 H locs → hw_ar U wd1 125 122 f → hw_ar U wd1 140 5 gx → hw_ar U wd1 139 1536 ch → (∀ q' s, q' ≤ q → s < 256 → ch (256 * q' + s) = hw_b (hp_cb (hw_holds f N) fx fr q' s)) → (∀ s, s < t → ch (256 * (q + 1) + s) = hw_b (hp_cb (hw_holds f N) fx fr (q + 1) s)) → W p l e (hb_rmF 3 68) s m [Value.ref (U 124), Value.int (nI fr)].toArray below meth c H locs 0 0 (MQ below (hm_Post D U wd s.heap.size [124, 125, 139, 140] [139] (fun v wd => v = none ∧ ∃ c, hw_ar U wd 139 1536 c ∧ ∀ s, s < 256 → c (256 * P + s) = hw_b (hp_cb (hw_holds f N) fx fr P s))) [Value.ref (U 124), Value.int (nI fr)].toArray s 0 0 (va_A wd s.heap.size)) (F0 m 44 ls []) := by
        intro n
        induction n with
        | zero =>
          intro t ls wd1 H locs ch ht hl hh hF hX hc hC hT
          refine lv_iload_n hx hb hw_d_layPacks_44 rfl (lv_at hl 3 rfl) ?_
          refine lv_sipush (v := nI 256) hx hb hw_d_layPacks_45 (by decide) ?_
          refine hb_row_icmp (tgt := 161) hx hb hw_d_layPacks_48 (by decide) (fun c37 => ?_) (fun c37 => ?_)
          · have c37 := hw_cge c37 (by omega) (by omega)
            refine lv_iinc (v := nI (q + 1)) (lv' := [(2, .int (nI (q + 1))), (0, .ref (U 124)), (1, .int (nI fr)), (3, .int (nI t))]) hx hb hw_d_layPacks_161 hl (k := 2) rfl (hw_nI1 q) (by decide) rfl (fun ls38 hl38 => ?_)
            refine lv_goto (tgt := 32) hx hb hw_d_layPacks_164 (by decide) ?_
            exact ih (q + 1) ls38 _ _ _ _ (by omega) (lv_sub hl38 [1, 2, 0] rfl) hh hF hX hc (fun q' s a1 a2 => by by_cases e : q' = q + 1; (· rw [e]; exact hT s (by omega)); (· exact hC q' s (by omega) a2))
          · have c37 := hw_clt c37 (by omega) (by omega)
            exact absurd c37 (by omega)
        | succ n ih3 =>
          intro t ls wd1 H locs ch ht hl hh hF hX hc hC hT
          have ht256 : t < 256 := by omega
          have hdl := hp_df_le t fr
          refine lv_iload_n hx hb hw_d_layPacks_44 rfl (lv_at hl 3 rfl) ?_
          refine lv_sipush (v := nI 256) hx hb hw_d_layPacks_45 (by decide) ?_
          refine hb_row_icmp (tgt := 161) hx hb hw_d_layPacks_48 (by decide) (fun c39 => ?_) (fun c39 => ?_)
          · have c39 := hw_cge c39 (by omega) (by omega)
            exact absurd c39 (by omega)
          · have c39 := hw_clt c39 (by omega) (by omega)
            refine lv_iconst (v := nI 0) hx hb hw_d_layPacks_51 (by decide) ?_
            refine lv_istore (lv' := [(4, .int (nI 0)), (0, .ref (U 124)), (1, .int (nI fr)), (2, .int (nI q)), (3, .int (nI t))]) hx hb hw_d_layPacks_52 hl (by decide) rfl (fun ls40 hl40 => ?_)
            refine lv_iload_n hx hb hw_d_layPacks_54 rfl (lv_at hl40 4 rfl) ?_
            refine lv_istore (lv' := [(5, .int (nI t)), (4, .int (nI 0)), (0, .ref (U 124)), (1, .int (nI fr)), (2, .int (nI q)), (3, .int (nI t))]) hx hb hw_d_layPacks_55 hl40 (by decide) rfl (fun ls41 hl41 => ?_)
            by_cases hsf : hw_df t fr = 0
            · have hsub := hp_df_z.mp hsf
              have go4 : ∀ (b od : Nat) (ls : Array Slot) (locs : List Loc), od ≤ b → lv_has ls hw_y_layPacks.2.2.1 [(0, .ref (U 124)), (1, .int (nI fr)), (2, .int (nI q)), (3, .int (nI t)), (4, .int (nI 0)), (5, .int (nI od))] → hw_H D U s wd [124, 125, 139, 140] [139] wd1 H locs → hp_sub od t → (∀ o2, hp_sub o2 t → od < o2 → ¬ (hp_can (hw_holds f N) fx fr q (hw_df t o2) ∧ hw_holds f N q (o2 ||| fx q) = true)) → W p l e (hb_rmF 3 68) s m [Value.ref (U 124), Value.int (nI fr)].toArray below meth c H locs 0 0 (MQ below (hm_Post D U wd s.heap.size [124, 125, 139, 140] [139] (fun v wd => v = none ∧ ∃ c, hw_ar U wd 139 1536 c ∧ ∀ s, s < 256 → c (256 * P + s) = hw_b (hp_cb (hw_holds f N) fx fr P s))) [Value.ref (U 124), Value.int (nI fr)].toArray s 0 0 (va_A wd s.heap.size)) (F0 m 57 ls []) := by
                intro b
                induction b with
                | zero =>
                  intro od ls locs hob hl hh hod hbig
                  have hod0 : od = 0 := by omega
                  have hod8 : od < 2 ^ 8 := hp_sub_lt (n := 8) hod ht256
                  have hdo := hp_df_le t od
                  have hal : (od - 1) &&& t ≤ t := Nat.and_le_right
                  refine lv_iload hx hb hw_d_layPacks_57 (lv_at hl 5 rfl) ?_
                  refine hb_row_if (tgt := 139) hx hb hw_d_layPacks_59 (by decide) (fun c42 => ?_) (fun c42 => ?_)
                  · have c42 := hw_zlt c42 (by omega)
                    exact c42.elim
                  · have c42 := hw_zge c42 (by omega)
                    refine lv_iload_n hx hb hw_d_layPacks_62 rfl (lv_at hl 3 rfl) ?_
                    refine lv_iload_n hx hb hw_d_layPacks_63 rfl (lv_at hl 1 rfl) ?_
                    refine lv_iconst (v := (-1 : Int32)) hx hb hw_d_layPacks_64 (by decide) ?_
                    refine hw_ixor (v := nI fr ^^^ (-1 : Int32)) hx hb hw_d_layPacks_65 rfl ?_
                    refine hw_iand (v := nI (hw_df t fr)) hx hb hw_d_layPacks_66 (hw_ndf t fr) ?_
                    refine hb_row_if (tgt := 139) hx hb hw_d_layPacks_67 (by decide) (fun c43 => ?_) (fun c43 => ?_)
                    · have c43 := hw_zne c43 (by omega)
                      exact absurd hsf c43
                    · have c43 := hw_zeq c43 (by omega)
                      refine lv_iload hx hb hw_d_layPacks_70 (lv_at hl 4 rfl) ?_
                      refine hb_row_if (tgt := 139) hx hb hw_d_layPacks_72 (by decide) (fun c44 => ?_) (fun c44 => ?_)
                      · have c44 := hw_zne c44 (by omega)
                        exact absurd rfl c44
                      · have c44 := hw_zeq c44 (by omega)
                        refine lv_aload_n hx hb hw_d_layPacks_75 rfl (lv_at hl 0 rfl) ?_
                        refine hm_getf (cN := 139) hx hb hown hTw hGs.1 hh (by decide) (hw_pool hTw) hw_in58 (by decide) hw_ft58 hw_d_layPacks_76 ?_
                        refine lv_sipush (v := nI 256) hx hb hw_d_layPacks_79 (by decide) ?_
                        refine lv_iload_n hx hb hw_d_layPacks_82 rfl (lv_at hl 2 rfl) ?_
                        refine hw_imul (v := nI (256 * q)) hx hb hw_d_layPacks_83 (hw_nmul 256 q) ?_
                        refine lv_iload_n hx hb hw_d_layPacks_84 rfl (lv_at hl 3 rfl) ?_
                        refine lv_iload hx hb hw_d_layPacks_85 (lv_at hl 5 rfl) ?_
                        refine lv_iconst (v := (-1 : Int32)) hx hb hw_d_layPacks_87 (by decide) ?_
                        refine hw_ixor (v := nI od ^^^ (-1 : Int32)) hx hb hw_d_layPacks_88 rfl ?_
                        refine hw_iand (v := nI (hw_df t od)) hx hb hw_d_layPacks_89 (hw_ndf t od) ?_
                        refine hw_iadd (v := nI (256 * q + hw_df t od)) hx hb hw_d_layPacks_90 (hw_nadd (256 * q) (hw_df t od)) ?_
                        refine hm_ldz (k := (256 * q + hw_df t od)) hx hb hGs.1 hh (by decide) hw_kt139 hc (by omega) (by decide) hw_d_layPacks_91 ?_
                        rw [hC q _ (Nat.le_refl _) (by omega)]
                        refine hb_row_if (tgt := 116) hx hb hw_d_layPacks_92 (by decide) (fun c45 => ?_) (fun c45 => ?_)
                        · have c45 := hw_bf c45
                          have hfail : ¬ (hp_can (hw_holds f N) fx fr q (hw_df t od) ∧ hw_holds f N q (od ||| fx q) = true) := fun z => hp_cb_f c45 z.1
                          refine lv_iconst (v := nI 0) hx hb hw_d_layPacks_116 (by decide) ?_
                          refine lv_istore (lv' := [(4, .int (nI 0)), (0, .ref (U 124)), (1, .int (nI fr)), (2, .int (nI q)), (3, .int (nI t)), (5, .int (nI od))]) hx hb hw_d_layPacks_117 hl (by decide) rfl (fun ls46 hl46 => ?_)
                          refine lv_iload hx hb hw_d_layPacks_119 (lv_at hl46 5 rfl) ?_
                          refine hb_row_if (tgt := 128) hx hb hw_d_layPacks_121 (by decide) (fun c47 => ?_) (fun c47 => ?_)
                          · have c47 := hw_zne c47 (by omega)
                            exact absurd hod0 c47
                          · have c47 := hw_zeq c47 (by omega)
                            have hno : ¬ hp_can (hw_holds f N) fx fr (q + 1) t := fun z => by
                              obtain ⟨-, o2, b1, b2, b3⟩ := z
                              rcases (show o2 = od ∨ od < o2 by omega) with z | z
                              · rw [z] at b2 b3; exact hfail ⟨b2, b3⟩
                              · exact hbig o2 b1 z ⟨b2, b3⟩
                            refine lv_iconst (v := (-1 : Int32)) hx hb hw_d_layPacks_124 (by decide) ?_
                            refine lv_goto (tgt := 134) hx hb hw_d_layPacks_125 (by decide) ?_
                            refine lv_istore (lv' := [(5, .int (-1 : Int32)), (4, .int (nI 0)), (0, .ref (U 124)), (1, .int (nI fr)), (2, .int (nI q)), (3, .int (nI t))]) hx hb hw_d_layPacks_134 hl46 (by decide) rfl (fun ls48 hl48 => ?_)
                            refine lv_goto (tgt := 57) hx hb hw_d_layPacks_136 (by decide) ?_
                            refine lv_iload hx hb hw_d_layPacks_57 (lv_at hl48 0 rfl) ?_
                            refine hb_row_if (tgt := 139) hx hb hw_d_layPacks_59 (by decide) (fun c49 => ?_) (fun c49 => ?_)
                            · have c49 : (-1 : Int32).toInt < 0 := c49
                              refine lv_aload_n hx hb hw_d_layPacks_139 rfl (lv_at hl48 2 rfl) ?_
                              refine hm_getf (cN := 139) hx hb hown hTw hGs.1 hh (by decide) (hw_pool hTw) hw_in58 (by decide) hw_ft58 hw_d_layPacks_140 ?_
                              refine lv_sipush (v := nI 256) hx hb hw_d_layPacks_143 (by decide) ?_
                              refine lv_iload_n hx hb hw_d_layPacks_146 rfl (lv_at hl48 4 rfl) ?_
                              refine lv_iconst (v := nI 1) hx hb hw_d_layPacks_147 (by decide) ?_
                              refine hw_iadd (v := nI (q + 1)) hx hb hw_d_layPacks_148 (hw_nadd q 1) ?_
                              refine hw_imul (v := nI (256 * (q + 1))) hx hb hw_d_layPacks_149 (hw_nmul 256 (q + 1)) ?_
                              refine lv_iload_n hx hb hw_d_layPacks_150 rfl (lv_at hl48 5 rfl) ?_
                              refine hw_iadd (v := nI (256 * (q + 1) + t)) hx hb hw_d_layPacks_151 (hw_nadd (256 * (q + 1)) t) ?_
                              refine lv_iload hx hb hw_d_layPacks_152 (lv_at hl48 1 rfl) ?_
                              refine hm_stz (k := (256 * (q + 1) + t)) hx hb hGs.1 hh (by decide) (by decide) hw_kt139 hc (by omega) (by decide) (by decide) (by decide) hw_d_layPacks_154 (fun wd50 H50 locs50 hh50 ha50 hk50 => ?_)
                              have ha50_125 := hk50 125 _ _ (by decide) hF
                              have ha50_140 := hk50 140 _ _ (by decide) hX
                              refine lv_iinc (v := nI (t + 1)) (lv' := [(3, .int (nI (t + 1))), (5, .int (-1 : Int32)), (4, .int (nI 0)), (0, .ref (U 124)), (1, .int (nI fr)), (2, .int (nI q))]) hx hb hw_d_layPacks_155 hl48 (k := 5) rfl (hw_nI1 t) (by decide) rfl (fun ls51 hl51 => ?_)
                              refine lv_goto (tgt := 44) hx hb hw_d_layPacks_158 (by decide) ?_
                              exact ih3 (t + 1) ls51 _ _ _ _ (by omega) (lv_sub hl51 [3, 4, 5, 0] rfl) hh50 ha50_125 ha50_140 ha50 (fun q' s a1 a2 => by rw [pk_un (by omega)]; exact hC q' s a1 a2) (fun s a1 => by by_cases e : s = t; (· rw [e, pk_us]; exact (hw_b0 (hp_cb_if hno))); (· rw [pk_un (by omega)]; exact hT s (by omega)))
                            · have c49 : 0 ≤ (-1 : Int32).toInt := c49
                              exact absurd c49 (by decide)
                        · have c45 := hw_bt c45
                          have hca := c45
                          refine lv_aload_n hx hb hw_d_layPacks_95 rfl (lv_at hl 0 rfl) ?_
                          refine lv_iload_n hx hb hw_d_layPacks_96 rfl (lv_at hl 2 rfl) ?_
                          refine lv_iload hx hb hw_d_layPacks_97 (lv_at hl 5 rfl) ?_
                          refine lv_aload_n hx hb hw_d_layPacks_99 rfl (lv_at hl 0 rfl) ?_
                          refine hm_getf (cN := 140) hx hb hown hTw hGs.1 hh (by decide) (hw_pool hTw) hw_in61 (by decide) hw_ft61 hw_d_layPacks_100 ?_
                          refine lv_iload_n hx hb hw_d_layPacks_103 rfl (lv_at hl 2 rfl) ?_
                          refine hm_ld (k := q) hx hb hGs.1 hh (by decide) hw_kt140 hX hq5 (by decide) hw_d_layPacks_104 ?_
                          rw [hgx q hq5]
                          refine hw_ior (v := nI (od ||| (fx q))) hx hb hw_d_layPacks_105 (hw_nor od (fx q)) ?_
                          refine hm_cV (y := hw_y_holdsSet) (As := [.int (nI q), .int (nI (od ||| (fx q)))]) (rest := []) hBd rfl hGs.1 hh (by decide) (by decide) hF (hw_holdsSet_mt (q := q) (s0 := od ||| fx q) hq5 (Nat.or_lt_two_pow (n := 8) hod8 (hfx q hq5)) hN hN8) hb_cd309 rfl hw_w_holdsSet ⟨Nat.le_of_ble_eq_true rfl, Nat.le_of_ble_eq_true rfl⟩ (fun sig h => by cases h; rfl) hl.1 rfl (Nat.le_of_ble_eq_true rfl) hw_d_layPacks_106 (fun locs52 hh52 => ?_)
                          refine hb_row_if (tgt := 116) hx hb hw_d_layPacks_109 (by decide) (fun c53 => ?_) (fun c53 => ?_)
                          · have c53 := hw_bf c53
                            have hfail : ¬ (hp_can (hw_holds f N) fx fr q (hw_df t od) ∧ hw_holds f N q (od ||| fx q) = true) := fun z => by rw [c53] at z; exact absurd z.2 (by decide)
                            refine lv_iconst (v := nI 0) hx hb hw_d_layPacks_116 (by decide) ?_
                            refine lv_istore (lv' := [(4, .int (nI 0)), (0, .ref (U 124)), (1, .int (nI fr)), (2, .int (nI q)), (3, .int (nI t)), (5, .int (nI od))]) hx hb hw_d_layPacks_117 hl (by decide) rfl (fun ls54 hl54 => ?_)
                            refine lv_iload hx hb hw_d_layPacks_119 (lv_at hl54 5 rfl) ?_
                            refine hb_row_if (tgt := 128) hx hb hw_d_layPacks_121 (by decide) (fun c55 => ?_) (fun c55 => ?_)
                            · have c55 := hw_zne c55 (by omega)
                              exact absurd hod0 c55
                            · have c55 := hw_zeq c55 (by omega)
                              have hno : ¬ hp_can (hw_holds f N) fx fr (q + 1) t := fun z => by
                                obtain ⟨-, o2, b1, b2, b3⟩ := z
                                rcases (show o2 = od ∨ od < o2 by omega) with z | z
                                · rw [z] at b2 b3; exact hfail ⟨b2, b3⟩
                                · exact hbig o2 b1 z ⟨b2, b3⟩
                              refine lv_iconst (v := (-1 : Int32)) hx hb hw_d_layPacks_124 (by decide) ?_
                              refine lv_goto (tgt := 134) hx hb hw_d_layPacks_125 (by decide) ?_
                              refine lv_istore (lv' := [(5, .int (-1 : Int32)), (4, .int (nI 0)), (0, .ref (U 124)), (1, .int (nI fr)), (2, .int (nI q)), (3, .int (nI t))]) hx hb hw_d_layPacks_134 hl54 (by decide) rfl (fun ls56 hl56 => ?_)
                              refine lv_goto (tgt := 57) hx hb hw_d_layPacks_136 (by decide) ?_
                              refine lv_iload hx hb hw_d_layPacks_57 (lv_at hl56 0 rfl) ?_
                              refine hb_row_if (tgt := 139) hx hb hw_d_layPacks_59 (by decide) (fun c57 => ?_) (fun c57 => ?_)
                              · have c57 : (-1 : Int32).toInt < 0 := c57
                                refine lv_aload_n hx hb hw_d_layPacks_139 rfl (lv_at hl56 2 rfl) ?_
                                refine hm_getf (cN := 139) hx hb hown hTw hGs.1 hh52 (by decide) (hw_pool hTw) hw_in58 (by decide) hw_ft58 hw_d_layPacks_140 ?_
                                refine lv_sipush (v := nI 256) hx hb hw_d_layPacks_143 (by decide) ?_
                                refine lv_iload_n hx hb hw_d_layPacks_146 rfl (lv_at hl56 4 rfl) ?_
                                refine lv_iconst (v := nI 1) hx hb hw_d_layPacks_147 (by decide) ?_
                                refine hw_iadd (v := nI (q + 1)) hx hb hw_d_layPacks_148 (hw_nadd q 1) ?_
                                refine hw_imul (v := nI (256 * (q + 1))) hx hb hw_d_layPacks_149 (hw_nmul 256 (q + 1)) ?_
                                refine lv_iload_n hx hb hw_d_layPacks_150 rfl (lv_at hl56 5 rfl) ?_
                                refine hw_iadd (v := nI (256 * (q + 1) + t)) hx hb hw_d_layPacks_151 (hw_nadd (256 * (q + 1)) t) ?_
                                refine lv_iload hx hb hw_d_layPacks_152 (lv_at hl56 1 rfl) ?_
                                refine hm_stz (k := (256 * (q + 1) + t)) hx hb hGs.1 hh52 (by decide) (by decide) hw_kt139 hc (by omega) (by decide) (by decide) (by decide) hw_d_layPacks_154 (fun wd58 H58 locs58 hh58 ha58 hk58 => ?_)
                                have ha58_125 := hk58 125 _ _ (by decide) hF
                                have ha58_140 := hk58 140 _ _ (by decide) hX
                                refine lv_iinc (v := nI (t + 1)) (lv' := [(3, .int (nI (t + 1))), (5, .int (-1 : Int32)), (4, .int (nI 0)), (0, .ref (U 124)), (1, .int (nI fr)), (2, .int (nI q))]) hx hb hw_d_layPacks_155 hl56 (k := 5) rfl (hw_nI1 t) (by decide) rfl (fun ls59 hl59 => ?_)
                                refine lv_goto (tgt := 44) hx hb hw_d_layPacks_158 (by decide) ?_
                                exact ih3 (t + 1) ls59 _ _ _ _ (by omega) (lv_sub hl59 [3, 4, 5, 0] rfl) hh58 ha58_125 ha58_140 ha58 (fun q' s a1 a2 => by rw [pk_un (by omega)]; exact hC q' s a1 a2) (fun s a1 => by by_cases e : s = t; (· rw [e, pk_us]; exact (hw_b0 (hp_cb_if hno))); (· rw [pk_un (by omega)]; exact hT s (by omega)))
                              · have c57 : 0 ≤ (-1 : Int32).toInt := c57
                                exact absurd c57 (by decide)
                          · have c53 := hw_bt c53
                            have hho := c53
                            refine lv_iconst (v := nI 1) hx hb hw_d_layPacks_112 (by decide) ?_
                            refine lv_goto (tgt := 117) hx hb hw_d_layPacks_113 (by decide) ?_
                            refine lv_istore (lv' := [(4, .int (nI 1)), (0, .ref (U 124)), (1, .int (nI fr)), (2, .int (nI q)), (3, .int (nI t)), (5, .int (nI od))]) hx hb hw_d_layPacks_117 hl (by decide) rfl (fun ls60 hl60 => ?_)
                            refine lv_iload hx hb hw_d_layPacks_119 (lv_at hl60 5 rfl) ?_
                            refine hb_row_if (tgt := 128) hx hb hw_d_layPacks_121 (by decide) (fun c61 => ?_) (fun c61 => ?_)
                            · have c61 := hw_zne c61 (by omega)
                              exact absurd hod0 c61
                            · have c61 := hw_zeq c61 (by omega)
                              refine lv_iconst (v := (-1 : Int32)) hx hb hw_d_layPacks_124 (by decide) ?_
                              refine lv_goto (tgt := 134) hx hb hw_d_layPacks_125 (by decide) ?_
                              refine lv_istore (lv' := [(5, .int (-1 : Int32)), (4, .int (nI 1)), (0, .ref (U 124)), (1, .int (nI fr)), (2, .int (nI q)), (3, .int (nI t))]) hx hb hw_d_layPacks_134 hl60 (by decide) rfl (fun ls62 hl62 => ?_)
                              refine lv_goto (tgt := 57) hx hb hw_d_layPacks_136 (by decide) ?_
                              refine lv_iload hx hb hw_d_layPacks_57 (lv_at hl62 0 rfl) ?_
                              refine hb_row_if (tgt := 139) hx hb hw_d_layPacks_59 (by decide) (fun c63 => ?_) (fun c63 => ?_)
                              · have c63 : (-1 : Int32).toInt < 0 := c63
                                refine lv_aload_n hx hb hw_d_layPacks_139 rfl (lv_at hl62 2 rfl) ?_
                                refine hm_getf (cN := 139) hx hb hown hTw hGs.1 hh52 (by decide) (hw_pool hTw) hw_in58 (by decide) hw_ft58 hw_d_layPacks_140 ?_
                                refine lv_sipush (v := nI 256) hx hb hw_d_layPacks_143 (by decide) ?_
                                refine lv_iload_n hx hb hw_d_layPacks_146 rfl (lv_at hl62 4 rfl) ?_
                                refine lv_iconst (v := nI 1) hx hb hw_d_layPacks_147 (by decide) ?_
                                refine hw_iadd (v := nI (q + 1)) hx hb hw_d_layPacks_148 (hw_nadd q 1) ?_
                                refine hw_imul (v := nI (256 * (q + 1))) hx hb hw_d_layPacks_149 (hw_nmul 256 (q + 1)) ?_
                                refine lv_iload_n hx hb hw_d_layPacks_150 rfl (lv_at hl62 5 rfl) ?_
                                refine hw_iadd (v := nI (256 * (q + 1) + t)) hx hb hw_d_layPacks_151 (hw_nadd (256 * (q + 1)) t) ?_
                                refine lv_iload hx hb hw_d_layPacks_152 (lv_at hl62 1 rfl) ?_
                                refine hm_stz (k := (256 * (q + 1) + t)) hx hb hGs.1 hh52 (by decide) (by decide) hw_kt139 hc (by omega) (by decide) (by decide) (by decide) hw_d_layPacks_154 (fun wd64 H64 locs64 hh64 ha64 hk64 => ?_)
                                have ha64_125 := hk64 125 _ _ (by decide) hF
                                have ha64_140 := hk64 140 _ _ (by decide) hX
                                refine lv_iinc (v := nI (t + 1)) (lv' := [(3, .int (nI (t + 1))), (5, .int (-1 : Int32)), (4, .int (nI 1)), (0, .ref (U 124)), (1, .int (nI fr)), (2, .int (nI q))]) hx hb hw_d_layPacks_155 hl62 (k := 5) rfl (hw_nI1 t) (by decide) rfl (fun ls65 hl65 => ?_)
                                refine lv_goto (tgt := 44) hx hb hw_d_layPacks_158 (by decide) ?_
                                exact ih3 (t + 1) ls65 _ _ _ _ (by omega) (lv_sub hl65 [3, 4, 5, 0] rfl) hh64 ha64_125 ha64_140 ha64 (fun q' s a1 a2 => by rw [pk_un (by omega)]; exact hC q' s a1 a2) (fun s a1 => by by_cases e : s = t; (· rw [e, pk_us]; exact (hw_b1 (hp_cb_it ⟨hp_df_z.mp hsf, od, hod, hp_cb_t hca, hho⟩))); (· rw [pk_un (by omega)]; exact hT s (by omega)))
                              · have c63 : 0 ≤ (-1 : Int32).toInt := c63
                                exact absurd c63 (by decide)
                | succ b ih4 =>
                  intro od ls locs hob hl hh hod hbig
                  have hod8 : od < 2 ^ 8 := hp_sub_lt (n := 8) hod ht256
                  have hdo := hp_df_le t od
                  have hal : (od - 1) &&& t ≤ t := Nat.and_le_right
                  refine lv_iload hx hb hw_d_layPacks_57 (lv_at hl 5 rfl) ?_
                  refine hb_row_if (tgt := 139) hx hb hw_d_layPacks_59 (by decide) (fun c66 => ?_) (fun c66 => ?_)
                  · have c66 := hw_zlt c66 (by omega)
                    exact c66.elim
                  · have c66 := hw_zge c66 (by omega)
                    refine lv_iload_n hx hb hw_d_layPacks_62 rfl (lv_at hl 3 rfl) ?_
                    refine lv_iload_n hx hb hw_d_layPacks_63 rfl (lv_at hl 1 rfl) ?_
                    refine lv_iconst (v := (-1 : Int32)) hx hb hw_d_layPacks_64 (by decide) ?_
                    refine hw_ixor (v := nI fr ^^^ (-1 : Int32)) hx hb hw_d_layPacks_65 rfl ?_
                    refine hw_iand (v := nI (hw_df t fr)) hx hb hw_d_layPacks_66 (hw_ndf t fr) ?_
                    refine hb_row_if (tgt := 139) hx hb hw_d_layPacks_67 (by decide) (fun c67 => ?_) (fun c67 => ?_)
                    · have c67 := hw_zne c67 (by omega)
                      exact absurd hsf c67
                    · have c67 := hw_zeq c67 (by omega)
                      refine lv_iload hx hb hw_d_layPacks_70 (lv_at hl 4 rfl) ?_
                      refine hb_row_if (tgt := 139) hx hb hw_d_layPacks_72 (by decide) (fun c68 => ?_) (fun c68 => ?_)
                      · have c68 := hw_zne c68 (by omega)
                        exact absurd rfl c68
                      · have c68 := hw_zeq c68 (by omega)
                        refine lv_aload_n hx hb hw_d_layPacks_75 rfl (lv_at hl 0 rfl) ?_
                        refine hm_getf (cN := 139) hx hb hown hTw hGs.1 hh (by decide) (hw_pool hTw) hw_in58 (by decide) hw_ft58 hw_d_layPacks_76 ?_
                        refine lv_sipush (v := nI 256) hx hb hw_d_layPacks_79 (by decide) ?_
                        refine lv_iload_n hx hb hw_d_layPacks_82 rfl (lv_at hl 2 rfl) ?_
                        refine hw_imul (v := nI (256 * q)) hx hb hw_d_layPacks_83 (hw_nmul 256 q) ?_
                        refine lv_iload_n hx hb hw_d_layPacks_84 rfl (lv_at hl 3 rfl) ?_
                        refine lv_iload hx hb hw_d_layPacks_85 (lv_at hl 5 rfl) ?_
                        refine lv_iconst (v := (-1 : Int32)) hx hb hw_d_layPacks_87 (by decide) ?_
                        refine hw_ixor (v := nI od ^^^ (-1 : Int32)) hx hb hw_d_layPacks_88 rfl ?_
                        refine hw_iand (v := nI (hw_df t od)) hx hb hw_d_layPacks_89 (hw_ndf t od) ?_
                        refine hw_iadd (v := nI (256 * q + hw_df t od)) hx hb hw_d_layPacks_90 (hw_nadd (256 * q) (hw_df t od)) ?_
                        refine hm_ldz (k := (256 * q + hw_df t od)) hx hb hGs.1 hh (by decide) hw_kt139 hc (by omega) (by decide) hw_d_layPacks_91 ?_
                        rw [hC q _ (Nat.le_refl _) (by omega)]
                        refine hb_row_if (tgt := 116) hx hb hw_d_layPacks_92 (by decide) (fun c69 => ?_) (fun c69 => ?_)
                        · have c69 := hw_bf c69
                          have hfail : ¬ (hp_can (hw_holds f N) fx fr q (hw_df t od) ∧ hw_holds f N q (od ||| fx q) = true) := fun z => hp_cb_f c69 z.1
                          refine lv_iconst (v := nI 0) hx hb hw_d_layPacks_116 (by decide) ?_
                          refine lv_istore (lv' := [(4, .int (nI 0)), (0, .ref (U 124)), (1, .int (nI fr)), (2, .int (nI q)), (3, .int (nI t)), (5, .int (nI od))]) hx hb hw_d_layPacks_117 hl (by decide) rfl (fun ls70 hl70 => ?_)
                          refine lv_iload hx hb hw_d_layPacks_119 (lv_at hl70 5 rfl) ?_
                          refine hb_row_if (tgt := 128) hx hb hw_d_layPacks_121 (by decide) (fun c71 => ?_) (fun c71 => ?_)
                          · have c71 := hw_zne c71 (by omega)
                            refine lv_iload hx hb hw_d_layPacks_128 (lv_at hl70 5 rfl) ?_
                            refine lv_iconst (v := nI 1) hx hb hw_d_layPacks_130 (by decide) ?_
                            refine hw_isub (v := nI (od - 1)) hx hb hw_d_layPacks_131 (hw_nsub (by omega)) ?_
                            refine lv_iload_n hx hb hw_d_layPacks_132 rfl (lv_at hl70 4 rfl) ?_
                            refine hw_iand (v := nI ((od - 1) &&& t)) hx hb hw_d_layPacks_133 (hw_nand (od - 1) t) ?_
                            refine lv_istore (lv' := [(5, .int (nI ((od - 1) &&& t))), (4, .int (nI 0)), (0, .ref (U 124)), (1, .int (nI fr)), (2, .int (nI q)), (3, .int (nI t))]) hx hb hw_d_layPacks_134 hl70 (by decide) rfl (fun ls72 hl72 => ?_)
                            refine lv_goto (tgt := 57) hx hb hw_d_layPacks_136 (by decide) ?_
                            exact ih4 _ ls72 _ (by have := @Nat.and_le_left (od - 1) t; omega) (lv_sub hl72 [2, 3, 4, 5, 1, 0] rfl) hh (hp_and_sub _ _) (fun o2 b1 b2 => by rcases (show o2 = od ∨ od < o2 ∨ o2 < od by omega) with z | z | z; (· rw [z]; exact hfail); (· exact hbig o2 b1 z); (· exact absurd (hp_next 8 t od o2 ht256 hod b1 z) (by omega)))
                          · have c71 := hw_zeq c71 (by omega)
                            have hno : ¬ hp_can (hw_holds f N) fx fr (q + 1) t := fun z => by
                              obtain ⟨-, o2, b1, b2, b3⟩ := z
                              rcases (show o2 = od ∨ od < o2 by omega) with z | z
                              · rw [z] at b2 b3; exact hfail ⟨b2, b3⟩
                              · exact hbig o2 b1 z ⟨b2, b3⟩
                            refine lv_iconst (v := (-1 : Int32)) hx hb hw_d_layPacks_124 (by decide) ?_
                            refine lv_goto (tgt := 134) hx hb hw_d_layPacks_125 (by decide) ?_
                            refine lv_istore (lv' := [(5, .int (-1 : Int32)), (4, .int (nI 0)), (0, .ref (U 124)), (1, .int (nI fr)), (2, .int (nI q)), (3, .int (nI t))]) hx hb hw_d_layPacks_134 hl70 (by decide) rfl (fun ls73 hl73 => ?_)
                            refine lv_goto (tgt := 57) hx hb hw_d_layPacks_136 (by decide) ?_
                            refine lv_iload hx hb hw_d_layPacks_57 (lv_at hl73 0 rfl) ?_
                            refine hb_row_if (tgt := 139) hx hb hw_d_layPacks_59 (by decide) (fun c74 => ?_) (fun c74 => ?_)
                            · have c74 : (-1 : Int32).toInt < 0 := c74
                              refine lv_aload_n hx hb hw_d_layPacks_139 rfl (lv_at hl73 2 rfl) ?_
                              refine hm_getf (cN := 139) hx hb hown hTw hGs.1 hh (by decide) (hw_pool hTw) hw_in58 (by decide) hw_ft58 hw_d_layPacks_140 ?_
                              refine lv_sipush (v := nI 256) hx hb hw_d_layPacks_143 (by decide) ?_
                              refine lv_iload_n hx hb hw_d_layPacks_146 rfl (lv_at hl73 4 rfl) ?_
                              refine lv_iconst (v := nI 1) hx hb hw_d_layPacks_147 (by decide) ?_
                              refine hw_iadd (v := nI (q + 1)) hx hb hw_d_layPacks_148 (hw_nadd q 1) ?_
                              refine hw_imul (v := nI (256 * (q + 1))) hx hb hw_d_layPacks_149 (hw_nmul 256 (q + 1)) ?_
                              refine lv_iload_n hx hb hw_d_layPacks_150 rfl (lv_at hl73 5 rfl) ?_
                              refine hw_iadd (v := nI (256 * (q + 1) + t)) hx hb hw_d_layPacks_151 (hw_nadd (256 * (q + 1)) t) ?_
                              refine lv_iload hx hb hw_d_layPacks_152 (lv_at hl73 1 rfl) ?_
                              refine hm_stz (k := (256 * (q + 1) + t)) hx hb hGs.1 hh (by decide) (by decide) hw_kt139 hc (by omega) (by decide) (by decide) (by decide) hw_d_layPacks_154 (fun wd75 H75 locs75 hh75 ha75 hk75 => ?_)
                              have ha75_125 := hk75 125 _ _ (by decide) hF
                              have ha75_140 := hk75 140 _ _ (by decide) hX
                              refine lv_iinc (v := nI (t + 1)) (lv' := [(3, .int (nI (t + 1))), (5, .int (-1 : Int32)), (4, .int (nI 0)), (0, .ref (U 124)), (1, .int (nI fr)), (2, .int (nI q))]) hx hb hw_d_layPacks_155 hl73 (k := 5) rfl (hw_nI1 t) (by decide) rfl (fun ls76 hl76 => ?_)
                              refine lv_goto (tgt := 44) hx hb hw_d_layPacks_158 (by decide) ?_
                              exact ih3 (t + 1) ls76 _ _ _ _ (by omega) (lv_sub hl76 [3, 4, 5, 0] rfl) hh75 ha75_125 ha75_140 ha75 (fun q' s a1 a2 => by rw [pk_un (by omega)]; exact hC q' s a1 a2) (fun s a1 => by by_cases e : s = t; (· rw [e, pk_us]; exact (hw_b0 (hp_cb_if hno))); (· rw [pk_un (by omega)]; exact hT s (by omega)))
                            · have c74 : 0 ≤ (-1 : Int32).toInt := c74
                              exact absurd c74 (by decide)
                        · have c69 := hw_bt c69
                          have hca := c69
                          refine lv_aload_n hx hb hw_d_layPacks_95 rfl (lv_at hl 0 rfl) ?_
                          refine lv_iload_n hx hb hw_d_layPacks_96 rfl (lv_at hl 2 rfl) ?_
                          refine lv_iload hx hb hw_d_layPacks_97 (lv_at hl 5 rfl) ?_
                          refine lv_aload_n hx hb hw_d_layPacks_99 rfl (lv_at hl 0 rfl) ?_
                          refine hm_getf (cN := 140) hx hb hown hTw hGs.1 hh (by decide) (hw_pool hTw) hw_in61 (by decide) hw_ft61 hw_d_layPacks_100 ?_
                          refine lv_iload_n hx hb hw_d_layPacks_103 rfl (lv_at hl 2 rfl) ?_
                          refine hm_ld (k := q) hx hb hGs.1 hh (by decide) hw_kt140 hX hq5 (by decide) hw_d_layPacks_104 ?_
                          rw [hgx q hq5]
                          refine hw_ior (v := nI (od ||| (fx q))) hx hb hw_d_layPacks_105 (hw_nor od (fx q)) ?_
                          refine hm_cV (y := hw_y_holdsSet) (As := [.int (nI q), .int (nI (od ||| (fx q)))]) (rest := []) hBd rfl hGs.1 hh (by decide) (by decide) hF (hw_holdsSet_mt (q := q) (s0 := od ||| fx q) hq5 (Nat.or_lt_two_pow (n := 8) hod8 (hfx q hq5)) hN hN8) hb_cd309 rfl hw_w_holdsSet ⟨Nat.le_of_ble_eq_true rfl, Nat.le_of_ble_eq_true rfl⟩ (fun sig h => by cases h; rfl) hl.1 rfl (Nat.le_of_ble_eq_true rfl) hw_d_layPacks_106 (fun locs77 hh77 => ?_)
                          refine hb_row_if (tgt := 116) hx hb hw_d_layPacks_109 (by decide) (fun c78 => ?_) (fun c78 => ?_)
                          · have c78 := hw_bf c78
                            have hfail : ¬ (hp_can (hw_holds f N) fx fr q (hw_df t od) ∧ hw_holds f N q (od ||| fx q) = true) := fun z => by rw [c78] at z; exact absurd z.2 (by decide)
                            refine lv_iconst (v := nI 0) hx hb hw_d_layPacks_116 (by decide) ?_
                            refine lv_istore (lv' := [(4, .int (nI 0)), (0, .ref (U 124)), (1, .int (nI fr)), (2, .int (nI q)), (3, .int (nI t)), (5, .int (nI od))]) hx hb hw_d_layPacks_117 hl (by decide) rfl (fun ls79 hl79 => ?_)
                            refine lv_iload hx hb hw_d_layPacks_119 (lv_at hl79 5 rfl) ?_
                            refine hb_row_if (tgt := 128) hx hb hw_d_layPacks_121 (by decide) (fun c80 => ?_) (fun c80 => ?_)
                            · have c80 := hw_zne c80 (by omega)
                              refine lv_iload hx hb hw_d_layPacks_128 (lv_at hl79 5 rfl) ?_
                              refine lv_iconst (v := nI 1) hx hb hw_d_layPacks_130 (by decide) ?_
                              refine hw_isub (v := nI (od - 1)) hx hb hw_d_layPacks_131 (hw_nsub (by omega)) ?_
                              refine lv_iload_n hx hb hw_d_layPacks_132 rfl (lv_at hl79 4 rfl) ?_
                              refine hw_iand (v := nI ((od - 1) &&& t)) hx hb hw_d_layPacks_133 (hw_nand (od - 1) t) ?_
                              refine lv_istore (lv' := [(5, .int (nI ((od - 1) &&& t))), (4, .int (nI 0)), (0, .ref (U 124)), (1, .int (nI fr)), (2, .int (nI q)), (3, .int (nI t))]) hx hb hw_d_layPacks_134 hl79 (by decide) rfl (fun ls81 hl81 => ?_)
                              refine lv_goto (tgt := 57) hx hb hw_d_layPacks_136 (by decide) ?_
                              exact ih4 _ ls81 _ (by have := @Nat.and_le_left (od - 1) t; omega) (lv_sub hl81 [2, 3, 4, 5, 1, 0] rfl) hh77 (hp_and_sub _ _) (fun o2 b1 b2 => by rcases (show o2 = od ∨ od < o2 ∨ o2 < od by omega) with z | z | z; (· rw [z]; exact hfail); (· exact hbig o2 b1 z); (· exact absurd (hp_next 8 t od o2 ht256 hod b1 z) (by omega)))
                            · have c80 := hw_zeq c80 (by omega)
                              have hno : ¬ hp_can (hw_holds f N) fx fr (q + 1) t := fun z => by
                                obtain ⟨-, o2, b1, b2, b3⟩ := z
                                rcases (show o2 = od ∨ od < o2 by omega) with z | z
                                · rw [z] at b2 b3; exact hfail ⟨b2, b3⟩
                                · exact hbig o2 b1 z ⟨b2, b3⟩
                              refine lv_iconst (v := (-1 : Int32)) hx hb hw_d_layPacks_124 (by decide) ?_
                              refine lv_goto (tgt := 134) hx hb hw_d_layPacks_125 (by decide) ?_
                              refine lv_istore (lv' := [(5, .int (-1 : Int32)), (4, .int (nI 0)), (0, .ref (U 124)), (1, .int (nI fr)), (2, .int (nI q)), (3, .int (nI t))]) hx hb hw_d_layPacks_134 hl79 (by decide) rfl (fun ls82 hl82 => ?_)
                              refine lv_goto (tgt := 57) hx hb hw_d_layPacks_136 (by decide) ?_
                              refine lv_iload hx hb hw_d_layPacks_57 (lv_at hl82 0 rfl) ?_
                              refine hb_row_if (tgt := 139) hx hb hw_d_layPacks_59 (by decide) (fun c83 => ?_) (fun c83 => ?_)
                              · have c83 : (-1 : Int32).toInt < 0 := c83
                                refine lv_aload_n hx hb hw_d_layPacks_139 rfl (lv_at hl82 2 rfl) ?_
                                refine hm_getf (cN := 139) hx hb hown hTw hGs.1 hh77 (by decide) (hw_pool hTw) hw_in58 (by decide) hw_ft58 hw_d_layPacks_140 ?_
                                refine lv_sipush (v := nI 256) hx hb hw_d_layPacks_143 (by decide) ?_
                                refine lv_iload_n hx hb hw_d_layPacks_146 rfl (lv_at hl82 4 rfl) ?_
                                refine lv_iconst (v := nI 1) hx hb hw_d_layPacks_147 (by decide) ?_
                                refine hw_iadd (v := nI (q + 1)) hx hb hw_d_layPacks_148 (hw_nadd q 1) ?_
                                refine hw_imul (v := nI (256 * (q + 1))) hx hb hw_d_layPacks_149 (hw_nmul 256 (q + 1)) ?_
                                refine lv_iload_n hx hb hw_d_layPacks_150 rfl (lv_at hl82 5 rfl) ?_
                                refine hw_iadd (v := nI (256 * (q + 1) + t)) hx hb hw_d_layPacks_151 (hw_nadd (256 * (q + 1)) t) ?_
                                refine lv_iload hx hb hw_d_layPacks_152 (lv_at hl82 1 rfl) ?_
                                refine hm_stz (k := (256 * (q + 1) + t)) hx hb hGs.1 hh77 (by decide) (by decide) hw_kt139 hc (by omega) (by decide) (by decide) (by decide) hw_d_layPacks_154 (fun wd84 H84 locs84 hh84 ha84 hk84 => ?_)
                                have ha84_125 := hk84 125 _ _ (by decide) hF
                                have ha84_140 := hk84 140 _ _ (by decide) hX
                                refine lv_iinc (v := nI (t + 1)) (lv' := [(3, .int (nI (t + 1))), (5, .int (-1 : Int32)), (4, .int (nI 0)), (0, .ref (U 124)), (1, .int (nI fr)), (2, .int (nI q))]) hx hb hw_d_layPacks_155 hl82 (k := 5) rfl (hw_nI1 t) (by decide) rfl (fun ls85 hl85 => ?_)
                                refine lv_goto (tgt := 44) hx hb hw_d_layPacks_158 (by decide) ?_
                                exact ih3 (t + 1) ls85 _ _ _ _ (by omega) (lv_sub hl85 [3, 4, 5, 0] rfl) hh84 ha84_125 ha84_140 ha84 (fun q' s a1 a2 => by rw [pk_un (by omega)]; exact hC q' s a1 a2) (fun s a1 => by by_cases e : s = t; (· rw [e, pk_us]; exact (hw_b0 (hp_cb_if hno))); (· rw [pk_un (by omega)]; exact hT s (by omega)))
                              · have c83 : 0 ≤ (-1 : Int32).toInt := c83
                                exact absurd c83 (by decide)
                          · have c78 := hw_bt c78
                            have hho := c78
                            refine lv_iconst (v := nI 1) hx hb hw_d_layPacks_112 (by decide) ?_
                            refine lv_goto (tgt := 117) hx hb hw_d_layPacks_113 (by decide) ?_
                            refine lv_istore (lv' := [(4, .int (nI 1)), (0, .ref (U 124)), (1, .int (nI fr)), (2, .int (nI q)), (3, .int (nI t)), (5, .int (nI od))]) hx hb hw_d_layPacks_117 hl (by decide) rfl (fun ls86 hl86 => ?_)
                            refine lv_iload hx hb hw_d_layPacks_119 (lv_at hl86 5 rfl) ?_
                            refine hb_row_if (tgt := 128) hx hb hw_d_layPacks_121 (by decide) (fun c87 => ?_) (fun c87 => ?_)
                            · have c87 := hw_zne c87 (by omega)
                              refine lv_iload hx hb hw_d_layPacks_128 (lv_at hl86 5 rfl) ?_
                              refine lv_iconst (v := nI 1) hx hb hw_d_layPacks_130 (by decide) ?_
                              refine hw_isub (v := nI (od - 1)) hx hb hw_d_layPacks_131 (hw_nsub (by omega)) ?_
                              refine lv_iload_n hx hb hw_d_layPacks_132 rfl (lv_at hl86 4 rfl) ?_
                              refine hw_iand (v := nI ((od - 1) &&& t)) hx hb hw_d_layPacks_133 (hw_nand (od - 1) t) ?_
                              refine lv_istore (lv' := [(5, .int (nI ((od - 1) &&& t))), (4, .int (nI 1)), (0, .ref (U 124)), (1, .int (nI fr)), (2, .int (nI q)), (3, .int (nI t))]) hx hb hw_d_layPacks_134 hl86 (by decide) rfl (fun ls88 hl88 => ?_)
                              refine lv_goto (tgt := 57) hx hb hw_d_layPacks_136 (by decide) ?_
                              refine lv_iload hx hb hw_d_layPacks_57 (lv_at hl88 0 rfl) ?_
                              refine hb_row_if (tgt := 139) hx hb hw_d_layPacks_59 (by decide) (fun c89 => ?_) (fun c89 => ?_)
                              · have c89 := hw_zlt c89 (by omega)
                                exact c89.elim
                              · have c89 := hw_zge c89 (by omega)
                                refine lv_iload_n hx hb hw_d_layPacks_62 rfl (lv_at hl88 5 rfl) ?_
                                refine lv_iload_n hx hb hw_d_layPacks_63 rfl (lv_at hl88 3 rfl) ?_
                                refine lv_iconst (v := (-1 : Int32)) hx hb hw_d_layPacks_64 (by decide) ?_
                                refine hw_ixor (v := nI fr ^^^ (-1 : Int32)) hx hb hw_d_layPacks_65 rfl ?_
                                refine hw_iand (v := nI (hw_df t fr)) hx hb hw_d_layPacks_66 (hw_ndf t fr) ?_
                                refine hb_row_if (tgt := 139) hx hb hw_d_layPacks_67 (by decide) (fun c90 => ?_) (fun c90 => ?_)
                                · have c90 := hw_zne c90 (by omega)
                                  exact absurd hsf c90
                                · have c90 := hw_zeq c90 (by omega)
                                  refine lv_iload hx hb hw_d_layPacks_70 (lv_at hl88 1 rfl) ?_
                                  refine hb_row_if (tgt := 139) hx hb hw_d_layPacks_72 (by decide) (fun c91 => ?_) (fun c91 => ?_)
                                  · have c91 := hw_zne c91 (by omega)
                                    refine lv_aload_n hx hb hw_d_layPacks_139 rfl (lv_at hl88 2 rfl) ?_
                                    refine hm_getf (cN := 139) hx hb hown hTw hGs.1 hh77 (by decide) (hw_pool hTw) hw_in58 (by decide) hw_ft58 hw_d_layPacks_140 ?_
                                    refine lv_sipush (v := nI 256) hx hb hw_d_layPacks_143 (by decide) ?_
                                    refine lv_iload_n hx hb hw_d_layPacks_146 rfl (lv_at hl88 4 rfl) ?_
                                    refine lv_iconst (v := nI 1) hx hb hw_d_layPacks_147 (by decide) ?_
                                    refine hw_iadd (v := nI (q + 1)) hx hb hw_d_layPacks_148 (hw_nadd q 1) ?_
                                    refine hw_imul (v := nI (256 * (q + 1))) hx hb hw_d_layPacks_149 (hw_nmul 256 (q + 1)) ?_
                                    refine lv_iload_n hx hb hw_d_layPacks_150 rfl (lv_at hl88 5 rfl) ?_
                                    refine hw_iadd (v := nI (256 * (q + 1) + t)) hx hb hw_d_layPacks_151 (hw_nadd (256 * (q + 1)) t) ?_
                                    refine lv_iload hx hb hw_d_layPacks_152 (lv_at hl88 1 rfl) ?_
                                    refine hm_stz (k := (256 * (q + 1) + t)) hx hb hGs.1 hh77 (by decide) (by decide) hw_kt139 hc (by omega) (by decide) (by decide) (by decide) hw_d_layPacks_154 (fun wd92 H92 locs92 hh92 ha92 hk92 => ?_)
                                    have ha92_125 := hk92 125 _ _ (by decide) hF
                                    have ha92_140 := hk92 140 _ _ (by decide) hX
                                    refine lv_iinc (v := nI (t + 1)) (lv' := [(3, .int (nI (t + 1))), (5, .int (nI ((od - 1) &&& t))), (4, .int (nI 1)), (0, .ref (U 124)), (1, .int (nI fr)), (2, .int (nI q))]) hx hb hw_d_layPacks_155 hl88 (k := 5) rfl (hw_nI1 t) (by decide) rfl (fun ls93 hl93 => ?_)
                                    refine lv_goto (tgt := 44) hx hb hw_d_layPacks_158 (by decide) ?_
                                    exact ih3 (t + 1) ls93 _ _ _ _ (by omega) (lv_sub hl93 [3, 4, 5, 0] rfl) hh92 ha92_125 ha92_140 ha92 (fun q' s a1 a2 => by rw [pk_un (by omega)]; exact hC q' s a1 a2) (fun s a1 => by by_cases e : s = t; (· rw [e, pk_us]; exact (hw_b1 (hp_cb_it ⟨hp_df_z.mp hsf, od, hod, hp_cb_t hca, hho⟩))); (· rw [pk_un (by omega)]; exact hT s (by omega)))
                                  · have c91 := hw_zeq c91 (by omega)
                                    exact absurd c91 (by decide)
                            · have c87 := hw_zeq c87 (by omega)
                              refine lv_iconst (v := (-1 : Int32)) hx hb hw_d_layPacks_124 (by decide) ?_
                              refine lv_goto (tgt := 134) hx hb hw_d_layPacks_125 (by decide) ?_
                              refine lv_istore (lv' := [(5, .int (-1 : Int32)), (4, .int (nI 1)), (0, .ref (U 124)), (1, .int (nI fr)), (2, .int (nI q)), (3, .int (nI t))]) hx hb hw_d_layPacks_134 hl86 (by decide) rfl (fun ls94 hl94 => ?_)
                              refine lv_goto (tgt := 57) hx hb hw_d_layPacks_136 (by decide) ?_
                              refine lv_iload hx hb hw_d_layPacks_57 (lv_at hl94 0 rfl) ?_
                              refine hb_row_if (tgt := 139) hx hb hw_d_layPacks_59 (by decide) (fun c95 => ?_) (fun c95 => ?_)
                              · have c95 : (-1 : Int32).toInt < 0 := c95
                                refine lv_aload_n hx hb hw_d_layPacks_139 rfl (lv_at hl94 2 rfl) ?_
                                refine hm_getf (cN := 139) hx hb hown hTw hGs.1 hh77 (by decide) (hw_pool hTw) hw_in58 (by decide) hw_ft58 hw_d_layPacks_140 ?_
                                refine lv_sipush (v := nI 256) hx hb hw_d_layPacks_143 (by decide) ?_
                                refine lv_iload_n hx hb hw_d_layPacks_146 rfl (lv_at hl94 4 rfl) ?_
                                refine lv_iconst (v := nI 1) hx hb hw_d_layPacks_147 (by decide) ?_
                                refine hw_iadd (v := nI (q + 1)) hx hb hw_d_layPacks_148 (hw_nadd q 1) ?_
                                refine hw_imul (v := nI (256 * (q + 1))) hx hb hw_d_layPacks_149 (hw_nmul 256 (q + 1)) ?_
                                refine lv_iload_n hx hb hw_d_layPacks_150 rfl (lv_at hl94 5 rfl) ?_
                                refine hw_iadd (v := nI (256 * (q + 1) + t)) hx hb hw_d_layPacks_151 (hw_nadd (256 * (q + 1)) t) ?_
                                refine lv_iload hx hb hw_d_layPacks_152 (lv_at hl94 1 rfl) ?_
                                refine hm_stz (k := (256 * (q + 1) + t)) hx hb hGs.1 hh77 (by decide) (by decide) hw_kt139 hc (by omega) (by decide) (by decide) (by decide) hw_d_layPacks_154 (fun wd96 H96 locs96 hh96 ha96 hk96 => ?_)
                                have ha96_125 := hk96 125 _ _ (by decide) hF
                                have ha96_140 := hk96 140 _ _ (by decide) hX
                                refine lv_iinc (v := nI (t + 1)) (lv' := [(3, .int (nI (t + 1))), (5, .int (-1 : Int32)), (4, .int (nI 1)), (0, .ref (U 124)), (1, .int (nI fr)), (2, .int (nI q))]) hx hb hw_d_layPacks_155 hl94 (k := 5) rfl (hw_nI1 t) (by decide) rfl (fun ls97 hl97 => ?_)
                                refine lv_goto (tgt := 44) hx hb hw_d_layPacks_158 (by decide) ?_
                                exact ih3 (t + 1) ls97 _ _ _ _ (by omega) (lv_sub hl97 [3, 4, 5, 0] rfl) hh96 ha96_125 ha96_140 ha96 (fun q' s a1 a2 => by rw [pk_un (by omega)]; exact hC q' s a1 a2) (fun s a1 => by by_cases e : s = t; (· rw [e, pk_us]; exact (hw_b1 (hp_cb_it ⟨hp_df_z.mp hsf, od, hod, hp_cb_t hca, hho⟩))); (· rw [pk_un (by omega)]; exact hT s (by omega)))
                              · have c95 : 0 ≤ (-1 : Int32).toInt := c95
                                exact absurd c95 (by decide)
              exact go4 t t ls41 _ (Nat.le_refl _) (lv_sub hl41 [2, 3, 4, 5, 1, 0] rfl) hh (hp_sub_rf t) (fun o2 b1 b2 => absurd (hp_sub_le b1) (by omega))
            · have hno : ¬ hp_can (hw_holds f N) fx fr (q + 1) t := fun z => hsf (hp_df_z.mpr z.1)
              refine lv_iload hx hb hw_d_layPacks_57 (lv_at hl41 0 rfl) ?_
              refine hb_row_if (tgt := 139) hx hb hw_d_layPacks_59 (by decide) (fun c98 => ?_) (fun c98 => ?_)
              · have c98 := hw_zlt c98 (by omega)
                exact c98.elim
              · have c98 := hw_zge c98 (by omega)
                refine lv_iload_n hx hb hw_d_layPacks_62 rfl (lv_at hl41 5 rfl) ?_
                refine lv_iload_n hx hb hw_d_layPacks_63 rfl (lv_at hl41 3 rfl) ?_
                refine lv_iconst (v := (-1 : Int32)) hx hb hw_d_layPacks_64 (by decide) ?_
                refine hw_ixor (v := nI fr ^^^ (-1 : Int32)) hx hb hw_d_layPacks_65 rfl ?_
                refine hw_iand (v := nI (hw_df t fr)) hx hb hw_d_layPacks_66 (hw_ndf t fr) ?_
                refine hb_row_if (tgt := 139) hx hb hw_d_layPacks_67 (by decide) (fun c99 => ?_) (fun c99 => ?_)
                · have c99 := hw_zne c99 (by omega)
                  refine lv_aload_n hx hb hw_d_layPacks_139 rfl (lv_at hl41 2 rfl) ?_
                  refine hm_getf (cN := 139) hx hb hown hTw hGs.1 hh (by decide) (hw_pool hTw) hw_in58 (by decide) hw_ft58 hw_d_layPacks_140 ?_
                  refine lv_sipush (v := nI 256) hx hb hw_d_layPacks_143 (by decide) ?_
                  refine lv_iload_n hx hb hw_d_layPacks_146 rfl (lv_at hl41 4 rfl) ?_
                  refine lv_iconst (v := nI 1) hx hb hw_d_layPacks_147 (by decide) ?_
                  refine hw_iadd (v := nI (q + 1)) hx hb hw_d_layPacks_148 (hw_nadd q 1) ?_
                  refine hw_imul (v := nI (256 * (q + 1))) hx hb hw_d_layPacks_149 (hw_nmul 256 (q + 1)) ?_
                  refine lv_iload_n hx hb hw_d_layPacks_150 rfl (lv_at hl41 5 rfl) ?_
                  refine hw_iadd (v := nI (256 * (q + 1) + t)) hx hb hw_d_layPacks_151 (hw_nadd (256 * (q + 1)) t) ?_
                  refine lv_iload hx hb hw_d_layPacks_152 (lv_at hl41 1 rfl) ?_
                  refine hm_stz (k := (256 * (q + 1) + t)) hx hb hGs.1 hh (by decide) (by decide) hw_kt139 hc (by omega) (by decide) (by decide) (by decide) hw_d_layPacks_154 (fun wd100 H100 locs100 hh100 ha100 hk100 => ?_)
                  have ha100_125 := hk100 125 _ _ (by decide) hF
                  have ha100_140 := hk100 140 _ _ (by decide) hX
                  refine lv_iinc (v := nI (t + 1)) (lv' := [(3, .int (nI (t + 1))), (5, .int (nI t)), (4, .int (nI 0)), (0, .ref (U 124)), (1, .int (nI fr)), (2, .int (nI q))]) hx hb hw_d_layPacks_155 hl41 (k := 5) rfl (hw_nI1 t) (by decide) rfl (fun ls101 hl101 => ?_)
                  refine lv_goto (tgt := 44) hx hb hw_d_layPacks_158 (by decide) ?_
                  exact ih3 (t + 1) ls101 _ _ _ _ (by omega) (lv_sub hl101 [3, 4, 5, 0] rfl) hh100 ha100_125 ha100_140 ha100 (fun q' s a1 a2 => by rw [pk_un (by omega)]; exact hC q' s a1 a2) (fun s a1 => by by_cases e : s = t; (· rw [e, pk_us]; exact (hw_b0 (hp_cb_if hno))); (· rw [pk_un (by omega)]; exact hT s (by omega)))
                · have c99 := hw_zeq c99 (by omega)
                  exact absurd c99 hsf
      refine lv_iload_n hx hb hw_d_layPacks_32 rfl (lv_at hl 2 rfl) ?_
      refine lv_aload_n hx hb hw_d_layPacks_33 rfl (lv_at hl 0 rfl) ?_
      refine hm_getf (cN := 125) hx hb hown hTw hGs.1 hh (by decide) (hw_pool hTw) hw_in9 (by decide) hw_ft9 hw_d_layPacks_34 ?_
      refine lv_iconst (v := nI 4) hx hb hw_d_layPacks_37 (by decide) ?_
      refine hm_ld (k := 4) hx hb hGs.1 hh (by decide) hw_kt125 hF (by omega) (by decide) hw_d_layPacks_38 ?_
      rw [hP]
      refine hb_row_icmp (tgt := 167) hx hb hw_d_layPacks_39 (by decide) (fun c102 => ?_) (fun c102 => ?_)
      · have c102 := hw_cge c102 (by omega) (by omega)
        exact absurd c102 (by omega)
      · have c102 := hw_clt c102 (by omega) (by omega)
        refine lv_iconst (v := nI 0) hx hb hw_d_layPacks_42 (by decide) ?_
        refine lv_istore_n (lv' := [(3, .int (nI 0)), (0, .ref (U 124)), (1, .int (nI fr)), (2, .int (nI q))]) hx hb hw_d_layPacks_43 rfl hl (by decide) rfl (fun ls103 hl103 => ?_)
        exact go3 256 0 ls103 _ _ _ _ (by omega) (lv_sub hl103 [1, 2, 3, 0] rfl) hh hF hX hc hC (fun s a1 => absurd a1 (by omega))
  have go1 : ∀ (n t : Nat) (ls : Array Slot) (wd1 : va_W) (H : Heap) (locs : List Loc) (ch : Nat → Int32), t + n = 256 → lv_has ls hw_y_layPacks.2.2.1 [(0, .ref (U 124)), (1, .int (nI fr)), (2, .int (nI t))] → hw_H D U s wd [124, 125, 139, 140] [139] wd1 H locs → hw_ar U wd1 125 122 f → hw_ar U wd1 140 5 gx → hw_ar U wd1 139 1536 ch → (∀ s, s < t → ch s = hw_b (hp_cb (hw_holds f N) fx fr 0 s)) → W p l e (hb_rmF 3 68) s m [Value.ref (U 124), Value.int (nI fr)].toArray below meth c H locs 0 0 (MQ below (hm_Post D U wd s.heap.size [124, 125, 139, 140] [139] (fun v wd => v = none ∧ ∃ c, hw_ar U wd 139 1536 c ∧ ∀ s, s < 256 → c (256 * P + s) = hw_b (hp_cb (hw_holds f N) fx fr P s))) [Value.ref (U 124), Value.int (nI fr)].toArray s 0 0 (va_A wd s.heap.size)) (F0 m 2 ls []) := by
    intro n
    induction n with
    | zero =>
      intro t ls wd1 H locs ch ht hl hh hF hX hc hC
      refine lv_iload_n hx hb hw_d_layPacks_2 rfl (lv_at hl 2 rfl) ?_
      refine lv_sipush (v := nI 256) hx hb hw_d_layPacks_3 (by decide) ?_
      refine hb_row_icmp (tgt := 30) hx hb hw_d_layPacks_6 (by decide) (fun c104 => ?_) (fun c104 => ?_)
      · have c104 := hw_cge c104 (by omega) (by omega)
        refine lv_iconst (v := nI 0) hx hb hw_d_layPacks_30 (by decide) ?_
        refine lv_istore_n (lv' := [(2, .int (nI 0)), (0, .ref (U 124)), (1, .int (nI fr))]) hx hb hw_d_layPacks_31 rfl hl (by decide) rfl (fun ls105 hl105 => ?_)
        exact go2 P 0 ls105 _ _ _ _ (by omega) (lv_sub hl105 [1, 2, 0] rfl) hh hF hX hc (fun q' s a1 a2 => by rw [show q' = 0 by omega, Nat.mul_zero, Nat.zero_add]; exact hC s (by omega))
      · have c104 := hw_clt c104 (by omega) (by omega)
        exact absurd c104 (by omega)
    | succ n ih =>
      intro t ls wd1 H locs ch ht hl hh hF hX hc hC
      refine lv_iload_n hx hb hw_d_layPacks_2 rfl (lv_at hl 2 rfl) ?_
      refine lv_sipush (v := nI 256) hx hb hw_d_layPacks_3 (by decide) ?_
      refine hb_row_icmp (tgt := 30) hx hb hw_d_layPacks_6 (by decide) (fun c106 => ?_) (fun c106 => ?_)
      · have c106 := hw_cge c106 (by omega) (by omega)
        exact absurd c106 (by omega)
      · have c106 := hw_clt c106 (by omega) (by omega)
        refine lv_aload_n hx hb hw_d_layPacks_9 rfl (lv_at hl 0 rfl) ?_
        refine hm_getf (cN := 139) hx hb hown hTw hGs.1 hh (by decide) (hw_pool hTw) hw_in58 (by decide) hw_ft58 hw_d_layPacks_10 ?_
        refine lv_iload_n hx hb hw_d_layPacks_13 rfl (lv_at hl 2 rfl) ?_
        refine lv_iload_n hx hb hw_d_layPacks_14 rfl (lv_at hl 2 rfl) ?_
        refine hb_row_if (tgt := 22) hx hb hw_d_layPacks_15 (by decide) (fun c107 => ?_) (fun c107 => ?_)
        · have c107 := hw_zne c107 (by omega)
          refine lv_iconst (v := nI 0) hx hb hw_d_layPacks_22 (by decide) ?_
          refine hm_stz (k := t) hx hb hGs.1 hh (by decide) (by decide) hw_kt139 hc (by omega) (by decide) (by decide) (by decide) hw_d_layPacks_23 (fun wd108 H108 locs108 hh108 ha108 hk108 => ?_)
          have ha108_125 := hk108 125 _ _ (by decide) hF
          have ha108_140 := hk108 140 _ _ (by decide) hX
          refine lv_iinc (v := nI (t + 1)) (lv' := [(2, .int (nI (t + 1))), (0, .ref (U 124)), (1, .int (nI fr))]) hx hb hw_d_layPacks_24 hl (k := 2) rfl (hw_nI1 t) (by decide) rfl (fun ls109 hl109 => ?_)
          refine lv_goto (tgt := 2) hx hb hw_d_layPacks_27 (by decide) ?_
          exact ih (t + 1) ls109 _ _ _ _ (by omega) (lv_sub hl109 [1, 2, 0] rfl) hh108 ha108_125 ha108_140 ha108 (fun s a1 => by by_cases e : s = t; (· rw [e, pk_us]; exact (hw_b0 (hp_cb_if (show ¬ t = 0 by omega)))); (· rw [pk_un e]; exact hC s (by omega)))
        · have c107 := hw_zeq c107 (by omega)
          refine lv_iconst (v := nI 1) hx hb hw_d_layPacks_18 (by decide) ?_
          refine lv_goto (tgt := 23) hx hb hw_d_layPacks_19 (by decide) ?_
          refine hm_stz (k := t) hx hb hGs.1 hh (by decide) (by decide) hw_kt139 hc (by omega) (by decide) (by decide) (by decide) hw_d_layPacks_23 (fun wd110 H110 locs110 hh110 ha110 hk110 => ?_)
          have ha110_125 := hk110 125 _ _ (by decide) hF
          have ha110_140 := hk110 140 _ _ (by decide) hX
          refine lv_iinc (v := nI (t + 1)) (lv' := [(2, .int (nI (t + 1))), (0, .ref (U 124)), (1, .int (nI fr))]) hx hb hw_d_layPacks_24 hl (k := 2) rfl (hw_nI1 t) (by decide) rfl (fun ls111 hl111 => ?_)
          refine lv_goto (tgt := 2) hx hb hw_d_layPacks_27 (by decide) ?_
          exact ih (t + 1) ls111 _ _ _ _ (by omega) (lv_sub hl111 [1, 2, 0] rfl) hh110 ha110_125 ha110_140 ha110 (fun s a1 => by by_cases e : s = t; (· rw [e, pk_us]; exact (hw_b1 (hp_cb_it (show t = 0 by omega)))); (· rw [pk_un e]; exact hC s (by omega)))
  obtain ⟨c0, hc0⟩ := hm_has3 hh.2.2.2.1 (cN := 139) (by decide) hw_kt139
  refine lv_iconst (v := nI 0) hx hb hw_d_layPacks_0 (by decide) ?_
  refine lv_istore_n (lv' := [(2, .int (nI 0)), (0, .ref (U 124)), (1, .int (nI fr))]) hx hb hw_d_layPacks_1 rfl hl (by decide) rfl (fun ls112 hl112 => ?_)
  exact go1 256 0 ls112 _ _ _ _ (by omega) (lv_sub hl112 [1, 2, 0] rfl) hh hF hX hc0 (fun s a1 => absurd a1 (by omega))
theorem hm_packWorth {fr : Nat} {wt : Nat → Nat} (hF : hw_ar U wd 125 122 f) (hN : f 5 = nI N) (hN8 : N ≤ 8) (hP : f 4 = nI P) (hP5 : P ≤ 5) (hX : hw_ar U wd 140 5 gx) (hgx : ∀ k, k < 5 → gx k = nI (fx k)) (hfx : ∀ k, k < 5 → fx k < 256) (hfr : fr < 256) (hW : ∀ h, h < 8 → f (22 + 3 * h) = nI (wt h) ∧ wt h ≤ 80) : hm_Met l hw_y_packWorth 4 93 D U S wd [124, 125, 139, 140] [139] [.ref (U 124), .int (nI fr)] (fun v _ => ∃ m, v = some (.int (hm_pr m)) ∧ hp_res (hw_holds f N) wt N P fx fr m 256) := by
  refine hm_enter (by decide) (Nat.le_of_ble_eq_true rfl) ?_
  intro p e s m below meth c ls hBd hh hGs hl
  obtain ⟨hx, hb, hml, hown, hlocks, hret, hTw⟩ := id hBd
  have hw6 : ∀ s, hp_w wt s N ≤ 640 := fun s => by
    have := hp_w_le (wt := wt) (s := s) (n := N) (fun h hh => (hW h (by omega)).2)
    omega
  refine lv_aload_n hx hb hw_d_packWorth_0 rfl (lv_at hl 0 rfl) ?_
  refine lv_iload_n hx hb hw_d_packWorth_1 rfl (lv_at hl 1 rfl) ?_
  refine hm_cM (y := hw_y_layPacks) (As := [.int (nI fr)]) (rest := []) hBd rfl hGs hh (by decide) (hm_layPacks hF hN hN8 hP hP5 hX hgx hfx hfr) (by decide) (by decide) (by decide) hb_cd310 rfl hw_w_layPacks ⟨Nat.le_of_ble_eq_true rfl, Nat.le_of_ble_eq_true rfl⟩ (fun sig h => by cases h; rfl) hl.1 rfl (Nat.le_of_ble_eq_true rfl) hw_d_packWorth_2 (fun v113 wd113 H113 locs113 hp113 hf113 hh113 => ?_)
  have hF113 := hm_fr_ar hf113 (by decide) hF
  obtain ⟨hv113, c113, hc113, hC113⟩ := hp113
  subst hv113
  refine lv_iconst (v := (-1 : Int32)) hx hb hw_d_packWorth_5 (by decide) ?_
  refine lv_istore_n (lv' := [(2, .int (-1 : Int32)), (0, .ref (U 124)), (1, .int (nI fr))]) hx hb hw_d_packWorth_6 rfl hl (by decide) rfl (fun ls114 hl114 => ?_)
  refine lv_iconst (v := nI 0) hx hb hw_d_packWorth_7 (by decide) ?_
  refine lv_istore_n (lv' := [(3, .int (nI 0)), (2, .int (-1 : Int32)), (0, .ref (U 124)), (1, .int (nI fr))]) hx hb hw_d_packWorth_8 rfl hl114 (by decide) rfl (fun ls115 hl115 => ?_)
  have go : ∀ (n t mm : Nat) (ls : Array Slot) (locs : List Loc), t + n = 256 → lv_has ls hw_y_packWorth.2.2.1 [(0, .ref (U 124)), (2, .int (hm_pr mm)), (3, .int (nI t))] → hw_H D U s wd [124, 125, 139, 140] [139] wd113 H113 locs → hp_res (hw_holds f N) wt N P fx fr mm t → W p l e (hb_rmF 4 93) s m [Value.ref (U 124), Value.int (nI fr)].toArray below meth c H113 locs 0 0 (MQ below (hm_Post D U wd s.heap.size [124, 125, 139, 140] [139] (fun v _ => ∃ m, v = some (.int (hm_pr m)) ∧ hp_res (hw_holds f N) wt N P fx fr m 256)) [Value.ref (U 124), Value.int (nI fr)].toArray s 0 0 (va_A wd s.heap.size)) (F0 m 9 ls []) := by
    intro n
    induction n with
    | zero =>
      intro t mm ls locs ht hl hh hr
      refine lv_iload_n hx hb hw_d_packWorth_9 rfl (lv_at hl 2 rfl) ?_
      refine lv_sipush (v := nI 256) hx hb hw_d_packWorth_10 (by decide) ?_
      refine hb_row_icmp (tgt := 52) hx hb hw_d_packWorth_13 (by decide) (fun c116 => ?_) (fun c116 => ?_)
      · have c116 := hw_cge c116 (by omega) (by omega)
        refine lv_iload_n hx hb hw_d_packWorth_52 rfl (lv_at hl 1 rfl) ?_
        exact hm_retI hx hb hret hlocks hh hw_d_packWorth_53 ⟨mm, rfl, by rw [show (256 : Nat) = t by omega]; exact hr⟩
      · have c116 := hw_clt c116 (by omega) (by omega)
        exact absurd c116 (by omega)
    | succ n ih =>
      intro t mm ls locs ht hl hh hr
      have hm6 := hp_res_le hw6 hr
      have hw7 := hw6 t
      refine lv_iload_n hx hb hw_d_packWorth_9 rfl (lv_at hl 2 rfl) ?_
      refine lv_sipush (v := nI 256) hx hb hw_d_packWorth_10 (by decide) ?_
      refine hb_row_icmp (tgt := 52) hx hb hw_d_packWorth_13 (by decide) (fun c117 => ?_) (fun c117 => ?_)
      · have c117 := hw_cge c117 (by omega) (by omega)
        exact absurd c117 (by omega)
      · have c117 := hw_clt c117 (by omega) (by omega)
        refine lv_aload_n hx hb hw_d_packWorth_16 rfl (lv_at hl 0 rfl) ?_
        refine hm_getf (cN := 139) hx hb hown hTw hGs.1 hh (by decide) (hw_pool hTw) hw_in58 (by decide) hw_ft58 hw_d_packWorth_17 ?_
        refine lv_sipush (v := nI 256) hx hb hw_d_packWorth_20 (by decide) ?_
        refine lv_aload_n hx hb hw_d_packWorth_23 rfl (lv_at hl 0 rfl) ?_
        refine hm_getf (cN := 125) hx hb hown hTw hGs.1 hh (by decide) (hw_pool hTw) hw_in9 (by decide) hw_ft9 hw_d_packWorth_24 ?_
        refine lv_iconst (v := nI 4) hx hb hw_d_packWorth_27 (by decide) ?_
        refine hm_ld (k := 4) hx hb hGs.1 hh (by decide) hw_kt125 hF113 (by omega) (by decide) hw_d_packWorth_28 ?_
        rw [hP]
        refine hw_imul (v := nI (256 * P)) hx hb hw_d_packWorth_29 (hw_nmul 256 P) ?_
        refine lv_iload_n hx hb hw_d_packWorth_30 rfl (lv_at hl 2 rfl) ?_
        refine hw_iadd (v := nI (256 * P + t)) hx hb hw_d_packWorth_31 (hw_nadd (256 * P) t) ?_
        refine hm_ldz (k := (256 * P + t)) hx hb hGs.1 hh (by decide) hw_kt139 hc113 (by omega) (by decide) hw_d_packWorth_32 ?_
        rw [hC113 t (by omega)]
        refine hb_row_if (tgt := 46) hx hb hw_d_packWorth_33 (by decide) (fun c118 => ?_) (fun c118 => ?_)
        · have c118 := hw_bf c118
          have hcan := c118
          refine lv_iinc (v := nI (t + 1)) (lv' := [(3, .int (nI (t + 1))), (0, .ref (U 124)), (2, .int (hm_pr mm))]) hx hb hw_d_packWorth_46 hl (k := 2) rfl (hw_nI1 t) (by decide) rfl (fun ls119 hl119 => ?_)
          refine lv_goto (tgt := 9) hx hb hw_d_packWorth_49 (by decide) ?_
          exact ih (t + 1) _ ls119 _ (by omega) (lv_sub hl119 [1, 2, 0] rfl) hh (hp_res_skip hr (hp_cb_f hcan))
        · have c118 := hw_bt c118
          have hcan := c118
          refine lv_iload_n hx hb hw_d_packWorth_36 rfl (lv_at hl 1 rfl) ?_
          refine lv_aload_n hx hb hw_d_packWorth_37 rfl (lv_at hl 0 rfl) ?_
          refine lv_iload_n hx hb hw_d_packWorth_38 rfl (lv_at hl 2 rfl) ?_
          refine hm_cV (y := hw_y_worthIn) (As := [.int (nI t)]) (rest := [.int (hm_pr mm)]) hBd rfl hGs.1 hh (by decide) (by decide) hF113 (hw_worthIn_met (nI t) (hw_toI hN (by omega)) hN8) hb_cd298 rfl hw_w_worthIn ⟨Nat.le_of_ble_eq_true rfl, Nat.le_of_ble_eq_true rfl⟩ (fun sig h => by cases h; rfl) hl.1 rfl (Nat.le_of_ble_eq_true rfl) hw_d_packWorth_39 (fun locs120 hh120 => ?_)
          rw [hp_wtin (by omega) hN8 (fun h hh => (hW h (by omega)).1)]
          refine hw_max (v := hm_pr (max mm (hp_w wt t N + 1))) (rest := []) hx hb hml hown hTw (by decide) hl.1 (Nat.le_of_ble_eq_true rfl) (Nat.le_of_ble_eq_true rfl) (hp_max (by omega) (by omega)) hw_d_packWorth_42 ?_
          refine lv_istore_n (lv' := [(2, .int (hm_pr (max mm (hp_w wt t N + 1)))), (0, .ref (U 124)), (3, .int (nI t))]) hx hb hw_d_packWorth_45 rfl hl (by decide) rfl (fun ls121 hl121 => ?_)
          refine lv_iinc (v := nI (t + 1)) (lv' := [(3, .int (nI (t + 1))), (2, .int (hm_pr (max mm (hp_w wt t N + 1)))), (0, .ref (U 124))]) hx hb hw_d_packWorth_46 hl121 (k := 2) rfl (hw_nI1 t) (by decide) rfl (fun ls122 hl122 => ?_)
          refine lv_goto (tgt := 9) hx hb hw_d_packWorth_49 (by decide) ?_
          exact ih (t + 1) _ ls122 _ (by omega) (lv_sub hl122 [2, 1, 0] rfl) hh120 (hp_res_step hr (hp_cb_t hcan))
  exact go 256 0 0 ls115 _ (by omega) (lv_sub hl115 [2, 1, 0] rfl) hh113 ⟨fun s a1 _ => absurd a1 (by omega), Or.inl rfl⟩
end HPK
