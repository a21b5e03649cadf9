section HPD
variable {l : Launch} {D : va_G} {U S : Nat → Nat} {wd : va_W} {f : Nat → Int32} {N P : Nat}
theorem hm_packed {x : Int32} {wt : Nat → Nat} (hF : hw_ar U wd 125 122 f) (hN : f 5 = nI N) (hN8 : N ≤ 8) (hP : f 4 = nI P) (hP5 : P ≤ 5) (hW : ∀ h, h < 8 → f (22 + 3 * h) = nI (wt h) ∧ wt h ≤ 80) (hR : ∀ p, p < 5 → 0 ≤ (f (10 + 2 * p)).toInt) : hm_Met l hw_y_packed 5 116 D U S wd [124, 125, 139, 140] [139, 140] [.ref (U 124), .int x] (fun v _ => ∃ r : Int32, v = some (.int r)) := by
  refine hm_enter (by decide) (Nat.le_of_ble_eq_true rfl) ?_
  intro p e s m below meth c ls hBd hh hGs hl
  obtain ⟨hx, hb, hml, hown, hlocks, hret, hTw⟩ := id hBd
  have hw6 : ∀ s, hp_w wt s N ≤ 640 := fun s => by
    have := hp_w_le (wt := wt) (s := s) (n := N) (fun h hh => (hW h (by omega)).2)
    omega
  refine lv_aload_n hx hb hw_d_packed_0 rfl (lv_at hl 0 rfl) ?_
  refine lv_iload_n hx hb hw_d_packed_1 rfl (lv_at hl 1 rfl) ?_
  refine hm_cV (y := hw_y_isHope) (As := [.int x]) (rest := []) hBd rfl hGs.1 hh (by decide) (by decide) hF (hw_isHope_mt x) hb_cd259 rfl hw_w_isHope ⟨Nat.le_of_ble_eq_true rfl, Nat.le_of_ble_eq_true rfl⟩ (fun sig h => by cases h; rfl) hl.1 rfl (Nat.le_of_ble_eq_true rfl) hw_d_packed_2 (fun locs123 hh123 => ?_)
  refine hb_row_if (tgt := 11) hx hb hw_d_packed_5 (by decide) (fun c124 => ?_) (fun c124 => ?_)
  · have c124 := hw_bt c124
    obtain ⟨ho, hho, hx2⟩ := hm_inN hN (by omega) c124
    subst hx2
    have h25 : 2 ^ N - 1 < 256 := by have := hm_p8 hN8; omega
    refine lv_aload_n hx hb hw_d_packed_11 rfl (lv_at hl 0 rfl) ?_
    refine hm_cM (y := hw_y_freePigs) (As := []) (rest := []) hBd rfl hGs hh123 (by decide) hm_freePigs (by decide) (by decide) (by decide) hb_cd307 rfl hw_w_freePigs ⟨Nat.le_of_ble_eq_true rfl, Nat.le_of_ble_eq_true rfl⟩ (fun sig h => by cases h; rfl) hl.1 rfl (Nat.le_of_ble_eq_true rfl) hw_d_packed_12 (fun v125 wd125 H125 locs125 hp125 hf125 hh125 => ?_)
    have hF125 := hm_fr_ar hf125 (by decide) hF
    obtain ⟨hv125, g125, hX125, hg00⟩ := hp125
    subst hv125
    refine lv_aload_n hx hb hw_d_packed_15 rfl (lv_at hl 0 rfl) ?_
    refine lv_aload_n hx hb hw_d_packed_16 rfl (lv_at hl 0 rfl) ?_
    refine hm_cV (y := hw_y_allHopes) (As := []) (rest := [.ref (U 124)]) hBd rfl hGs.1 hh125 (by decide) (by decide) hF125 (hw_allHopes_mt hN hN8) hb_cd308 rfl hw_w_allHopes ⟨Nat.le_of_ble_eq_true rfl, Nat.le_of_ble_eq_true rfl⟩ (fun sig h => by cases h; rfl) hl.1 rfl (Nat.le_of_ble_eq_true rfl) hw_d_packed_17 (fun locs126 hh126 => ?_)
    refine hm_cM (y := hw_y_packWorth) (As := [.int (nI (2 ^ N - 1))]) (rest := []) hBd rfl hGs hh126 (by decide) (hm_packWorth hF125 hN hN8 hP hP5 hX125 (fx := fun _ => 0) hg00 (fun _ _ => by decide) h25 hW) (by decide) (by decide) (by decide) hb_cd311 rfl hw_w_packWorth ⟨Nat.le_of_ble_eq_true rfl, Nat.le_of_ble_eq_true rfl⟩ (fun sig h => by cases h; rfl) hl.1 rfl (Nat.le_of_ble_eq_true rfl) hw_d_packed_20 (fun v127 wd127 H127 locs127 hp127 hf127 hh127 => ?_)
    have hF127 := hm_fr_ar hf127 (by decide) hF125
    have hX127 := hm_fr_ar hf127 (by decide) hX125
    obtain ⟨mo, hv127, mor⟩ := hp127
    subst hv127
    have mol := hp_res_le hw6 mor
    obtain ⟨bs, hbm, hop0⟩ := hp_first hN8 hP5 h25 hR mor
    subst hbm
    have hbs : bs ≤ 640 := by omega
    refine lv_istore_n (lv' := [(2, .int (nI bs)), (0, .ref (U 124)), (1, .int (nI ho))]) hx hb hw_d_packed_23 rfl hl (by decide) rfl (fun ls128 hl128 => ?_)
    refine lv_iconst (v := nI 0) hx hb hw_d_packed_24 (by decide) ?_
    refine lv_istore_n (lv' := [(3, .int (nI 0)), (2, .int (nI bs)), (0, .ref (U 124)), (1, .int (nI ho))]) hx hb hw_d_packed_25 rfl hl128 (by decide) rfl (fun ls129 hl129 => ?_)
    refine lv_aload_n hx hb hw_d_packed_26 rfl (lv_at hl129 2 rfl) ?_
    refine hm_cV (y := hw_y_allHopes) (As := []) (rest := []) hBd rfl hGs.1 hh127 (by decide) (by decide) hF127 (hw_allHopes_mt hN hN8) hb_cd308 rfl hw_w_allHopes ⟨Nat.le_of_ble_eq_true rfl, Nat.le_of_ble_eq_true rfl⟩ (fun sig h => by cases h; rfl) hl129.1 rfl (Nat.le_of_ble_eq_true rfl) hw_d_packed_27 (fun locs130 hh130 => ?_)
    refine lv_istore (lv' := [(4, .int (nI (2 ^ N - 1))), (3, .int (nI 0)), (2, .int (nI bs)), (0, .ref (U 124)), (1, .int (nI ho))]) hx hb hw_d_packed_30 hl129 (by decide) rfl (fun ls131 hl131 => ?_)
    refine lv_iconst (v := (-1 : Int32)) hx hb hw_d_packed_32 (by decide) ?_
    refine lv_istore (lv' := [(5, .int (-1 : Int32)), (4, .int (nI (2 ^ N - 1))), (3, .int (nI 0)), (2, .int (nI bs)), (0, .ref (U 124)), (1, .int (nI ho))]) hx hb hw_d_packed_33 hl131 (by decide) rfl (fun ls132 hl132 => ?_)
    refine lv_iconst (v := nI 0) hx hb hw_d_packed_35 (by decide) ?_
    refine lv_istore (lv' := [(6, .int (nI 0)), (5, .int (-1 : Int32)), (4, .int (nI (2 ^ N - 1))), (3, .int (nI 0)), (2, .int (nI bs)), (0, .ref (U 124)), (1, .int (nI ho))]) hx hb hw_d_packed_36 hl132 (by decide) rfl (fun ls133 hl133 => ?_)
    have go : ∀ (n k fd fr : Nat) (fx : Nat → Nat) (gx : Nat → Int32) (pg : Int32) (ls : Array Slot) (wd1 : va_W) (H : Heap) (locs : List Loc), k + n = ho + 1 → lv_has ls hw_y_packed.2.2.1 [(0, .ref (U 124)), (1, .int (nI ho)), (2, .int (nI bs)), (3, .int (nI fd)), (4, .int (nI fr)), (5, .int pg), (6, .int (nI k))] → hw_H D U s wd [124, 125, 139, 140] [139, 140] wd1 H locs → hw_ar U wd1 125 122 f → hw_ar U wd1 140 5 gx → (∀ i, i < 5 → gx i = nI (fx i)) → hp_inv N k fx fr → hp_opt (hw_holds f N) wt N P fx fr fd bs → W p l e (hb_rmF 5 116) s m [Value.ref (U 124), Value.int (nI ho)].toArray below meth c H locs 0 0 (MQ below (hm_Post D U wd s.heap.size [124, 125, 139, 140] [139, 140] (fun v _ => ∃ r : Int32, v = some (.int r))) [Value.ref (U 124), Value.int (nI ho)].toArray s 0 0 (va_A wd s.heap.size)) (F0 m 38 ls []) := by
      intro n
      induction n with
      | zero =>
        intro k fd fr fx gx pg ls wd1 H locs hk hl hh hF hX hgx hi hop
        refine lv_iload hx hb hw_d_packed_38 (lv_at hl 6 rfl) ?_
        refine lv_iload_n hx hb hw_d_packed_40 rfl (lv_at hl 1 rfl) ?_
        refine hb_row_icmp (tgt := 154) hx hb hw_d_packed_41 (by decide) (fun c134 => ?_) (fun c134 => ?_)
        · have c134 := hw_cgt c134 (by omega) (by omega)
          refine lv_iload hx hb hw_d_packed_154 (lv_at hl 5 rfl) ?_
          exact hm_retI hx hb hret hlocks hh hw_d_packed_156 ⟨_, rfl⟩
        · have c134 := hw_cle c134 (by omega) (by omega)
          exact absurd c134 (by omega)
      | succ n ih =>
        intro k fd fr fx gx pg ls wd1 H locs hk hl hh hF hX hgx hi hop
        have hkN : k < N := by omega
        have hlt := hp_inv_lt (by omega) hN8 hi
        have hfk := hp_inv_k hkN hi
        have hi1 := hp_inv_step hi
        have hfd1 : fd ≤ bs := by obtain ⟨⟨z, -, z2⟩, -⟩ := id hop; omega
        obtain ⟨js, hjP, hjo⟩ := hp_step hkN hfk hop
        have hle := hp_le hkN hfk hop
        have hwk := (hW k (by omega)).2
        have h2k : 2 ^ k < 2 ^ 8 := Nat.pow_lt_pow_right (by decide) (by omega)
        have hfr8 : hw_df fr (2 ^ k) < 256 := by have := hp_df_le fr (2 ^ k); omega
        refine lv_iload hx hb hw_d_packed_38 (lv_at hl 6 rfl) ?_
        refine lv_iload_n hx hb hw_d_packed_40 rfl (lv_at hl 1 rfl) ?_
        refine hb_row_icmp (tgt := 154) hx hb hw_d_packed_41 (by decide) (fun c135 => ?_) (fun c135 => ?_)
        · have c135 := hw_cgt c135 (by omega) (by omega)
          exact absurd c135 (by omega)
        · have c135 := hw_cle c135 (by omega) (by omega)
          refine lv_iload hx hb hw_d_packed_44 (lv_at hl 4 rfl) ?_
          refine lv_iconst (v := nI 1) hx hb hw_d_packed_46 (by decide) ?_
          refine lv_iload hx hb hw_d_packed_47 (lv_at hl 6 rfl) ?_
          refine hw_ishl (v := nI (2 ^ k)) hx hb hw_d_packed_49 (hw_nshl (by omega)) ?_
          refine lv_iconst (v := (-1 : Int32)) hx hb hw_d_packed_50 (by decide) ?_
          refine hw_ixor (v := nI (2 ^ k) ^^^ (-1 : Int32)) hx hb hw_d_packed_51 rfl ?_
          refine hw_iand (v := nI (hw_df fr (2 ^ k))) hx hb hw_d_packed_52 (hw_ndf fr (2 ^ k)) ?_
          refine lv_istore (lv' := [(4, .int (nI (hw_df fr (2 ^ k)))), (0, .ref (U 124)), (1, .int (nI ho)), (2, .int (nI bs)), (3, .int (nI fd)), (5, .int pg), (6, .int (nI k))]) hx hb hw_d_packed_53 hl (by decide) rfl (fun ls136 hl136 => ?_)
          refine lv_iconst (v := (-1 : Int32)) hx hb hw_d_packed_55 (by decide) ?_
          refine lv_istore (lv' := [(5, .int (-1 : Int32)), (4, .int (nI (hw_df fr (2 ^ k)))), (0, .ref (U 124)), (1, .int (nI ho)), (2, .int (nI bs)), (3, .int (nI fd)), (6, .int (nI k))]) hx hb hw_d_packed_56 hl136 (by decide) rfl (fun ls137 hl137 => ?_)
          refine lv_aload_n hx hb hw_d_packed_58 rfl (lv_at hl137 2 rfl) ?_
          refine lv_iload hx hb hw_d_packed_59 (lv_at hl137 1 rfl) ?_
          refine hm_cM (y := hw_y_packWorth) (As := [.int (nI (hw_df fr (2 ^ k)))]) (rest := []) hBd rfl hGs hh (by decide) (hm_packWorth hF hN hN8 hP hP5 hX hgx hlt.2 hfr8 hW) (by decide) (by decide) (by decide) hb_cd311 rfl hw_w_packWorth ⟨Nat.le_of_ble_eq_true rfl, Nat.le_of_ble_eq_true rfl⟩ (fun sig h => by cases h; rfl) hl137.1 rfl (Nat.le_of_ble_eq_true rfl) hw_d_packed_61 (fun v138 wd138 H138 locs138 hp138 hf138 hh138 => ?_)
          have hF138 := hm_fr_ar hf138 (by decide) hF
          have hX138 := hm_fr_ar hf138 (by decide) hX
          obtain ⟨mp, hv138, mpr⟩ := hp138
          subst hv138
          have mpl := hp_res_le hw6 mpr
          refine lv_istore (lv' := [(7, .int (hm_pr mp)), (5, .int (-1 : Int32)), (4, .int (nI (hw_df fr (2 ^ k)))), (0, .ref (U 124)), (1, .int (nI ho)), (2, .int (nI bs)), (3, .int (nI fd)), (6, .int (nI k))]) hx hb hw_d_packed_64 hl137 (by decide) rfl (fun ls139 hl139 => ?_)
          have go6 : ∀ (n j mm : Nat) (gx : Nat → Int32) (ls : Array Slot) (wd1 : va_W) (H : Heap) (locs : List Loc), j + n = js → lv_has ls hw_y_packed.2.2.1 [(0, .ref (U 124)), (1, .int (nI ho)), (2, .int (nI bs)), (3, .int (nI (hp_fd fd (wt k) j))), (4, .int (nI (hw_df fr (2 ^ k)))), (5, .int (hm_pr j)), (6, .int (nI k)), (7, .int (hm_pr mm))] → hw_H D U s wd [124, 125, 139, 140] [139, 140] wd1 H locs → hw_ar U wd1 125 122 f → hw_ar U wd1 140 5 gx → (∀ i, i < 5 → gx i = nI (hp_fx fx k j i)) → hp_res (hw_holds f N) wt N P (hp_fx fx k j) (hw_df fr (2 ^ k)) mm 256 → W p l e (hb_rmF 5 116) s m [Value.ref (U 124), Value.int (nI ho)].toArray below meth c H locs 0 0 (MQ below (hm_Post D U wd s.heap.size [124, 125, 139, 140] [139, 140] (fun v _ => ∃ r : Int32, v = some (.int r))) [Value.ref (U 124), Value.int (nI ho)].toArray s 0 0 (va_A wd s.heap.size)) (F0 m 66 ls []) := by
            intro n
            induction n with
            | zero =>
              intro j mm gx ls wd1 H locs hj hl hh hF hX hgx hr
              have e1 : j = js := by omega
              subst e1
              have hmust := hp_must hfr8 hr hjo
              have hml6 := hp_res_le hw6 hr
              have hfj : hp_fd fd (wt k) j ≤ bs := by obtain ⟨⟨z, -, z2⟩, -⟩ := id hjo; omega
              have hbs6 := hbs
              refine lv_iload hx hb hw_d_packed_66 (lv_at hl 7 rfl) ?_
              refine lv_iconst (v := (-1 : Int32)) hx hb hw_d_packed_68 (by decide) ?_
              refine hb_row_icmp (tgt := 80) hx hb hw_d_packed_69 (by decide) (fun c140 => ?_) (fun c140 => ?_)
              · have c140 : (hm_pr mm).toInt = (-1 : Int32).toInt := c140
                have hmz := (hp_mz (by omega)).1 c140
                subst hmz
                exact absurd hmust (by omega)
              · have c140 : (hm_pr mm).toInt < (-1 : Int32).toInt ∨ (-1 : Int32).toInt < (hm_pr mm).toInt := c140
                obtain ⟨nn, hnn⟩ := (hp_mz (by omega)).2 c140
                subst hnn
                refine lv_iload_n hx hb hw_d_packed_72 rfl (lv_at hl 3 rfl) ?_
                refine lv_iload hx hb hw_d_packed_73 (lv_at hl 7 rfl) ?_
                refine hw_iadd (v := nI (hp_fd fd (wt k) j + nn)) hx hb hw_d_packed_75 (hw_nadd (hp_fd fd (wt k) j) nn) ?_
                refine lv_iload_n hx hb hw_d_packed_76 rfl (lv_at hl 2 rfl) ?_
                refine hb_row_icmp (tgt := 148) hx hb hw_d_packed_77 (by decide) (fun c141 => ?_) (fun c141 => ?_)
                · have c141 := hw_ceq c141 (by omega) (by omega)
                  refine lv_iinc (v := nI (k + 1)) (lv' := [(6, .int (nI (k + 1))), (0, .ref (U 124)), (1, .int (nI ho)), (2, .int (nI bs)), (3, .int (nI (hp_fd fd (wt k) j))), (4, .int (nI (hw_df fr (2 ^ k)))), (5, .int (hm_pr j)), (7, .int (nI nn))]) hx hb hw_d_packed_148 hl (k := 6) rfl (hw_nI1 k) (by decide) rfl (fun ls142 hl142 => ?_)
                  refine lv_goto (tgt := 38) hx hb hw_d_packed_151 (by decide) ?_
                  exact ih (k + 1) _ _ (hp_fx fx k j) _ _ ls142 _ _ _ (by omega) (lv_sub hl142 [1, 2, 3, 4, 5, 6, 0] rfl) hh hF hX hgx (hi1 j) (hp_hit hfr8 hr (hle j (by omega)) (by first | omega | (show fd + wt k + _ = bs; omega) | (show fd + _ = bs; omega)))
                · have c141 := hw_cne c141 (by omega) (by omega)
                  exact absurd c141 (by omega)
            | succ n ih6 =>
              intro j mm gx ls wd1 H locs hj hl hh hF hX hgx hr
              have hml6 := hp_res_le hw6 hr
              have hjn : j < 5 := by omega
              have hbs6 := hbs
              have hlt1 := fun z => hp_inv_lt (show k + 1 ≤ N by omega) hN8 (hi1 z)
              cases j with
              | zero =>
                have hl : lv_has ls hw_y_packed.2.2.1 [(0, .ref (U 124)), (1, .int (nI ho)), (2, .int (nI bs)), (3, .int (nI fd)), (4, .int (nI (hw_df fr (2 ^ k)))), (5, .int (-1 : Int32)), (6, .int (nI k)), (7, .int (hm_pr mm))] := hl
                have hx0 := hlt.2 0 (by omega)
                have hor : fx 0 ||| 2 ^ k < 2 ^ 8 := Nat.or_lt_two_pow hx0 h2k
                refine lv_iload hx hb hw_d_packed_66 (lv_at hl 7 rfl) ?_
                refine lv_iconst (v := (-1 : Int32)) hx hb hw_d_packed_68 (by decide) ?_
                refine hb_row_icmp (tgt := 80) hx hb hw_d_packed_69 (by decide) (fun c143 => ?_) (fun c143 => ?_)
                · have c143 : (hm_pr mm).toInt = (-1 : Int32).toInt := c143
                  have hmz := (hp_mz (by omega)).1 c143
                  subst hmz
                  refine lv_iload hx hb hw_d_packed_80 (lv_at hl 5 rfl) ?_
                  refine lv_iconst (v := (-1 : Int32)) hx hb hw_d_packed_82 (by decide) ?_
                  refine hb_row_icmp (tgt := 111) hx hb hw_d_packed_83 (by decide) (fun c144 => ?_) (fun c144 => ?_)
                  · have c144 : (-1 : Int32).toInt = (-1 : Int32).toInt := c144
                    refine lv_iinc (v := nI 0) (lv' := [(5, .int (nI 0)), (0, .ref (U 124)), (1, .int (nI ho)), (2, .int (nI bs)), (3, .int (nI fd)), (4, .int (nI (hw_df fr (2 ^ k)))), (6, .int (nI k)), (7, .int (hm_pr 0))]) hx hb hw_d_packed_111 hl (k := 5) rfl (hm_pr_inc 0) (by decide) rfl (fun ls145 hl145 => ?_)
                    refine lv_aload_n hx hb hw_d_packed_114 rfl (lv_at hl145 1 rfl) ?_
                    refine hm_getf (cN := 140) hx hb hown hTw hGs.1 hh (by decide) (hw_pool hTw) hw_in61 (by decide) hw_ft61 hw_d_packed_115 ?_
                    refine lv_iload hx hb hw_d_packed_118 (lv_at hl145 0 rfl) ?_
                    refine lv_dup2_11 hx hb hw_d_packed_120 rfl rfl ?_
                    refine hm_ld (k := 0) hx hb hGs.1 hh (by decide) hw_kt140 hX (by omega) (by decide) hw_d_packed_121 ?_
                    rw [hgx 0 (by omega)]
                    refine lv_iconst (v := nI 1) hx hb hw_d_packed_122 (by decide) ?_
                    refine lv_iload hx hb hw_d_packed_123 (lv_at hl145 6 rfl) ?_
                    refine hw_ishl (v := nI (2 ^ k)) hx hb hw_d_packed_125 (hw_nshl (by omega)) ?_
                    refine hw_ior (v := nI ((fx 0) ||| (2 ^ k))) hx hb hw_d_packed_126 (hw_nor (fx 0) (2 ^ k)) ?_
                    refine hm_st (k := 0) hx hb hGs.1 hh (by decide) (by decide) hw_kt140 hX (by omega) (by decide) (by rw [nI_toInt (by omega)]; omega) (by rw [nI_toInt (by omega)]; omega) hw_d_packed_127 (fun wd146 H146 locs146 hh146 ha146 hk146 => ?_)
                    have ha146_125 := hk146 125 _ _ (by decide) hF
                    refine lv_iload_n hx hb hw_d_packed_128 rfl (lv_at hl145 4 rfl) ?_
                    refine lv_aload_n hx hb hw_d_packed_129 rfl (lv_at hl145 1 rfl) ?_
                    refine lv_iload hx hb hw_d_packed_130 (lv_at hl145 6 rfl) ?_
                    refine hm_cV (y := hw_y_worthOf) (As := [.int (nI k)]) (rest := [.int (nI fd)]) hBd rfl hGs.1 hh146 (by decide) (by decide) ha146_125 (hw_worthOf_met (h := k) (by omega)) hb_cd272 rfl hw_w_worthOf ⟨Nat.le_of_ble_eq_true rfl, Nat.le_of_ble_eq_true rfl⟩ (fun sig h => by cases h; rfl) hl145.1 rfl (Nat.le_of_ble_eq_true rfl) hw_d_packed_132 (fun locs147 hh147 => ?_)
                    rw [show hw_worth f k = nI (wt k) from (hW k (by omega)).1]
                    refine hw_iadd (v := nI (fd + wt k)) hx hb hw_d_packed_135 (hw_nadd fd (wt k)) ?_
                    refine lv_istore_n (lv' := [(3, .int (nI (fd + wt k))), (5, .int (nI 0)), (0, .ref (U 124)), (1, .int (nI ho)), (2, .int (nI bs)), (4, .int (nI (hw_df fr (2 ^ k)))), (6, .int (nI k)), (7, .int (hm_pr 0))]) hx hb hw_d_packed_136 rfl hl145 (by decide) rfl (fun ls148 hl148 => ?_)
                    refine lv_aload_n hx hb hw_d_packed_137 rfl (lv_at hl148 2 rfl) ?_
                    refine lv_iload hx hb hw_d_packed_138 (lv_at hl148 5 rfl) ?_
                    refine hm_cM (y := hw_y_packWorth) (As := [.int (nI (hw_df fr (2 ^ k)))]) (rest := []) hBd rfl hGs hh147 (by decide) (hm_packWorth ha146_125 hN hN8 hP hP5 ha146 (fun i hi => by by_cases e : i = 0; (· rw [e, pk_us]; exact congrArg nI (hm_up_s fx 0 _).symm); (· rw [pk_un e, hgx i hi]; exact congrArg nI (hm_up_n fx _ e).symm)) (hlt1 1).2 hfr8 hW) (by decide) (by decide) (by decide) hb_cd311 rfl hw_w_packWorth ⟨Nat.le_of_ble_eq_true rfl, Nat.le_of_ble_eq_true rfl⟩ (fun sig h => by cases h; rfl) hl148.1 rfl (Nat.le_of_ble_eq_true rfl) hw_d_packed_140 (fun v149 wd149 H149 locs149 hp149 hf149 hh149 => ?_)
                    have hF149 := hm_fr_ar hf149 (by decide) ha146_125
                    have hX149 := hm_fr_ar hf149 (by decide) ha146
                    obtain ⟨mq, hv149, mqr⟩ := hp149
                    subst hv149
                    have mql := hp_res_le hw6 mqr
                    refine lv_istore (lv' := [(7, .int (hm_pr mq)), (3, .int (nI (fd + wt k))), (5, .int (nI 0)), (0, .ref (U 124)), (1, .int (nI ho)), (2, .int (nI bs)), (4, .int (nI (hw_df fr (2 ^ k)))), (6, .int (nI k))]) hx hb hw_d_packed_143 hl148 (by decide) rfl (fun ls150 hl150 => ?_)
                    refine lv_goto (tgt := 66) hx hb hw_d_packed_145 (by decide) ?_
                    exact ih6 (0 + 1) mq _ ls150 _ _ _ (by omega) (lv_sub hl150 [3, 4, 5, 1, 6, 2, 7, 0] rfl) hh149 hF149 hX149 (fun i hi => by by_cases e : i = 0; (· rw [e, pk_us]; exact congrArg nI (hm_up_s fx 0 _).symm); (· rw [pk_un e, hgx i hi]; exact congrArg nI (hm_up_n fx _ e).symm)) mqr
                  · have c144 : (-1 : Int32).toInt < (-1 : Int32).toInt ∨ (-1 : Int32).toInt < (-1 : Int32).toInt := c144
                    exact absurd c144 (by decide)
                · have c143 : (hm_pr mm).toInt < (-1 : Int32).toInt ∨ (-1 : Int32).toInt < (hm_pr mm).toInt := c143
                  obtain ⟨nn, hnn⟩ := (hp_mz (by omega)).2 c143
                  subst hnn
                  refine lv_iload_n hx hb hw_d_packed_72 rfl (lv_at hl 3 rfl) ?_
                  refine lv_iload hx hb hw_d_packed_73 (lv_at hl 7 rfl) ?_
                  refine hw_iadd (v := nI (fd + nn)) hx hb hw_d_packed_75 (hw_nadd fd nn) ?_
                  refine lv_iload_n hx hb hw_d_packed_76 rfl (lv_at hl 2 rfl) ?_
                  refine hb_row_icmp (tgt := 148) hx hb hw_d_packed_77 (by decide) (fun c151 => ?_) (fun c151 => ?_)
                  · have c151 := hw_ceq c151 (by omega) (by omega)
                    refine lv_iinc (v := nI (k + 1)) (lv' := [(6, .int (nI (k + 1))), (0, .ref (U 124)), (1, .int (nI ho)), (2, .int (nI bs)), (3, .int (nI fd)), (4, .int (nI (hw_df fr (2 ^ k)))), (5, .int (-1 : Int32)), (7, .int (nI nn))]) hx hb hw_d_packed_148 hl (k := 6) rfl (hw_nI1 k) (by decide) rfl (fun ls152 hl152 => ?_)
                    refine lv_goto (tgt := 38) hx hb hw_d_packed_151 (by decide) ?_
                    exact ih (k + 1) _ _ (hp_fx fx k 0) _ _ ls152 _ _ _ (by omega) (lv_sub hl152 [1, 2, 3, 4, 5, 6, 0] rfl) hh hF hX hgx (hi1 0) (hp_hit hfr8 hr (hle 0 (by omega)) (by first | omega | (show fd + wt k + _ = bs; omega) | (show fd + _ = bs; omega)))
                  · have c151 := hw_cne c151 (by omega) (by omega)
                    refine lv_iload hx hb hw_d_packed_80 (lv_at hl 5 rfl) ?_
                    refine lv_iconst (v := (-1 : Int32)) hx hb hw_d_packed_82 (by decide) ?_
                    refine hb_row_icmp (tgt := 111) hx hb hw_d_packed_83 (by decide) (fun c153 => ?_) (fun c153 => ?_)
                    · have c153 : (-1 : Int32).toInt = (-1 : Int32).toInt := c153
                      refine lv_iinc (v := nI 0) (lv' := [(5, .int (nI 0)), (0, .ref (U 124)), (1, .int (nI ho)), (2, .int (nI bs)), (3, .int (nI fd)), (4, .int (nI (hw_df fr (2 ^ k)))), (6, .int (nI k)), (7, .int (nI nn))]) hx hb hw_d_packed_111 hl (k := 5) rfl (hm_pr_inc 0) (by decide) rfl (fun ls154 hl154 => ?_)
                      refine lv_aload_n hx hb hw_d_packed_114 rfl (lv_at hl154 1 rfl) ?_
                      refine hm_getf (cN := 140) hx hb hown hTw hGs.1 hh (by decide) (hw_pool hTw) hw_in61 (by decide) hw_ft61 hw_d_packed_115 ?_
                      refine lv_iload hx hb hw_d_packed_118 (lv_at hl154 0 rfl) ?_
                      refine lv_dup2_11 hx hb hw_d_packed_120 rfl rfl ?_
                      refine hm_ld (k := 0) hx hb hGs.1 hh (by decide) hw_kt140 hX (by omega) (by decide) hw_d_packed_121 ?_
                      rw [hgx 0 (by omega)]
                      refine lv_iconst (v := nI 1) hx hb hw_d_packed_122 (by decide) ?_
                      refine lv_iload hx hb hw_d_packed_123 (lv_at hl154 6 rfl) ?_
                      refine hw_ishl (v := nI (2 ^ k)) hx hb hw_d_packed_125 (hw_nshl (by omega)) ?_
                      refine hw_ior (v := nI ((fx 0) ||| (2 ^ k))) hx hb hw_d_packed_126 (hw_nor (fx 0) (2 ^ k)) ?_
                      refine hm_st (k := 0) hx hb hGs.1 hh (by decide) (by decide) hw_kt140 hX (by omega) (by decide) (by rw [nI_toInt (by omega)]; omega) (by rw [nI_toInt (by omega)]; omega) hw_d_packed_127 (fun wd155 H155 locs155 hh155 ha155 hk155 => ?_)
                      have ha155_125 := hk155 125 _ _ (by decide) hF
                      refine lv_iload_n hx hb hw_d_packed_128 rfl (lv_at hl154 4 rfl) ?_
                      refine lv_aload_n hx hb hw_d_packed_129 rfl (lv_at hl154 1 rfl) ?_
                      refine lv_iload hx hb hw_d_packed_130 (lv_at hl154 6 rfl) ?_
                      refine hm_cV (y := hw_y_worthOf) (As := [.int (nI k)]) (rest := [.int (nI fd)]) hBd rfl hGs.1 hh155 (by decide) (by decide) ha155_125 (hw_worthOf_met (h := k) (by omega)) hb_cd272 rfl hw_w_worthOf ⟨Nat.le_of_ble_eq_true rfl, Nat.le_of_ble_eq_true rfl⟩ (fun sig h => by cases h; rfl) hl154.1 rfl (Nat.le_of_ble_eq_true rfl) hw_d_packed_132 (fun locs156 hh156 => ?_)
                      rw [show hw_worth f k = nI (wt k) from (hW k (by omega)).1]
                      refine hw_iadd (v := nI (fd + wt k)) hx hb hw_d_packed_135 (hw_nadd fd (wt k)) ?_
                      refine lv_istore_n (lv' := [(3, .int (nI (fd + wt k))), (5, .int (nI 0)), (0, .ref (U 124)), (1, .int (nI ho)), (2, .int (nI bs)), (4, .int (nI (hw_df fr (2 ^ k)))), (6, .int (nI k)), (7, .int (nI nn))]) hx hb hw_d_packed_136 rfl hl154 (by decide) rfl (fun ls157 hl157 => ?_)
                      refine lv_aload_n hx hb hw_d_packed_137 rfl (lv_at hl157 2 rfl) ?_
                      refine lv_iload hx hb hw_d_packed_138 (lv_at hl157 5 rfl) ?_
                      refine hm_cM (y := hw_y_packWorth) (As := [.int (nI (hw_df fr (2 ^ k)))]) (rest := []) hBd rfl hGs hh156 (by decide) (hm_packWorth ha155_125 hN hN8 hP hP5 ha155 (fun i hi => by by_cases e : i = 0; (· rw [e, pk_us]; exact congrArg nI (hm_up_s fx 0 _).symm); (· rw [pk_un e, hgx i hi]; exact congrArg nI (hm_up_n fx _ e).symm)) (hlt1 1).2 hfr8 hW) (by decide) (by decide) (by decide) hb_cd311 rfl hw_w_packWorth ⟨Nat.le_of_ble_eq_true rfl, Nat.le_of_ble_eq_true rfl⟩ (fun sig h => by cases h; rfl) hl157.1 rfl (Nat.le_of_ble_eq_true rfl) hw_d_packed_140 (fun v158 wd158 H158 locs158 hp158 hf158 hh158 => ?_)
                      have hF158 := hm_fr_ar hf158 (by decide) ha155_125
                      have hX158 := hm_fr_ar hf158 (by decide) ha155
                      obtain ⟨mq, hv158, mqr⟩ := hp158
                      subst hv158
                      have mql := hp_res_le hw6 mqr
                      refine lv_istore (lv' := [(7, .int (hm_pr mq)), (3, .int (nI (fd + wt k))), (5, .int (nI 0)), (0, .ref (U 124)), (1, .int (nI ho)), (2, .int (nI bs)), (4, .int (nI (hw_df fr (2 ^ k)))), (6, .int (nI k))]) hx hb hw_d_packed_143 hl157 (by decide) rfl (fun ls159 hl159 => ?_)
                      refine lv_goto (tgt := 66) hx hb hw_d_packed_145 (by decide) ?_
                      exact ih6 (0 + 1) mq _ ls159 _ _ _ (by omega) (lv_sub hl159 [3, 4, 5, 1, 6, 2, 7, 0] rfl) hh158 hF158 hX158 (fun i hi => by by_cases e : i = 0; (· rw [e, pk_us]; exact congrArg nI (hm_up_s fx 0 _).symm); (· rw [pk_un e, hgx i hi]; exact congrArg nI (hm_up_n fx _ e).symm)) mqr
                    · have c153 : (-1 : Int32).toInt < (-1 : Int32).toInt ∨ (-1 : Int32).toInt < (-1 : Int32).toInt := c153
                      exact absurd c153 (by decide)
              | succ q =>
                have hl : lv_has ls hw_y_packed.2.2.1 [(0, .ref (U 124)), (1, .int (nI ho)), (2, .int (nI bs)), (3, .int (nI (fd + wt k))), (4, .int (nI (hw_df fr (2 ^ k)))), (5, .int (nI q)), (6, .int (nI k)), (7, .int (hm_pr mm))] := hl
                have hxq := hlt.2 q (by omega)
                have hxq1 := hlt.2 (q + 1) (by omega)
                have hor : fx (q + 1) ||| 2 ^ k < 2 ^ 8 := Nat.or_lt_two_pow hxq1 h2k
                have hgq : gx q = nI (fx q ||| 2 ^ k) := (hgx q (by omega)).trans (congrArg nI (hm_up_s fx q _))
                have hgq1 : gx (q + 1) = nI (fx (q + 1)) := (hgx (q + 1) (by omega)).trans (congrArg nI (hm_up_n fx _ (by omega)))
                refine lv_iload hx hb hw_d_packed_66 (lv_at hl 7 rfl) ?_
                refine lv_iconst (v := (-1 : Int32)) hx hb hw_d_packed_68 (by decide) ?_
                refine hb_row_icmp (tgt := 80) hx hb hw_d_packed_69 (by decide) (fun c160 => ?_) (fun c160 => ?_)
                · have c160 : (hm_pr mm).toInt = (-1 : Int32).toInt := c160
                  have hmz := (hp_mz (by omega)).1 c160
                  subst hmz
                  refine lv_iload hx hb hw_d_packed_80 (lv_at hl 5 rfl) ?_
                  refine lv_iconst (v := (-1 : Int32)) hx hb hw_d_packed_82 (by decide) ?_
                  refine hb_row_icmp (tgt := 111) hx hb hw_d_packed_83 (by decide) (fun c161 => ?_) (fun c161 => ?_)
                  · have c161 : (nI q).toInt = (-1 : Int32).toInt := c161
                    exact (hp_m1 (by omega) c161).elim
                  · have c161 : (nI q).toInt < (-1 : Int32).toInt ∨ (-1 : Int32).toInt < (nI q).toInt := c161
                    refine lv_aload_n hx hb hw_d_packed_86 rfl (lv_at hl 0 rfl) ?_
                    refine hm_getf (cN := 140) hx hb hown hTw hGs.1 hh (by decide) (hw_pool hTw) hw_in61 (by decide) hw_ft61 hw_d_packed_87 ?_
                    refine lv_iload hx hb hw_d_packed_90 (lv_at hl 5 rfl) ?_
                    refine lv_dup2_11 hx hb hw_d_packed_92 rfl rfl ?_
                    refine hm_ld (k := q) hx hb hGs.1 hh (by decide) hw_kt140 hX (by omega) (by decide) hw_d_packed_93 ?_
                    rw [hgq]
                    refine lv_iconst (v := nI 1) hx hb hw_d_packed_94 (by decide) ?_
                    refine lv_iload hx hb hw_d_packed_95 (lv_at hl 6 rfl) ?_
                    refine hw_ishl (v := nI (2 ^ k)) hx hb hw_d_packed_97 (hw_nshl (by omega)) ?_
                    refine lv_iconst (v := (-1 : Int32)) hx hb hw_d_packed_98 (by decide) ?_
                    refine hw_ixor (v := nI (2 ^ k) ^^^ (-1 : Int32)) hx hb hw_d_packed_99 rfl ?_
                    refine hw_iand (v := nI (fx q)) hx hb hw_d_packed_100 ((hw_ndf _ _).trans (congrArg nI (hp_undo (hi.2 q (by omega) k (Nat.le_refl _))))) ?_
                    refine hm_st (k := q) hx hb hGs.1 hh (by decide) (by decide) hw_kt140 hX (by omega) (by decide) (by rw [nI_toInt (by omega)]; omega) (by rw [nI_toInt (by omega)]; omega) hw_d_packed_101 (fun wd162 H162 locs162 hh162 ha162 hk162 => ?_)
                    have ha162_125 := hk162 125 _ _ (by decide) hF
                    refine lv_iload_n hx hb hw_d_packed_102 rfl (lv_at hl 3 rfl) ?_
                    refine lv_aload_n hx hb hw_d_packed_103 rfl (lv_at hl 0 rfl) ?_
                    refine lv_iload hx hb hw_d_packed_104 (lv_at hl 6 rfl) ?_
                    refine hm_cV (y := hw_y_worthOf) (As := [.int (nI k)]) (rest := [.int (nI (fd + wt k))]) hBd rfl hGs.1 hh162 (by decide) (by decide) ha162_125 (hw_worthOf_met (h := k) (by omega)) hb_cd272 rfl hw_w_worthOf ⟨Nat.le_of_ble_eq_true rfl, Nat.le_of_ble_eq_true rfl⟩ (fun sig h => by cases h; rfl) hl.1 rfl (Nat.le_of_ble_eq_true rfl) hw_d_packed_106 (fun locs163 hh163 => ?_)
                    rw [show hw_worth f k = nI (wt k) from (hW k (by omega)).1]
                    refine hw_isub (v := nI fd) hx hb hw_d_packed_109 ((hw_nsub (by omega)).trans (congrArg nI (Nat.add_sub_cancel _ _))) ?_
                    refine lv_istore_n (lv' := [(3, .int (nI fd)), (0, .ref (U 124)), (1, .int (nI ho)), (2, .int (nI bs)), (4, .int (nI (hw_df fr (2 ^ k)))), (5, .int (nI q)), (6, .int (nI k)), (7, .int (hm_pr 0))]) hx hb hw_d_packed_110 rfl hl (by decide) rfl (fun ls164 hl164 => ?_)
                    refine lv_iinc (v := nI (q + 1)) (lv' := [(5, .int (nI (q + 1))), (3, .int (nI fd)), (0, .ref (U 124)), (1, .int (nI ho)), (2, .int (nI bs)), (4, .int (nI (hw_df fr (2 ^ k)))), (6, .int (nI k)), (7, .int (hm_pr 0))]) hx hb hw_d_packed_111 hl164 (k := 5) rfl (hw_nI1 q) (by decide) rfl (fun ls165 hl165 => ?_)
                    refine lv_aload_n hx hb hw_d_packed_114 rfl (lv_at hl165 2 rfl) ?_
                    refine hm_getf (cN := 140) hx hb hown hTw hGs.1 hh163 (by decide) (hw_pool hTw) hw_in61 (by decide) hw_ft61 hw_d_packed_115 ?_
                    refine lv_iload hx hb hw_d_packed_118 (lv_at hl165 0 rfl) ?_
                    refine lv_dup2_11 hx hb hw_d_packed_120 rfl rfl ?_
                    refine hm_ld (k := (q + 1)) hx hb hGs.1 hh163 (by decide) hw_kt140 ha162 (by omega) (by decide) hw_d_packed_121 ?_
                    rw [pk_un (by omega), hgq1]
                    refine lv_iconst (v := nI 1) hx hb hw_d_packed_122 (by decide) ?_
                    refine lv_iload hx hb hw_d_packed_123 (lv_at hl165 6 rfl) ?_
                    refine hw_ishl (v := nI (2 ^ k)) hx hb hw_d_packed_125 (hw_nshl (by omega)) ?_
                    refine hw_ior (v := nI ((fx (q + 1)) ||| (2 ^ k))) hx hb hw_d_packed_126 (hw_nor (fx (q + 1)) (2 ^ k)) ?_
                    refine hm_st (k := (q + 1)) hx hb hGs.1 hh163 (by decide) (by decide) hw_kt140 ha162 (by omega) (by decide) (by rw [nI_toInt (by omega)]; omega) (by rw [nI_toInt (by omega)]; omega) hw_d_packed_127 (fun wd166 H166 locs166 hh166 ha166 hk166 => ?_)
                    have ha166_125 := hk166 125 _ _ (by decide) ha162_125
                    refine lv_iload_n hx hb hw_d_packed_128 rfl (lv_at hl165 1 rfl) ?_
                    refine lv_aload_n hx hb hw_d_packed_129 rfl (lv_at hl165 2 rfl) ?_
                    refine lv_iload hx hb hw_d_packed_130 (lv_at hl165 6 rfl) ?_
                    refine hm_cV (y := hw_y_worthOf) (As := [.int (nI k)]) (rest := [.int (nI fd)]) hBd rfl hGs.1 hh166 (by decide) (by decide) ha166_125 (hw_worthOf_met (h := k) (by omega)) hb_cd272 rfl hw_w_worthOf ⟨Nat.le_of_ble_eq_true rfl, Nat.le_of_ble_eq_true rfl⟩ (fun sig h => by cases h; rfl) hl165.1 rfl (Nat.le_of_ble_eq_true rfl) hw_d_packed_132 (fun locs167 hh167 => ?_)
                    rw [show hw_worth f k = nI (wt k) from (hW k (by omega)).1]
                    refine hw_iadd (v := nI (fd + wt k)) hx hb hw_d_packed_135 (hw_nadd fd (wt k)) ?_
                    refine lv_istore_n (lv' := [(3, .int (nI (fd + wt k))), (5, .int (nI (q + 1))), (0, .ref (U 124)), (1, .int (nI ho)), (2, .int (nI bs)), (4, .int (nI (hw_df fr (2 ^ k)))), (6, .int (nI k)), (7, .int (hm_pr 0))]) hx hb hw_d_packed_136 rfl hl165 (by decide) rfl (fun ls168 hl168 => ?_)
                    refine lv_aload_n hx hb hw_d_packed_137 rfl (lv_at hl168 2 rfl) ?_
                    refine lv_iload hx hb hw_d_packed_138 (lv_at hl168 5 rfl) ?_
                    refine hm_cM (y := hw_y_packWorth) (As := [.int (nI (hw_df fr (2 ^ k)))]) (rest := []) hBd rfl hGs hh167 (by decide) (hm_packWorth ha166_125 hN hN8 hP hP5 ha166 (fun i hi => by by_cases e : i = q + 1; (· rw [e, pk_us]; exact congrArg nI (hm_up_s fx (q + 1) _).symm); (· rw [pk_un e]; by_cases e2 : i = q; (· rw [e2, pk_us]; exact congrArg nI (hm_up_n fx _ (by omega)).symm); (· rw [pk_un e2, hgx i hi]; exact congrArg nI ((hm_up_n fx _ e2).trans (hm_up_n fx _ e).symm)))) (hlt1 (q + 1 + 1)).2 hfr8 hW) (by decide) (by decide) (by decide) hb_cd311 rfl hw_w_packWorth ⟨Nat.le_of_ble_eq_true rfl, Nat.le_of_ble_eq_true rfl⟩ (fun sig h => by cases h; rfl) hl168.1 rfl (Nat.le_of_ble_eq_true rfl) hw_d_packed_140 (fun v169 wd169 H169 locs169 hp169 hf169 hh169 => ?_)
                    have hF169 := hm_fr_ar hf169 (by decide) ha166_125
                    have hX169 := hm_fr_ar hf169 (by decide) ha166
                    obtain ⟨mq, hv169, mqr⟩ := hp169
                    subst hv169
                    have mql := hp_res_le hw6 mqr
                    refine lv_istore (lv' := [(7, .int (hm_pr mq)), (3, .int (nI (fd + wt k))), (5, .int (nI (q + 1))), (0, .ref (U 124)), (1, .int (nI ho)), (2, .int (nI bs)), (4, .int (nI (hw_df fr (2 ^ k)))), (6, .int (nI k))]) hx hb hw_d_packed_143 hl168 (by decide) rfl (fun ls170 hl170 => ?_)
                    refine lv_goto (tgt := 66) hx hb hw_d_packed_145 (by decide) ?_
                    exact ih6 (q + 1 + 1) mq _ ls170 _ _ _ (by omega) (lv_sub hl170 [3, 4, 5, 1, 6, 2, 7, 0] rfl) hh169 hF169 hX169 (fun i hi => by by_cases e : i = q + 1; (· rw [e, pk_us]; exact congrArg nI (hm_up_s fx (q + 1) _).symm); (· rw [pk_un e]; by_cases e2 : i = q; (· rw [e2, pk_us]; exact congrArg nI (hm_up_n fx _ (by omega)).symm); (· rw [pk_un e2, hgx i hi]; exact congrArg nI ((hm_up_n fx _ e2).trans (hm_up_n fx _ e).symm)))) mqr
                · have c160 : (hm_pr mm).toInt < (-1 : Int32).toInt ∨ (-1 : Int32).toInt < (hm_pr mm).toInt := c160
                  obtain ⟨nn, hnn⟩ := (hp_mz (by omega)).2 c160
                  subst hnn
                  refine lv_iload_n hx hb hw_d_packed_72 rfl (lv_at hl 3 rfl) ?_
                  refine lv_iload hx hb hw_d_packed_73 (lv_at hl 7 rfl) ?_
                  refine hw_iadd (v := nI (fd + wt k + nn)) hx hb hw_d_packed_75 (hw_nadd (fd + wt k) nn) ?_
                  refine lv_iload_n hx hb hw_d_packed_76 rfl (lv_at hl 2 rfl) ?_
                  refine hb_row_icmp (tgt := 148) hx hb hw_d_packed_77 (by decide) (fun c171 => ?_) (fun c171 => ?_)
                  · have c171 := hw_ceq c171 (by omega) (by omega)
                    refine lv_iinc (v := nI (k + 1)) (lv' := [(6, .int (nI (k + 1))), (0, .ref (U 124)), (1, .int (nI ho)), (2, .int (nI bs)), (3, .int (nI (fd + wt k))), (4, .int (nI (hw_df fr (2 ^ k)))), (5, .int (nI q)), (7, .int (nI nn))]) hx hb hw_d_packed_148 hl (k := 6) rfl (hw_nI1 k) (by decide) rfl (fun ls172 hl172 => ?_)
                    refine lv_goto (tgt := 38) hx hb hw_d_packed_151 (by decide) ?_
                    exact ih (k + 1) _ _ (hp_fx fx k (q + 1)) _ _ ls172 _ _ _ (by omega) (lv_sub hl172 [1, 2, 3, 4, 5, 6, 0] rfl) hh hF hX hgx (hi1 (q + 1)) (hp_hit hfr8 hr (hle (q + 1) (by omega)) (by first | omega | (show fd + wt k + _ = bs; omega) | (show fd + _ = bs; omega)))
                  · have c171 := hw_cne c171 (by omega) (by omega)
                    refine lv_iload hx hb hw_d_packed_80 (lv_at hl 5 rfl) ?_
                    refine lv_iconst (v := (-1 : Int32)) hx hb hw_d_packed_82 (by decide) ?_
                    refine hb_row_icmp (tgt := 111) hx hb hw_d_packed_83 (by decide) (fun c173 => ?_) (fun c173 => ?_)
                    · have c173 : (nI q).toInt = (-1 : Int32).toInt := c173
                      exact (hp_m1 (by omega) c173).elim
                    · have c173 : (nI q).toInt < (-1 : Int32).toInt ∨ (-1 : Int32).toInt < (nI q).toInt := c173
                      refine lv_aload_n hx hb hw_d_packed_86 rfl (lv_at hl 0 rfl) ?_
                      refine hm_getf (cN := 140) hx hb hown hTw hGs.1 hh (by decide) (hw_pool hTw) hw_in61 (by decide) hw_ft61 hw_d_packed_87 ?_
                      refine lv_iload hx hb hw_d_packed_90 (lv_at hl 5 rfl) ?_
                      refine lv_dup2_11 hx hb hw_d_packed_92 rfl rfl ?_
                      refine hm_ld (k := q) hx hb hGs.1 hh (by decide) hw_kt140 hX (by omega) (by decide) hw_d_packed_93 ?_
                      rw [hgq]
                      refine lv_iconst (v := nI 1) hx hb hw_d_packed_94 (by decide) ?_
                      refine lv_iload hx hb hw_d_packed_95 (lv_at hl 6 rfl) ?_
                      refine hw_ishl (v := nI (2 ^ k)) hx hb hw_d_packed_97 (hw_nshl (by omega)) ?_
                      refine lv_iconst (v := (-1 : Int32)) hx hb hw_d_packed_98 (by decide) ?_
                      refine hw_ixor (v := nI (2 ^ k) ^^^ (-1 : Int32)) hx hb hw_d_packed_99 rfl ?_
                      refine hw_iand (v := nI (fx q)) hx hb hw_d_packed_100 ((hw_ndf _ _).trans (congrArg nI (hp_undo (hi.2 q (by omega) k (Nat.le_refl _))))) ?_
                      refine hm_st (k := q) hx hb hGs.1 hh (by decide) (by decide) hw_kt140 hX (by omega) (by decide) (by rw [nI_toInt (by omega)]; omega) (by rw [nI_toInt (by omega)]; omega) hw_d_packed_101 (fun wd174 H174 locs174 hh174 ha174 hk174 => ?_)
                      have ha174_125 := hk174 125 _ _ (by decide) hF
                      refine lv_iload_n hx hb hw_d_packed_102 rfl (lv_at hl 3 rfl) ?_
                      refine lv_aload_n hx hb hw_d_packed_103 rfl (lv_at hl 0 rfl) ?_
                      refine lv_iload hx hb hw_d_packed_104 (lv_at hl 6 rfl) ?_
                      refine hm_cV (y := hw_y_worthOf) (As := [.int (nI k)]) (rest := [.int (nI (fd + wt k))]) hBd rfl hGs.1 hh174 (by decide) (by decide) ha174_125 (hw_worthOf_met (h := k) (by omega)) hb_cd272 rfl hw_w_worthOf ⟨Nat.le_of_ble_eq_true rfl, Nat.le_of_ble_eq_true rfl⟩ (fun sig h => by cases h; rfl) hl.1 rfl (Nat.le_of_ble_eq_true rfl) hw_d_packed_106 (fun locs175 hh175 => ?_)
                      rw [show hw_worth f k = nI (wt k) from (hW k (by omega)).1]
                      refine hw_isub (v := nI fd) hx hb hw_d_packed_109 ((hw_nsub (by omega)).trans (congrArg nI (Nat.add_sub_cancel _ _))) ?_
                      refine lv_istore_n (lv' := [(3, .int (nI fd)), (0, .ref (U 124)), (1, .int (nI ho)), (2, .int (nI bs)), (4, .int (nI (hw_df fr (2 ^ k)))), (5, .int (nI q)), (6, .int (nI k)), (7, .int (nI nn))]) hx hb hw_d_packed_110 rfl hl (by decide) rfl (fun ls176 hl176 => ?_)
                      refine lv_iinc (v := nI (q + 1)) (lv' := [(5, .int (nI (q + 1))), (3, .int (nI fd)), (0, .ref (U 124)), (1, .int (nI ho)), (2, .int (nI bs)), (4, .int (nI (hw_df fr (2 ^ k)))), (6, .int (nI k)), (7, .int (nI nn))]) hx hb hw_d_packed_111 hl176 (k := 5) rfl (hw_nI1 q) (by decide) rfl (fun ls177 hl177 => ?_)
                      refine lv_aload_n hx hb hw_d_packed_114 rfl (lv_at hl177 2 rfl) ?_
                      refine hm_getf (cN := 140) hx hb hown hTw hGs.1 hh175 (by decide) (hw_pool hTw) hw_in61 (by decide) hw_ft61 hw_d_packed_115 ?_
                      refine lv_iload hx hb hw_d_packed_118 (lv_at hl177 0 rfl) ?_
                      refine lv_dup2_11 hx hb hw_d_packed_120 rfl rfl ?_
                      refine hm_ld (k := (q + 1)) hx hb hGs.1 hh175 (by decide) hw_kt140 ha174 (by omega) (by decide) hw_d_packed_121 ?_
                      rw [pk_un (by omega), hgq1]
                      refine lv_iconst (v := nI 1) hx hb hw_d_packed_122 (by decide) ?_
                      refine lv_iload hx hb hw_d_packed_123 (lv_at hl177 6 rfl) ?_
                      refine hw_ishl (v := nI (2 ^ k)) hx hb hw_d_packed_125 (hw_nshl (by omega)) ?_
                      refine hw_ior (v := nI ((fx (q + 1)) ||| (2 ^ k))) hx hb hw_d_packed_126 (hw_nor (fx (q + 1)) (2 ^ k)) ?_
                      refine hm_st (k := (q + 1)) hx hb hGs.1 hh175 (by decide) (by decide) hw_kt140 ha174 (by omega) (by decide) (by rw [nI_toInt (by omega)]; omega) (by rw [nI_toInt (by omega)]; omega) hw_d_packed_127 (fun wd178 H178 locs178 hh178 ha178 hk178 => ?_)
                      have ha178_125 := hk178 125 _ _ (by decide) ha174_125
                      refine lv_iload_n hx hb hw_d_packed_128 rfl (lv_at hl177 1 rfl) ?_
                      refine lv_aload_n hx hb hw_d_packed_129 rfl (lv_at hl177 2 rfl) ?_
                      refine lv_iload hx hb hw_d_packed_130 (lv_at hl177 6 rfl) ?_
                      refine hm_cV (y := hw_y_worthOf) (As := [.int (nI k)]) (rest := [.int (nI fd)]) hBd rfl hGs.1 hh178 (by decide) (by decide) ha178_125 (hw_worthOf_met (h := k) (by omega)) hb_cd272 rfl hw_w_worthOf ⟨Nat.le_of_ble_eq_true rfl, Nat.le_of_ble_eq_true rfl⟩ (fun sig h => by cases h; rfl) hl177.1 rfl (Nat.le_of_ble_eq_true rfl) hw_d_packed_132 (fun locs179 hh179 => ?_)
                      rw [show hw_worth f k = nI (wt k) from (hW k (by omega)).1]
                      refine hw_iadd (v := nI (fd + wt k)) hx hb hw_d_packed_135 (hw_nadd fd (wt k)) ?_
                      refine lv_istore_n (lv' := [(3, .int (nI (fd + wt k))), (5, .int (nI (q + 1))), (0, .ref (U 124)), (1, .int (nI ho)), (2, .int (nI bs)), (4, .int (nI (hw_df fr (2 ^ k)))), (6, .int (nI k)), (7, .int (nI nn))]) hx hb hw_d_packed_136 rfl hl177 (by decide) rfl (fun ls180 hl180 => ?_)
                      refine lv_aload_n hx hb hw_d_packed_137 rfl (lv_at hl180 2 rfl) ?_
                      refine lv_iload hx hb hw_d_packed_138 (lv_at hl180 5 rfl) ?_
                      refine hm_cM (y := hw_y_packWorth) (As := [.int (nI (hw_df fr (2 ^ k)))]) (rest := []) hBd rfl hGs hh179 (by decide) (hm_packWorth ha178_125 hN hN8 hP hP5 ha178 (fun i hi => by by_cases e : i = q + 1; (· rw [e, pk_us]; exact congrArg nI (hm_up_s fx (q + 1) _).symm); (· rw [pk_un e]; by_cases e2 : i = q; (· rw [e2, pk_us]; exact congrArg nI (hm_up_n fx _ (by omega)).symm); (· rw [pk_un e2, hgx i hi]; exact congrArg nI ((hm_up_n fx _ e2).trans (hm_up_n fx _ e).symm)))) (hlt1 (q + 1 + 1)).2 hfr8 hW) (by decide) (by decide) (by decide) hb_cd311 rfl hw_w_packWorth ⟨Nat.le_of_ble_eq_true rfl, Nat.le_of_ble_eq_true rfl⟩ (fun sig h => by cases h; rfl) hl180.1 rfl (Nat.le_of_ble_eq_true rfl) hw_d_packed_140 (fun v181 wd181 H181 locs181 hp181 hf181 hh181 => ?_)
                      have hF181 := hm_fr_ar hf181 (by decide) ha178_125
                      have hX181 := hm_fr_ar hf181 (by decide) ha178
                      obtain ⟨mq, hv181, mqr⟩ := hp181
                      subst hv181
                      have mql := hp_res_le hw6 mqr
                      refine lv_istore (lv' := [(7, .int (hm_pr mq)), (3, .int (nI (fd + wt k))), (5, .int (nI (q + 1))), (0, .ref (U 124)), (1, .int (nI ho)), (2, .int (nI bs)), (4, .int (nI (hw_df fr (2 ^ k)))), (6, .int (nI k))]) hx hb hw_d_packed_143 hl180 (by decide) rfl (fun ls182 hl182 => ?_)
                      refine lv_goto (tgt := 66) hx hb hw_d_packed_145 (by decide) ?_
                      exact ih6 (q + 1 + 1) mq _ ls182 _ _ _ (by omega) (lv_sub hl182 [3, 4, 5, 1, 6, 2, 7, 0] rfl) hh181 hF181 hX181 (fun i hi => by by_cases e : i = q + 1; (· rw [e, pk_us]; exact congrArg nI (hm_up_s fx (q + 1) _).symm); (· rw [pk_un e]; by_cases e2 : i = q; (· rw [e2, pk_us]; exact congrArg nI (hm_up_n fx _ (by omega)).symm); (· rw [pk_un e2, hgx i hi]; exact congrArg nI ((hm_up_n fx _ e2).trans (hm_up_n fx _ e).symm)))) mqr
          exact go6 js 0 mp _ ls139 _ _ _ (by omega) (lv_sub hl139 [3, 4, 5, 6, 2, 1, 7, 0] rfl) hh138 hF138 hX138 hgx mpr
    exact go (ho + 1) 0 0 _ (fun _ => 0) _ _ ls133 _ _ _ (by omega) (lv_sub hl133 [5, 6, 4, 3, 2, 1, 0] rfl) hh130 hF127 hX127 hg00 (hp_inv_0 N) hop0
  · have c124 := hw_bf c124
    refine lv_bipush (v := (-2 : Int32)) hx hb hw_d_packed_8 (by decide) ?_
    exact hm_retI hx hb hret hlocks hh123 hw_d_packed_10 ⟨_, rfl⟩
end HPD
