section HMO
variable {l : Launch} {D : va_G} {U S : Nat → Nat} {wd : va_W} {f : Nat → Int32} {N P : Nat}
theorem hm_order {x y : Int32} (hF : hw_ar U wd 125 122 f) (hN : f 5 = nI N) (hN8 : N ≤ 8) (hP : f 4 = nI P) (hP5 : P ≤ 5) : hm_Met l hw_y_order 5 116 D U S wd [124, 125, 141, 142] [141, 142] [.ref (U 124), .int x, .int y] (fun v _ => ∃ r : Int32, v = some (.int r)) := by
  refine hm_enter (by decide) (Nat.le_of_ble_eq_true rfl) ?_
  intro p e s m below meth c ls hBd hh hGs hl
  obtain ⟨hx, hb, hml, hown, hlocks, hret, hTw⟩ := id hBd
  have h8 := hm_p8 hN8
  refine lv_aload_n hx hb hw_d_order_0 rfl (lv_at hl 0 rfl) ?_
  refine lv_iload_n hx hb hw_d_order_1 rfl (lv_at hl 1 rfl) ?_
  refine hm_cM (y := hw_y_layUnheard) (As := [.int x]) (rest := []) hBd rfl hGs hh (by decide) (hm_layUnheard hF hN hN8 hP hP5) (by decide) (by decide) (by decide) hb_cd315 rfl hw_w_layUnheard ⟨Nat.le_of_ble_eq_true rfl, Nat.le_of_ble_eq_true rfl⟩ (fun sig h => by cases h; rfl) hl.1 rfl (Nat.le_of_ble_eq_true rfl) hw_d_order_2 (fun v31 wd31 H31 locs31 hp31 hf31 hh31 => ?_)
  have hF31 := hm_fr_ar hf31 (by decide) hF
  rcases hp31 with hv31 | ⟨hv31, q, hq5, hq2, g, M, hg, hmo, hgM⟩
  · subst hv31
    refine hb_row_if (tgt := 11) hx hb hw_d_order_5 (by decide) (fun c32 => ?_) (fun c32 => ?_)
    · have c32 := hw_zne c32 (by omega)
      exact absurd rfl c32
    · have c32 := hw_zeq c32 (by omega)
      refine lv_bipush (v := (-2 : Int32)) hx hb hw_d_order_8 (by decide) ?_
      exact hm_retI hx hb hret hlocks hh31 hw_d_order_10 ⟨_, rfl⟩
  · subst hv31
    subst hq2
    have hM0 := (hmo 0 (Nat.le_refl _) (Nat.two_pow_pos N)).1
    refine hb_row_if (tgt := 11) hx hb hw_d_order_5 (by decide) (fun c33 => ?_) (fun c33 => ?_)
    · have c33 := hw_zne c33 (by omega)
      refine lv_iload_n hx hb hw_d_order_11 rfl (lv_at hl 2 rfl) ?_
      refine lv_i2l hx hb hw_d_order_12 rfl ?_
      refine lv_lconst (v := 0) hx hb hw_d_order_13 (by decide) ?_
      refine lv_aload_n hx hb hw_d_order_14 rfl (lv_at hl 0 rfl) ?_
      refine hm_getf (cN := 141) hx hb hown hTw hGs.1 hh31 (by decide) (hw_pool hTw) hw_in64 (by decide) hw_ft64 hw_d_order_15 ?_
      refine lv_iconst (v := nI 0) hx hb hw_d_order_18 (by decide) ?_
      refine hm_ld (k := 0) hx hb hGs.1 hh31 (by decide) hw_kt141 hg (by omega) (by decide) hw_d_order_19 ?_
      rw [hgM _ (Nat.two_pow_pos N)]
      refine lv_iconst (v := nI 1) hx hb hw_d_order_20 (by decide) ?_
      refine hw_isub (v := (nI (M 0)) - (nI 1)) hx hb hw_d_order_21 rfl ?_
      refine lv_i2l hx hb hw_d_order_22 rfl ?_
      refine hm_cS (y := hw_y_in) (As := [.long y.toInt64, .long 0, .long (((nI (M 0)) - (nI 1)).toInt64)]) (rest := []) hBd rfl hGs.1 hh31 (by decide) (by decide) hF31 (hw_in_mt _ _ _) hb_cd213 rfl hw_w_in ⟨Nat.le_of_ble_eq_true rfl, Nat.le_of_ble_eq_true rfl⟩ (fun sig h => by cases h; rfl) hl.1 rfl (Nat.le_of_ble_eq_true rfl) hw_d_order_23 (fun locs34 hh34 => ?_)
      refine hb_row_if (tgt := 31) hx hb hw_d_order_26 (by decide) (fun c35 => ?_) (fun c35 => ?_)
      · have c35 := hw_bt c35
        obtain ⟨i, hi1, hi2⟩ := hm_inN rfl (by omega) c35
        subst hi2
        refine lv_iconst (v := nI 0) hx hb hw_d_order_31 (by decide) ?_
        refine lv_istore_n (lv' := [(3, .int (nI 0)), (0, .ref (U 124)), (1, .int (nI q)), (2, .int (nI i))]) hx hb hw_d_order_32 rfl hl (by decide) rfl (fun ls36 hl36 => ?_)
        refine lv_iconst (v := nI 0) hx hb hw_d_order_33 (by decide) ?_
        refine lv_istore (lv' := [(4, .int (nI 0)), (3, .int (nI 0)), (0, .ref (U 124)), (1, .int (nI q)), (2, .int (nI i))]) hx hb hw_d_order_34 hl36 (by decide) rfl (fun ls37 hl37 => ?_)
        refine lv_iconst (v := nI 0) hx hb hw_d_order_36 (by decide) ?_
        refine lv_istore (lv' := [(5, .int (nI 0)), (4, .int (nI 0)), (3, .int (nI 0)), (0, .ref (U 124)), (1, .int (nI q)), (2, .int (nI i))]) hx hb hw_d_order_37 hl37 (by decide) rfl (fun ls38 hl38 => ?_)
        have go : ∀ (n k st : Nat) (hv : Int32) (ls : Array Slot) (locs : List Loc), k + n = i + 1 → lv_has ls hw_y_order.2.2.1 [(0, .ref (U 124)), (1, .int (nI q)), (2, .int (nI i)), (3, .int (nI st)), (4, .int hv), (5, .int (nI k))] → hw_H D U s wd [124, 125, 141, 142] [141, 142] wd31 H31 locs → st < 2 ^ N → M st + k = M 0 → W p l e (hb_rmF 5 116) s m [Value.ref (U 124), Value.int (nI q), Value.int (nI i)].toArray below meth c H31 locs 0 0 (MQ below (hm_Post D U wd s.heap.size [124, 125, 141, 142] [141, 142] (fun v _ => ∃ r : Int32, v = some (.int r))) [Value.ref (U 124), Value.int (nI q), Value.int (nI i)].toArray s 0 0 (va_A wd s.heap.size)) (F0 m 39 ls []) := by
          intro n
          induction n with
          | zero =>
            intro k st hv ls locs hk hl hh hst hM
            refine lv_iload hx hb hw_d_order_39 (lv_at hl 5 rfl) ?_
            refine lv_iload_n hx hb hw_d_order_41 rfl (lv_at hl 2 rfl) ?_
            refine hb_row_icmp (tgt := 100) hx hb hw_d_order_42 (by decide) (fun c39 => ?_) (fun c39 => ?_)
            · have c39 := hw_cgt c39 (by omega) (by omega)
              refine lv_iload hx hb hw_d_order_100 (lv_at hl 4 rfl) ?_
              exact hm_retI hx hb hret hlocks hh hw_d_order_102 ⟨_, rfl⟩
            · have c39 := hw_cle c39 (by omega) (by omega)
              exact absurd c39 (by omega)
          | succ n ih =>
            intro k st hv ls locs hk hl hh hst hM
            obtain ⟨-, hwt⟩ := hmo st (Nat.zero_le _) hst
            rcases hwt with hwt | ⟨hw, hw1, hw2, hw3⟩
            · exact absurd hwt (by omega)
            refine lv_iload hx hb hw_d_order_39 (lv_at hl 5 rfl) ?_
            refine lv_iload_n hx hb hw_d_order_41 rfl (lv_at hl 2 rfl) ?_
            refine hb_row_icmp (tgt := 100) hx hb hw_d_order_42 (by decide) (fun c40 => ?_) (fun c40 => ?_)
            · have c40 := hw_cgt c40 (by omega) (by omega)
              exact absurd c40 (by omega)
            · have c40 := hw_cle c40 (by omega) (by omega)
              refine lv_iconst (v := nI 0) hx hb hw_d_order_45 (by decide) ?_
              refine lv_istore (lv' := [(4, .int (nI 0)), (0, .ref (U 124)), (1, .int (nI q)), (2, .int (nI i)), (3, .int (nI st)), (5, .int (nI k))]) hx hb hw_d_order_46 hl (by decide) rfl (fun ls41 hl41 => ?_)
              have inner : ∀ (n j : Nat) (ls : Array Slot) (locs : List Loc), j + n = hw → lv_has ls hw_y_order.2.2.1 [(0, .ref (U 124)), (1, .int (nI q)), (2, .int (nI i)), (3, .int (nI st)), (4, .int (nI j)), (5, .int (nI k))] → hw_H D U s wd [124, 125, 141, 142] [141, 142] wd31 H31 locs → W p l e (hb_rmF 5 116) s m [Value.ref (U 124), Value.int (nI q), Value.int (nI i)].toArray below meth c H31 locs 0 0 (MQ below (hm_Post D U wd s.heap.size [124, 125, 141, 142] [141, 142] (fun v _ => ∃ r : Int32, v = some (.int r))) [Value.ref (U 124), Value.int (nI q), Value.int (nI i)].toArray s 0 0 (va_A wd s.heap.size)) (F0 m 48 ls []) := by
                intro n
                induction n with
                | zero =>
                  intro j ls locs hj hl hh
                  have e1 : j = hw := by omega
                  subst e1
                  refine lv_aload_n hx hb hw_d_order_48 rfl (lv_at hl 0 rfl) ?_
                  refine lv_iload hx hb hw_d_order_49 (lv_at hl 4 rfl) ?_
                  refine lv_iload_n hx hb hw_d_order_51 rfl (lv_at hl 1 rfl) ?_
                  refine lv_iload_n hx hb hw_d_order_52 rfl (lv_at hl 3 rfl) ?_
                  refine hm_cV (y := hw_y_isUnheard) (As := [.int (nI j), .int (nI q), .int (nI st)]) (rest := []) hBd rfl hGs.1 hh (by decide) (by decide) hF31 (hw_isUnheard_mt (h := j) (q := q) (s0 := st) (by omega) hq5 (by omega) hN hN8) hb_cd314 rfl hw_w_isUnheard ⟨Nat.le_of_ble_eq_true rfl, Nat.le_of_ble_eq_true rfl⟩ (fun sig h => by cases h; rfl) hl.1 rfl (Nat.le_of_ble_eq_true rfl) hw_d_order_53 (fun locs42 hh42 => ?_)
                  refine hb_row_if (tgt := 81) hx hb hw_d_order_56 (by decide) (fun c43 => ?_) (fun c43 => ?_)
                  · have c43 := hw_bf c43
                    exact absurd (c43.symm.trans hw2) (by decide)
                  · have c43 := hw_bt c43
                    have ht2 := hm_or_lt hst (show j < N by omega)
                    have ht3 := (hmo _ (Nat.zero_le _) ht2).1
                    have ht4 := (hmo st (Nat.zero_le _) hst).1
                    refine lv_aload_n hx hb hw_d_order_59 rfl (lv_at hl 0 rfl) ?_
                    refine hm_getf (cN := 141) hx hb hown hTw hGs.1 hh42 (by decide) (hw_pool hTw) hw_in64 (by decide) hw_ft64 hw_d_order_60 ?_
                    refine lv_iload_n hx hb hw_d_order_63 rfl (lv_at hl 3 rfl) ?_
                    refine lv_iconst (v := nI 1) hx hb hw_d_order_64 (by decide) ?_
                    refine lv_iload hx hb hw_d_order_65 (lv_at hl 4 rfl) ?_
                    refine hw_ishl (v := nI (2 ^ j)) hx hb hw_d_order_67 (hw_nshl (by omega)) ?_
                    refine hw_ior (v := nI (st ||| (2 ^ j))) hx hb hw_d_order_68 (hw_nor st (2 ^ j)) ?_
                    refine hm_ld (k := (st ||| (2 ^ j))) hx hb hGs.1 hh42 (by decide) hw_kt141 hg (by omega) (by decide) hw_d_order_69 ?_
                    rw [hgM _ ht2]
                    refine lv_iconst (v := nI 1) hx hb hw_d_order_70 (by decide) ?_
                    refine hw_iadd (v := nI (M (st ||| 2 ^ j) + 1)) hx hb hw_d_order_71 (hw_nadd (M (st ||| 2 ^ j)) 1) ?_
                    refine lv_aload_n hx hb hw_d_order_72 rfl (lv_at hl 0 rfl) ?_
                    refine hm_getf (cN := 141) hx hb hown hTw hGs.1 hh42 (by decide) (hw_pool hTw) hw_in64 (by decide) hw_ft64 hw_d_order_73 ?_
                    refine lv_iload_n hx hb hw_d_order_76 rfl (lv_at hl 3 rfl) ?_
                    refine hm_ld (k := st) hx hb hGs.1 hh42 (by decide) hw_kt141 hg (by omega) (by decide) hw_d_order_77 ?_
                    rw [hgM _ hst]
                    refine hb_row_icmp (tgt := 87) hx hb hw_d_order_78 (by decide) (fun c44 => ?_) (fun c44 => ?_)
                    · have c44 := hw_ceq c44 (by omega) (by omega)
                      refine lv_iload_n hx hb hw_d_order_87 rfl (lv_at hl 3 rfl) ?_
                      refine lv_iconst (v := nI 1) hx hb hw_d_order_88 (by decide) ?_
                      refine lv_iload hx hb hw_d_order_89 (lv_at hl 4 rfl) ?_
                      refine hw_ishl (v := nI (2 ^ j)) hx hb hw_d_order_91 (hw_nshl (by omega)) ?_
                      refine hw_ior (v := nI (st ||| (2 ^ j))) hx hb hw_d_order_92 (hw_nor st (2 ^ j)) ?_
                      refine lv_istore_n (lv' := [(3, .int (nI (st ||| (2 ^ j)))), (0, .ref (U 124)), (1, .int (nI q)), (2, .int (nI i)), (4, .int (nI j)), (5, .int (nI k))]) hx hb hw_d_order_93 rfl hl (by decide) rfl (fun ls45 hl45 => ?_)
                      refine lv_iinc (v := nI (k + 1)) (lv' := [(5, .int (nI (k + 1))), (3, .int (nI (st ||| (2 ^ j)))), (0, .ref (U 124)), (1, .int (nI q)), (2, .int (nI i)), (4, .int (nI j))]) hx hb hw_d_order_94 hl45 (k := 5) rfl (hw_nI1 k) (by decide) rfl (fun ls46 hl46 => ?_)
                      refine lv_goto (tgt := 39) hx hb hw_d_order_97 (by decide) ?_
                      exact ih (k + 1) (st ||| 2 ^ j) _ ls46 _ (by omega) (lv_sub hl46 [2, 3, 4, 1, 5, 0] rfl) hh42 ht2 (by omega)
                    · have c44 := hw_cne c44 (by omega) (by omega)
                      exact absurd c44 (by omega)
                | succ n ihn =>
                  intro j ls locs hj hl hh
                  refine lv_aload_n hx hb hw_d_order_48 rfl (lv_at hl 0 rfl) ?_
                  refine lv_iload hx hb hw_d_order_49 (lv_at hl 4 rfl) ?_
                  refine lv_iload_n hx hb hw_d_order_51 rfl (lv_at hl 1 rfl) ?_
                  refine lv_iload_n hx hb hw_d_order_52 rfl (lv_at hl 3 rfl) ?_
                  refine hm_cV (y := hw_y_isUnheard) (As := [.int (nI j), .int (nI q), .int (nI st)]) (rest := []) hBd rfl hGs.1 hh (by decide) (by decide) hF31 (hw_isUnheard_mt (h := j) (q := q) (s0 := st) (by omega) hq5 (by omega) hN hN8) hb_cd314 rfl hw_w_isUnheard ⟨Nat.le_of_ble_eq_true rfl, Nat.le_of_ble_eq_true rfl⟩ (fun sig h => by cases h; rfl) hl.1 rfl (Nat.le_of_ble_eq_true rfl) hw_d_order_53 (fun locs47 hh47 => ?_)
                  refine hb_row_if (tgt := 81) hx hb hw_d_order_56 (by decide) (fun c48 => ?_) (fun c48 => ?_)
                  · have c48 := hw_bf c48
                    refine lv_iinc (v := nI (j + 1)) (lv' := [(4, .int (nI (j + 1))), (0, .ref (U 124)), (1, .int (nI q)), (2, .int (nI i)), (3, .int (nI st)), (5, .int (nI k))]) hx hb hw_d_order_81 hl (k := 4) rfl (hw_nI1 j) (by decide) rfl (fun ls49 hl49 => ?_)
                    refine lv_goto (tgt := 48) hx hb hw_d_order_84 (by decide) ?_
                    exact ihn (j + 1) ls49 _ (by omega) (lv_sub hl49 [1, 2, 3, 4, 0, 5] rfl) hh47
                  · have c48 := hw_bt c48
                    have ht2 := hm_or_lt hst (show j < N by omega)
                    have ht3 := (hmo _ (Nat.zero_le _) ht2).1
                    have ht4 := (hmo st (Nat.zero_le _) hst).1
                    refine lv_aload_n hx hb hw_d_order_59 rfl (lv_at hl 0 rfl) ?_
                    refine hm_getf (cN := 141) hx hb hown hTw hGs.1 hh47 (by decide) (hw_pool hTw) hw_in64 (by decide) hw_ft64 hw_d_order_60 ?_
                    refine lv_iload_n hx hb hw_d_order_63 rfl (lv_at hl 3 rfl) ?_
                    refine lv_iconst (v := nI 1) hx hb hw_d_order_64 (by decide) ?_
                    refine lv_iload hx hb hw_d_order_65 (lv_at hl 4 rfl) ?_
                    refine hw_ishl (v := nI (2 ^ j)) hx hb hw_d_order_67 (hw_nshl (by omega)) ?_
                    refine hw_ior (v := nI (st ||| (2 ^ j))) hx hb hw_d_order_68 (hw_nor st (2 ^ j)) ?_
                    refine hm_ld (k := (st ||| (2 ^ j))) hx hb hGs.1 hh47 (by decide) hw_kt141 hg (by omega) (by decide) hw_d_order_69 ?_
                    rw [hgM _ ht2]
                    refine lv_iconst (v := nI 1) hx hb hw_d_order_70 (by decide) ?_
                    refine hw_iadd (v := nI (M (st ||| 2 ^ j) + 1)) hx hb hw_d_order_71 (hw_nadd (M (st ||| 2 ^ j)) 1) ?_
                    refine lv_aload_n hx hb hw_d_order_72 rfl (lv_at hl 0 rfl) ?_
                    refine hm_getf (cN := 141) hx hb hown hTw hGs.1 hh47 (by decide) (hw_pool hTw) hw_in64 (by decide) hw_ft64 hw_d_order_73 ?_
                    refine lv_iload_n hx hb hw_d_order_76 rfl (lv_at hl 3 rfl) ?_
                    refine hm_ld (k := st) hx hb hGs.1 hh47 (by decide) hw_kt141 hg (by omega) (by decide) hw_d_order_77 ?_
                    rw [hgM _ hst]
                    refine hb_row_icmp (tgt := 87) hx hb hw_d_order_78 (by decide) (fun c50 => ?_) (fun c50 => ?_)
                    · have c50 := hw_ceq c50 (by omega) (by omega)
                      refine lv_iload_n hx hb hw_d_order_87 rfl (lv_at hl 3 rfl) ?_
                      refine lv_iconst (v := nI 1) hx hb hw_d_order_88 (by decide) ?_
                      refine lv_iload hx hb hw_d_order_89 (lv_at hl 4 rfl) ?_
                      refine hw_ishl (v := nI (2 ^ j)) hx hb hw_d_order_91 (hw_nshl (by omega)) ?_
                      refine hw_ior (v := nI (st ||| (2 ^ j))) hx hb hw_d_order_92 (hw_nor st (2 ^ j)) ?_
                      refine lv_istore_n (lv' := [(3, .int (nI (st ||| (2 ^ j)))), (0, .ref (U 124)), (1, .int (nI q)), (2, .int (nI i)), (4, .int (nI j)), (5, .int (nI k))]) hx hb hw_d_order_93 rfl hl (by decide) rfl (fun ls51 hl51 => ?_)
                      refine lv_iinc (v := nI (k + 1)) (lv' := [(5, .int (nI (k + 1))), (3, .int (nI (st ||| (2 ^ j)))), (0, .ref (U 124)), (1, .int (nI q)), (2, .int (nI i)), (4, .int (nI j))]) hx hb hw_d_order_94 hl51 (k := 5) rfl (hw_nI1 k) (by decide) rfl (fun ls52 hl52 => ?_)
                      refine lv_goto (tgt := 39) hx hb hw_d_order_97 (by decide) ?_
                      exact ih (k + 1) (st ||| 2 ^ j) _ ls52 _ (by omega) (lv_sub hl52 [2, 3, 4, 1, 5, 0] rfl) hh47 ht2 (by omega)
                    · have c50 := hw_cne c50 (by omega) (by omega)
                      refine lv_iinc (v := nI (j + 1)) (lv' := [(4, .int (nI (j + 1))), (0, .ref (U 124)), (1, .int (nI q)), (2, .int (nI i)), (3, .int (nI st)), (5, .int (nI k))]) hx hb hw_d_order_81 hl (k := 4) rfl (hw_nI1 j) (by decide) rfl (fun ls53 hl53 => ?_)
                      refine lv_goto (tgt := 48) hx hb hw_d_order_84 (by decide) ?_
                      exact ihn (j + 1) ls53 _ (by omega) (lv_sub hl53 [1, 2, 3, 4, 0, 5] rfl) hh47
              exact inner hw 0 ls41 _ (by omega) (lv_sub hl41 [1, 2, 3, 4, 0, 5] rfl) hh
        exact go (i + 1) 0 0 _ ls38 _ (by omega) (lv_sub hl38 [3, 4, 5, 2, 1, 0] rfl) hh34 (Nat.two_pow_pos N) (by omega)
      · have c35 := hw_bf c35
        refine lv_iconst (v := (-1 : Int32)) hx hb hw_d_order_29 (by decide) ?_
        exact hm_retI hx hb hret hlocks hh34 hw_d_order_30 ⟨_, rfl⟩
    · have c33 := hw_zeq c33 (by omega)
      exact absurd c33 (by decide)
end HMO
