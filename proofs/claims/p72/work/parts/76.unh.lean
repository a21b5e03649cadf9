/-- what order and its like find laid -/
def hm_laid (U : Nat → Nat) (f : Nat → Int32) (N q : Nat) (wd : va_W) : Prop := ∃ (g : Nat → Int32) (M : Nat → Nat), hw_ar U wd 141 256 g ∧ hm_mo (fun h s => hw_unhB f N h q s) N M 0 ∧ ∀ s, s < 2 ^ N → g s = nI (M s)
def hm_PSu (U : Nat → Nat) (f : Nat → Int32) (N : Nat) (x : Int32) (v : Option Value) (wd : va_W) : Prop := v = some (.int (nI 0)) ∨ (v = some (.int (nI 1)) ∧ ∃ q, q < 5 ∧ x = nI q ∧ hm_laid U f N q wd)
theorem hw_in64 : (64, 12, 33, 9) ∈ hb_PL12.1 := by decide +kernel
theorem hw_ft64 : hb_tyAt (hb_KT.getD 124 (0, 0, 0, [])) 33 = some (2, .ofNat 141, 0) := by decide +kernel
theorem hw_in67 : (67, 12, 34, 9) ∈ hb_PL12.1 := by decide +kernel
theorem hw_ft67 : hb_tyAt (hb_KT.getD 124 (0, 0, 0, [])) 34 = some (2, .ofNat 142, 0) := by decide +kernel
theorem hw_kt125 : hb_KT[125]? = some (1, 0, 122, (hb_KT.getD 125 (0, 0, 0, [])).2.2.2) := rfl
theorem hw_kt141 : hb_KT[141]? = some (1, 0, 256, [(0, (-2147483648), 2147483647)]) := rfl
theorem hw_kt142 : hb_KT[142]? = some (1, 0, 256, [(0, (-2147483648), 2147483647)]) := rfl
theorem hw_kt139 : hb_KT[139]? = some (3, 0, 1536, [(0, 0, 1)]) := rfl
theorem hw_kt140 : hb_KT[140]? = some (1, 0, 5, [(0, 0, 255)]) := rfl
section HML
variable {l : Launch} {D : va_G} {U S : Nat → Nat} {wd : va_W} {f : Nat → Int32} {N P : Nat}
theorem hm_layUnheard {x : Int32} (hF : hw_ar U wd 125 122 f) (hN : f 5 = nI N) (hN8 : N ≤ 8) (hP : f 4 = nI P) (hP5 : P ≤ 5) : hm_Met l hw_y_layUnheard 4 92 D U S wd [124, 125, 141, 142] [141, 142] [.ref (U 124), .int x] (hm_PSu U f N x) := by
  refine hm_enter (by decide) (Nat.le_of_ble_eq_true rfl) ?_
  intro p e s m below meth c ls hBd hh hGs hl
  obtain ⟨hx, hb, hml, hown, hlocks, hret, hTw⟩ := id hBd
  have h8 := hm_p8 hN8
  obtain ⟨g0, hg0, -⟩ := hm_has1 hh.2.2.2.1 (cN := 141) (by decide) hw_kt141
  obtain ⟨w0, hw0, -⟩ := hm_has1 hh.2.2.2.1 (cN := 142) (by decide) hw_kt142
  refine lv_aload_n hx hb hw_d_layUnheard_0 rfl (lv_at hl 0 rfl) ?_
  refine lv_iload_n hx hb hw_d_layUnheard_1 rfl (lv_at hl 1 rfl) ?_
  refine hm_cV (y := hw_y_isPig) (As := [.int x]) (rest := []) hBd rfl hGs.1 hh (by decide) (by decide) hF (hw_isPig_mt x) hb_cd237 rfl hw_w_isPig ⟨Nat.le_of_ble_eq_true rfl, Nat.le_of_ble_eq_true rfl⟩ (fun sig h => by cases h; rfl) hl.1 rfl (Nat.le_of_ble_eq_true rfl) hw_d_layUnheard_2 (fun locs1 hh1 => ?_)
  refine hb_row_if (tgt := 10) hx hb hw_d_layUnheard_5 (by decide) (fun c2 => ?_) (fun c2 => ?_)
  · have c2 := hw_bt c2
    obtain ⟨q, hq1, hq2⟩ := hm_inN hP (by omega) c2
    subst hq2
    have hq5 : q < 5 := by omega
    have go : ∀ (j : Nat) (ls : Array Slot) (wd1 : va_W) (H : Heap) (locs : List Loc) (g w : Nat → Int32) (M : Nat → Nat), j ≤ 2 ^ N → lv_has ls hw_y_layUnheard.2.2.1 [(0, .ref (U 124)), (1, .int (nI q)), (2, .int (hm_pr j))] → hw_H D U s wd [124, 125, 141, 142] [141, 142] wd1 H locs → hw_ar U wd1 125 122 f → hw_ar U wd1 141 256 g → hw_ar U wd1 142 256 w → hm_mo (fun h s => hw_unhB f N h q s) N M j → (∀ s', j ≤ s' → s' < 2 ^ N → g s' = nI (M s')) → W p l e (hb_rmF 4 92) s m [Value.ref (U 124), Value.int (nI q)].toArray below meth c H locs 0 0 (MQ below (hm_Post D U wd s.heap.size [124, 125, 141, 142] [141, 142] (hm_PSu U f N (nI q))) [Value.ref (U 124), Value.int (nI q)].toArray s 0 0 (va_A wd s.heap.size)) (F0 m 15 ls []) := by
      intro j
      induction j with
      | zero =>
        intro ls wd1 H locs g w M hj hl hh hF hg hw hM hgM
        refine lv_iload_n hx hb hw_d_layUnheard_15 rfl (lv_at hl 2 rfl) ?_
        refine hb_row_if (tgt := 164) hx hb hw_d_layUnheard_16 (by decide) (fun c3 => ?_) (fun c3 => ?_)
        · have c3 : (-1 : Int32).toInt < 0 := c3
          refine lv_iconst (v := nI 1) hx hb hw_d_layUnheard_164 (by decide) ?_
          exact hm_retZ hx hb hret hlocks hh (by decide) hw_d_layUnheard_165 (Or.inr ⟨rfl, q, hq5, rfl, g, M, hg, hM, fun s' h => hgM s' (Nat.zero_le _) h⟩)
        · have c3 : 0 ≤ (-1 : Int32).toInt := c3
          exact absurd c3 (by decide)
      | succ j ih =>
        intro ls wd1 H locs g w M hj hl hh hF hg hw hM hgM
        have hj256 : j < 256 := by omega
        refine lv_iload_n hx hb hw_d_layUnheard_15 rfl (lv_at hl 2 rfl) ?_
        refine hb_row_if (tgt := 164) hx hb hw_d_layUnheard_16 (by decide) (fun c4 => ?_) (fun c4 => ?_)
        · have c4 := hw_zlt c4 (by omega)
          exact c4.elim
        · have c4 := hw_zge c4 (by omega)
          refine lv_aload_n hx hb hw_d_layUnheard_19 rfl (lv_at hl 0 rfl) ?_
          refine hm_getf (cN := 141) hx hb hown hTw hGs.1 hh (by decide) (hw_pool hTw) hw_in64 (by decide) hw_ft64 hw_d_layUnheard_20 ?_
          refine lv_iload_n hx hb hw_d_layUnheard_23 rfl (lv_at hl 2 rfl) ?_
          refine lv_iconst (v := nI 0) hx hb hw_d_layUnheard_24 (by decide) ?_
          refine hm_st (k := j) hx hb hGs.1 hh (by decide) (by decide) hw_kt141 hg (by omega) (by decide) (hm_rng _).1 (hm_rng _).2 hw_d_layUnheard_25 (fun wd5 H5 locs5 hh5 ha5 hk5 => ?_)
          have ha5_125 := hk5 125 _ _ (by decide) hF
          have ha5_142 := hk5 142 _ _ (by decide) hw
          refine lv_aload_n hx hb hw_d_layUnheard_26 rfl (lv_at hl 0 rfl) ?_
          refine hm_getf (cN := 142) hx hb hown hTw hGs.1 hh5 (by decide) (hw_pool hTw) hw_in67 (by decide) hw_ft67 hw_d_layUnheard_27 ?_
          refine lv_iload_n hx hb hw_d_layUnheard_30 rfl (lv_at hl 2 rfl) ?_
          refine lv_iconst (v := nI 1) hx hb hw_d_layUnheard_31 (by decide) ?_
          refine hm_st (k := j) hx hb hGs.1 hh5 (by decide) (by decide) hw_kt142 ha5_142 (by omega) (by decide) (hm_rng _).1 (hm_rng _).2 hw_d_layUnheard_32 (fun wd6 H6 locs6 hh6 ha6 hk6 => ?_)
          have ha6_125 := hk6 125 _ _ (by decide) ha5_125
          have ha6_141 := hk6 141 _ _ (by decide) ha5
          refine lv_iconst (v := nI 0) hx hb hw_d_layUnheard_33 (by decide) ?_
          refine lv_istore_n (lv' := [(3, .int (nI 0)), (0, .ref (U 124)), (1, .int (nI q)), (2, .int (nI j))]) hx hb hw_d_layUnheard_34 rfl hl (by decide) rfl (fun ls7 hl7 => ?_)
          have inner : ∀ (n k : Nat) (ls : Array Slot) (wd1 : va_W) (H : Heap) (locs : List Loc) (g w : Nat → Int32) (M : Nat → Nat), k + n = N → lv_has ls hw_y_layUnheard.2.2.1 [(0, .ref (U 124)), (1, .int (nI q)), (2, .int (nI j)), (3, .int (nI k))] → hw_H D U s wd [124, 125, 141, 142] [141, 142] wd1 H locs → hw_ar U wd1 125 122 f → hw_ar U wd1 141 256 g → hw_ar U wd1 142 256 w → hm_inn (fun h s => hw_unhB f N h q s) N M j k → (∀ s', j ≤ s' → s' < 2 ^ N → g s' = nI (M s')) → W p l e (hb_rmF 4 92) s m [Value.ref (U 124), Value.int (nI q)].toArray below meth c H locs 0 0 (MQ below (hm_Post D U wd s.heap.size [124, 125, 141, 142] [141, 142] (hm_PSu U f N (nI q))) [Value.ref (U 124), Value.int (nI q)].toArray s 0 0 (va_A wd s.heap.size)) (F0 m 35 ls []) := by
            intro n
            induction n with
            | zero =>
              intro k ls wd1 H locs g w M hk hl hh hF hg hw hM hgM
              have e1 : k = N := by omega
              subst e1
              refine lv_iload_n hx hb hw_d_layUnheard_35 rfl (lv_at hl 3 rfl) ?_
              refine lv_aload_n hx hb hw_d_layUnheard_36 rfl (lv_at hl 0 rfl) ?_
              refine hm_getf (cN := 125) hx hb hown hTw hGs.1 hh (by decide) (hw_pool hTw) hw_in9 (by decide) hw_ft9 hw_d_layUnheard_37 ?_
              refine lv_iconst (v := nI 5) hx hb hw_d_layUnheard_40 (by decide) ?_
              refine hm_ld (k := 5) hx hb hGs.1 hh (by decide) hw_kt125 hF (by omega) (by decide) hw_d_layUnheard_41 ?_
              rw [hN]
              refine hb_row_icmp (tgt := 158) hx hb hw_d_layUnheard_42 (by decide) (fun c8 => ?_) (fun c8 => ?_)
              · have c8 := hw_cge c8 (by omega) (by omega)
                refine lv_iinc (v := hm_pr j) (lv' := [(2, .int (hm_pr j)), (0, .ref (U 124)), (1, .int (nI q)), (3, .int (nI k))]) hx hb hw_d_layUnheard_158 hl (k := 2) rfl (hm_pr_dec j) (by decide) rfl (fun ls9 hl9 => ?_)
                refine lv_goto (tgt := 15) hx hb hw_d_layUnheard_161 (by decide) ?_
                exact ih ls9 _ _ _ _ _ M (by omega) (lv_sub hl9 [1, 2, 0] rfl) hh hF hg hw (hm_inn_end hM) hgM
              · have c8 := hw_clt c8 (by omega) (by omega)
                exact absurd c8 (by omega)
            | succ n ihn =>
              intro k ls wd1 H locs g w M hk hl hh hF hg hw hM hgM
              have hkN : k < N := by omega
              refine lv_iload_n hx hb hw_d_layUnheard_35 rfl (lv_at hl 3 rfl) ?_
              refine lv_aload_n hx hb hw_d_layUnheard_36 rfl (lv_at hl 0 rfl) ?_
              refine hm_getf (cN := 125) hx hb hown hTw hGs.1 hh (by decide) (hw_pool hTw) hw_in9 (by decide) hw_ft9 hw_d_layUnheard_37 ?_
              refine lv_iconst (v := nI 5) hx hb hw_d_layUnheard_40 (by decide) ?_
              refine hm_ld (k := 5) hx hb hGs.1 hh (by decide) hw_kt125 hF (by omega) (by decide) hw_d_layUnheard_41 ?_
              rw [hN]
              refine hb_row_icmp (tgt := 158) hx hb hw_d_layUnheard_42 (by decide) (fun c10 => ?_) (fun c10 => ?_)
              · have c10 := hw_cge c10 (by omega) (by omega)
                exact absurd c10 (by omega)
              · have c10 := hw_clt c10 (by omega) (by omega)
                refine lv_aload_n hx hb hw_d_layUnheard_45 rfl (lv_at hl 0 rfl) ?_
                refine lv_iload_n hx hb hw_d_layUnheard_46 rfl (lv_at hl 3 rfl) ?_
                refine lv_iload_n hx hb hw_d_layUnheard_47 rfl (lv_at hl 1 rfl) ?_
                refine lv_iload_n hx hb hw_d_layUnheard_48 rfl (lv_at hl 2 rfl) ?_
                refine hm_cV (y := hw_y_isUnheard) (As := [.int (nI k), .int (nI q), .int (nI j)]) (rest := []) hBd rfl hGs.1 hh (by decide) (by decide) hF (hw_isUnheard_mt (h := k) (q := q) (s0 := j) (by omega) hq5 hj256 hN hN8) hb_cd314 rfl hw_w_isUnheard ⟨Nat.le_of_ble_eq_true rfl, Nat.le_of_ble_eq_true rfl⟩ (fun sig h => by cases h; rfl) hl.1 rfl (Nat.le_of_ble_eq_true rfl) hw_d_layUnheard_49 (fun locs11 hh11 => ?_)
                refine hb_row_if (tgt := 58) hx hb hw_d_layUnheard_52 (by decide) (fun c12 => ?_) (fun c12 => ?_)
                · have c12 := hw_bt c12
                  have hu := c12
                  have ht1 := hm_or_gt (hm_unh_bit k j hu)
                  have ht2 := hm_or_lt (show j < 2 ^ N by omega) hkN
                  have hb1 := (hM.1 (j ||| 2 ^ k) (by omega) ht2).1
                  have hb2 := hM.2.1
                  refine lv_iload_n hx hb hw_d_layUnheard_58 rfl (lv_at hl 2 rfl) ?_
                  refine lv_iconst (v := nI 1) hx hb hw_d_layUnheard_59 (by decide) ?_
                  refine lv_iload_n hx hb hw_d_layUnheard_60 rfl (lv_at hl 3 rfl) ?_
                  refine hw_ishl (v := nI (2 ^ k)) hx hb hw_d_layUnheard_61 (hw_nshl (by omega)) ?_
                  refine hw_ior (v := nI (j ||| (2 ^ k))) hx hb hw_d_layUnheard_62 (hw_nor j (2 ^ k)) ?_
                  refine lv_istore (lv' := [(4, .int (nI (j ||| (2 ^ k)))), (0, .ref (U 124)), (1, .int (nI q)), (2, .int (nI j)), (3, .int (nI k))]) hx hb hw_d_layUnheard_63 hl (by decide) rfl (fun ls13 hl13 => ?_)
                  refine lv_aload_n hx hb hw_d_layUnheard_65 rfl (lv_at hl13 1 rfl) ?_
                  refine hm_getf (cN := 141) hx hb hown hTw hGs.1 hh11 (by decide) (hw_pool hTw) hw_in64 (by decide) hw_ft64 hw_d_layUnheard_66 ?_
                  refine lv_iload hx hb hw_d_layUnheard_69 (lv_at hl13 0 rfl) ?_
                  refine hm_ld (k := (j ||| (2 ^ k))) hx hb hGs.1 hh11 (by decide) hw_kt141 hg (by omega) (by decide) hw_d_layUnheard_71 ?_
                  rw [hgM _ (by omega) ht2]
                  refine lv_iconst (v := nI 1) hx hb hw_d_layUnheard_72 (by decide) ?_
                  refine hw_iadd (v := nI (M (j ||| 2 ^ k) + 1)) hx hb hw_d_layUnheard_73 (hw_nadd (M (j ||| 2 ^ k)) 1) ?_
                  refine lv_aload_n hx hb hw_d_layUnheard_74 rfl (lv_at hl13 1 rfl) ?_
                  refine hm_getf (cN := 141) hx hb hown hTw hGs.1 hh11 (by decide) (hw_pool hTw) hw_in64 (by decide) hw_ft64 hw_d_layUnheard_75 ?_
                  refine lv_iload_n hx hb hw_d_layUnheard_78 rfl (lv_at hl13 3 rfl) ?_
                  refine hm_ld (k := j) hx hb hGs.1 hh11 (by decide) hw_kt141 hg (by omega) (by decide) hw_d_layUnheard_79 ?_
                  rw [hgM _ (by omega) (by omega)]
                  refine hb_row_icmp (tgt := 90) hx hb hw_d_layUnheard_80 (by decide) (fun c14 => ?_) (fun c14 => ?_)
                  · have c14 := hw_cle c14 (by omega) (by omega)
                    refine lv_aload_n hx hb hw_d_layUnheard_90 rfl (lv_at hl13 1 rfl) ?_
                    refine hm_getf (cN := 141) hx hb hown hTw hGs.1 hh11 (by decide) (hw_pool hTw) hw_in64 (by decide) hw_ft64 hw_d_layUnheard_91 ?_
                    refine lv_iload_n hx hb hw_d_layUnheard_94 rfl (lv_at hl13 3 rfl) ?_
                    refine lv_aload_n hx hb hw_d_layUnheard_95 rfl (lv_at hl13 1 rfl) ?_
                    refine hm_getf (cN := 141) hx hb hown hTw hGs.1 hh11 (by decide) (hw_pool hTw) hw_in64 (by decide) hw_ft64 hw_d_layUnheard_96 ?_
                    refine lv_iload_n hx hb hw_d_layUnheard_99 rfl (lv_at hl13 3 rfl) ?_
                    refine hm_ld (k := j) hx hb hGs.1 hh11 (by decide) hw_kt141 hg (by omega) (by decide) hw_d_layUnheard_100 ?_
                    rw [hgM _ (by omega) (by omega)]
                    refine lv_aload_n hx hb hw_d_layUnheard_101 rfl (lv_at hl13 1 rfl) ?_
                    refine hm_getf (cN := 141) hx hb hown hTw hGs.1 hh11 (by decide) (hw_pool hTw) hw_in64 (by decide) hw_ft64 hw_d_layUnheard_102 ?_
                    refine lv_iload hx hb hw_d_layUnheard_105 (lv_at hl13 0 rfl) ?_
                    refine hm_ld (k := (j ||| (2 ^ k))) hx hb hGs.1 hh11 (by decide) hw_kt141 hg (by omega) (by decide) hw_d_layUnheard_107 ?_
                    rw [hgM _ (by omega) ht2]
                    refine lv_iconst (v := nI 1) hx hb hw_d_layUnheard_108 (by decide) ?_
                    refine hw_iadd (v := nI (M (j ||| 2 ^ k) + 1)) hx hb hw_d_layUnheard_109 (hw_nadd (M (j ||| 2 ^ k)) 1) ?_
                    refine hw_max (v := nI (max (M j) (M (j ||| 2 ^ k) + 1))) (rest := [.int (nI j), .ref (U 141)]) hx hb hml hown hTw (by decide) hl13.1 (Nat.le_of_ble_eq_true rfl) (Nat.le_of_ble_eq_true rfl) (hm_nmax (by omega) (by omega)) hw_d_layUnheard_110 ?_
                    refine hm_st (k := j) hx hb hGs.1 hh11 (by decide) (by decide) hw_kt141 hg (by omega) (by decide) (hm_rng _).1 (hm_rng _).2 hw_d_layUnheard_113 (fun wd15 H15 locs15 hh15 ha15 hk15 => ?_)
                    have ha15_125 := hk15 125 _ _ (by decide) hF
                    have ha15_142 := hk15 142 _ _ (by decide) hw
                    refine lv_aload_n hx hb hw_d_layUnheard_114 rfl (lv_at hl13 1 rfl) ?_
                    refine hm_getf (cN := 142) hx hb hown hTw hGs.1 hh15 (by decide) (hw_pool hTw) hw_in67 (by decide) hw_ft67 hw_d_layUnheard_115 ?_
                    refine lv_iload_n hx hb hw_d_layUnheard_118 rfl (lv_at hl13 3 rfl) ?_
                    refine lv_dup2_11 hx hb hw_d_layUnheard_119 rfl rfl ?_
                    refine hm_ld (k := j) hx hb hGs.1 hh15 (by decide) hw_kt142 ha15_142 (by omega) (by decide) hw_d_layUnheard_120 ?_
                    refine lv_aload_n hx hb hw_d_layUnheard_121 rfl (lv_at hl13 1 rfl) ?_
                    refine hm_getf (cN := 141) hx hb hown hTw hGs.1 hh15 (by decide) (hw_pool hTw) hw_in64 (by decide) hw_ft64 hw_d_layUnheard_122 ?_
                    refine lv_iload hx hb hw_d_layUnheard_125 (lv_at hl13 0 rfl) ?_
                    refine hm_ld (k := (j ||| (2 ^ k))) hx hb hGs.1 hh15 (by decide) hw_kt141 ha15 (by omega) (by decide) hw_d_layUnheard_127 ?_
                    rw [pk_un (by omega), hgM _ (by omega) ht2]
                    refine lv_iconst (v := nI 1) hx hb hw_d_layUnheard_128 (by decide) ?_
                    refine hw_iadd (v := nI (M (j ||| 2 ^ k) + 1)) hx hb hw_d_layUnheard_129 (hw_nadd (M (j ||| 2 ^ k)) 1) ?_
                    refine lv_aload_n hx hb hw_d_layUnheard_130 rfl (lv_at hl13 1 rfl) ?_
                    refine hm_getf (cN := 141) hx hb hown hTw hGs.1 hh15 (by decide) (hw_pool hTw) hw_in64 (by decide) hw_ft64 hw_d_layUnheard_131 ?_
                    refine lv_iload_n hx hb hw_d_layUnheard_134 rfl (lv_at hl13 3 rfl) ?_
                    refine hm_ld (k := j) hx hb hGs.1 hh15 (by decide) hw_kt141 ha15 (by omega) (by decide) hw_d_layUnheard_135 ?_
                    rw [pk_us]
                    refine hb_row_icmp (tgt := 149) hx hb hw_d_layUnheard_136 (by decide) (fun c16 => ?_) (fun c16 => ?_)
                    · have c16 := hw_cne c16 (by omega) (by omega)
                      refine lv_iconst (v := nI 0) hx hb hw_d_layUnheard_149 (by decide) ?_
                      refine hw_iadd (v := (w j) + (nI 0)) hx hb hw_d_layUnheard_150 rfl ?_
                      refine hm_st (k := j) hx hb hGs.1 hh15 (by decide) (by decide) hw_kt142 ha15_142 (by omega) (by decide) (hm_rng _).1 (hm_rng _).2 hw_d_layUnheard_151 (fun wd17 H17 locs17 hh17 ha17 hk17 => ?_)
                      have ha17_125 := hk17 125 _ _ (by decide) ha15_125
                      have ha17_141 := hk17 141 _ _ (by decide) ha15
                      refine lv_iinc (v := nI (k + 1)) (lv' := [(3, .int (nI (k + 1))), (4, .int (nI (j ||| (2 ^ k)))), (0, .ref (U 124)), (1, .int (nI q)), (2, .int (nI j))]) hx hb hw_d_layUnheard_152 hl13 (k := 4) rfl (hw_nI1 k) (by decide) rfl (fun ls18 hl18 => ?_)
                      refine lv_goto (tgt := 35) hx hb hw_d_layUnheard_155 (by decide) ?_
                      exact ihn (k + 1) ls18 _ _ _ _ _ (hm_up M j (max (M j) (M (j ||| 2 ^ k) + 1))) (by omega) (lv_sub hl18 [2, 3, 4, 0] rfl) hh17 ha17_125 ha17_141 ha17 (hm_inn_upd hm_unh_bit h8 (by omega) hkN hu hM) (fun s' a1 a2 => by by_cases e : s' = j; (· rw [e, pk_us, hm_up_s]); (· rw [pk_un e, hm_up_n _ _ e]; exact hgM s' a1 a2))
                    · have c16 := hw_ceq c16 (by omega) (by omega)
                      refine lv_aload_n hx hb hw_d_layUnheard_139 rfl (lv_at hl13 1 rfl) ?_
                      refine hm_getf (cN := 142) hx hb hown hTw hGs.1 hh15 (by decide) (hw_pool hTw) hw_in67 (by decide) hw_ft67 hw_d_layUnheard_140 ?_
                      refine lv_iload hx hb hw_d_layUnheard_143 (lv_at hl13 0 rfl) ?_
                      refine hm_ld (k := (j ||| (2 ^ k))) hx hb hGs.1 hh15 (by decide) hw_kt142 ha15_142 (by omega) (by decide) hw_d_layUnheard_145 ?_
                      refine lv_goto (tgt := 150) hx hb hw_d_layUnheard_146 (by decide) ?_
                      refine hw_iadd (v := (w j) + (w (j ||| (2 ^ k)))) hx hb hw_d_layUnheard_150 rfl ?_
                      refine hm_st (k := j) hx hb hGs.1 hh15 (by decide) (by decide) hw_kt142 ha15_142 (by omega) (by decide) (hm_rng _).1 (hm_rng _).2 hw_d_layUnheard_151 (fun wd19 H19 locs19 hh19 ha19 hk19 => ?_)
                      have ha19_125 := hk19 125 _ _ (by decide) ha15_125
                      have ha19_141 := hk19 141 _ _ (by decide) ha15
                      refine lv_iinc (v := nI (k + 1)) (lv' := [(3, .int (nI (k + 1))), (4, .int (nI (j ||| (2 ^ k)))), (0, .ref (U 124)), (1, .int (nI q)), (2, .int (nI j))]) hx hb hw_d_layUnheard_152 hl13 (k := 4) rfl (hw_nI1 k) (by decide) rfl (fun ls20 hl20 => ?_)
                      refine lv_goto (tgt := 35) hx hb hw_d_layUnheard_155 (by decide) ?_
                      exact ihn (k + 1) ls20 _ _ _ _ _ (hm_up M j (max (M j) (M (j ||| 2 ^ k) + 1))) (by omega) (lv_sub hl20 [2, 3, 4, 0] rfl) hh19 ha19_125 ha19_141 ha19 (hm_inn_upd hm_unh_bit h8 (by omega) hkN hu hM) (fun s' a1 a2 => by by_cases e : s' = j; (· rw [e, pk_us, hm_up_s]); (· rw [pk_un e, hm_up_n _ _ e]; exact hgM s' a1 a2))
                  · have c14 := hw_cgt c14 (by omega) (by omega)
                    refine lv_aload_n hx hb hw_d_layUnheard_83 rfl (lv_at hl13 1 rfl) ?_
                    refine hm_getf (cN := 142) hx hb hown hTw hGs.1 hh11 (by decide) (hw_pool hTw) hw_in67 (by decide) hw_ft67 hw_d_layUnheard_84 ?_
                    refine lv_iload_n hx hb hw_d_layUnheard_87 rfl (lv_at hl13 3 rfl) ?_
                    refine lv_iconst (v := nI 0) hx hb hw_d_layUnheard_88 (by decide) ?_
                    refine hm_st (k := j) hx hb hGs.1 hh11 (by decide) (by decide) hw_kt142 hw (by omega) (by decide) (hm_rng _).1 (hm_rng _).2 hw_d_layUnheard_89 (fun wd21 H21 locs21 hh21 ha21 hk21 => ?_)
                    have ha21_125 := hk21 125 _ _ (by decide) hF
                    have ha21_141 := hk21 141 _ _ (by decide) hg
                    refine lv_aload_n hx hb hw_d_layUnheard_90 rfl (lv_at hl13 1 rfl) ?_
                    refine hm_getf (cN := 141) hx hb hown hTw hGs.1 hh21 (by decide) (hw_pool hTw) hw_in64 (by decide) hw_ft64 hw_d_layUnheard_91 ?_
                    refine lv_iload_n hx hb hw_d_layUnheard_94 rfl (lv_at hl13 3 rfl) ?_
                    refine lv_aload_n hx hb hw_d_layUnheard_95 rfl (lv_at hl13 1 rfl) ?_
                    refine hm_getf (cN := 141) hx hb hown hTw hGs.1 hh21 (by decide) (hw_pool hTw) hw_in64 (by decide) hw_ft64 hw_d_layUnheard_96 ?_
                    refine lv_iload_n hx hb hw_d_layUnheard_99 rfl (lv_at hl13 3 rfl) ?_
                    refine hm_ld (k := j) hx hb hGs.1 hh21 (by decide) hw_kt141 ha21_141 (by omega) (by decide) hw_d_layUnheard_100 ?_
                    rw [hgM _ (by omega) (by omega)]
                    refine lv_aload_n hx hb hw_d_layUnheard_101 rfl (lv_at hl13 1 rfl) ?_
                    refine hm_getf (cN := 141) hx hb hown hTw hGs.1 hh21 (by decide) (hw_pool hTw) hw_in64 (by decide) hw_ft64 hw_d_layUnheard_102 ?_
                    refine lv_iload hx hb hw_d_layUnheard_105 (lv_at hl13 0 rfl) ?_
                    refine hm_ld (k := (j ||| (2 ^ k))) hx hb hGs.1 hh21 (by decide) hw_kt141 ha21_141 (by omega) (by decide) hw_d_layUnheard_107 ?_
                    rw [hgM _ (by omega) ht2]
                    refine lv_iconst (v := nI 1) hx hb hw_d_layUnheard_108 (by decide) ?_
                    refine hw_iadd (v := nI (M (j ||| 2 ^ k) + 1)) hx hb hw_d_layUnheard_109 (hw_nadd (M (j ||| 2 ^ k)) 1) ?_
                    refine hw_max (v := nI (max (M j) (M (j ||| 2 ^ k) + 1))) (rest := [.int (nI j), .ref (U 141)]) hx hb hml hown hTw (by decide) hl13.1 (Nat.le_of_ble_eq_true rfl) (Nat.le_of_ble_eq_true rfl) (hm_nmax (by omega) (by omega)) hw_d_layUnheard_110 ?_
                    refine hm_st (k := j) hx hb hGs.1 hh21 (by decide) (by decide) hw_kt141 ha21_141 (by omega) (by decide) (hm_rng _).1 (hm_rng _).2 hw_d_layUnheard_113 (fun wd22 H22 locs22 hh22 ha22 hk22 => ?_)
                    have ha22_125 := hk22 125 _ _ (by decide) ha21_125
                    have ha22_142 := hk22 142 _ _ (by decide) ha21
                    refine lv_aload_n hx hb hw_d_layUnheard_114 rfl (lv_at hl13 1 rfl) ?_
                    refine hm_getf (cN := 142) hx hb hown hTw hGs.1 hh22 (by decide) (hw_pool hTw) hw_in67 (by decide) hw_ft67 hw_d_layUnheard_115 ?_
                    refine lv_iload_n hx hb hw_d_layUnheard_118 rfl (lv_at hl13 3 rfl) ?_
                    refine lv_dup2_11 hx hb hw_d_layUnheard_119 rfl rfl ?_
                    refine hm_ld (k := j) hx hb hGs.1 hh22 (by decide) hw_kt142 ha22_142 (by omega) (by decide) hw_d_layUnheard_120 ?_
                    refine lv_aload_n hx hb hw_d_layUnheard_121 rfl (lv_at hl13 1 rfl) ?_
                    refine hm_getf (cN := 141) hx hb hown hTw hGs.1 hh22 (by decide) (hw_pool hTw) hw_in64 (by decide) hw_ft64 hw_d_layUnheard_122 ?_
                    refine lv_iload hx hb hw_d_layUnheard_125 (lv_at hl13 0 rfl) ?_
                    refine hm_ld (k := (j ||| (2 ^ k))) hx hb hGs.1 hh22 (by decide) hw_kt141 ha22 (by omega) (by decide) hw_d_layUnheard_127 ?_
                    rw [pk_un (by omega), hgM _ (by omega) ht2]
                    refine lv_iconst (v := nI 1) hx hb hw_d_layUnheard_128 (by decide) ?_
                    refine hw_iadd (v := nI (M (j ||| 2 ^ k) + 1)) hx hb hw_d_layUnheard_129 (hw_nadd (M (j ||| 2 ^ k)) 1) ?_
                    refine lv_aload_n hx hb hw_d_layUnheard_130 rfl (lv_at hl13 1 rfl) ?_
                    refine hm_getf (cN := 141) hx hb hown hTw hGs.1 hh22 (by decide) (hw_pool hTw) hw_in64 (by decide) hw_ft64 hw_d_layUnheard_131 ?_
                    refine lv_iload_n hx hb hw_d_layUnheard_134 rfl (lv_at hl13 3 rfl) ?_
                    refine hm_ld (k := j) hx hb hGs.1 hh22 (by decide) hw_kt141 ha22 (by omega) (by decide) hw_d_layUnheard_135 ?_
                    rw [pk_us]
                    refine hb_row_icmp (tgt := 149) hx hb hw_d_layUnheard_136 (by decide) (fun c23 => ?_) (fun c23 => ?_)
                    · have c23 := hw_cne c23 (by omega) (by omega)
                      refine lv_iconst (v := nI 0) hx hb hw_d_layUnheard_149 (by decide) ?_
                      refine hw_iadd (v := ((upd w j (nI 0)) j) + (nI 0)) hx hb hw_d_layUnheard_150 rfl ?_
                      refine hm_st (k := j) hx hb hGs.1 hh22 (by decide) (by decide) hw_kt142 ha22_142 (by omega) (by decide) (hm_rng _).1 (hm_rng _).2 hw_d_layUnheard_151 (fun wd24 H24 locs24 hh24 ha24 hk24 => ?_)
                      have ha24_125 := hk24 125 _ _ (by decide) ha22_125
                      have ha24_141 := hk24 141 _ _ (by decide) ha22
                      refine lv_iinc (v := nI (k + 1)) (lv' := [(3, .int (nI (k + 1))), (4, .int (nI (j ||| (2 ^ k)))), (0, .ref (U 124)), (1, .int (nI q)), (2, .int (nI j))]) hx hb hw_d_layUnheard_152 hl13 (k := 4) rfl (hw_nI1 k) (by decide) rfl (fun ls25 hl25 => ?_)
                      refine lv_goto (tgt := 35) hx hb hw_d_layUnheard_155 (by decide) ?_
                      exact ihn (k + 1) ls25 _ _ _ _ _ (hm_up M j (max (M j) (M (j ||| 2 ^ k) + 1))) (by omega) (lv_sub hl25 [2, 3, 4, 0] rfl) hh24 ha24_125 ha24_141 ha24 (hm_inn_upd hm_unh_bit h8 (by omega) hkN hu hM) (fun s' a1 a2 => by by_cases e : s' = j; (· rw [e, pk_us, hm_up_s]); (· rw [pk_un e, hm_up_n _ _ e]; exact hgM s' a1 a2))
                    · have c23 := hw_ceq c23 (by omega) (by omega)
                      refine lv_aload_n hx hb hw_d_layUnheard_139 rfl (lv_at hl13 1 rfl) ?_
                      refine hm_getf (cN := 142) hx hb hown hTw hGs.1 hh22 (by decide) (hw_pool hTw) hw_in67 (by decide) hw_ft67 hw_d_layUnheard_140 ?_
                      refine lv_iload hx hb hw_d_layUnheard_143 (lv_at hl13 0 rfl) ?_
                      refine hm_ld (k := (j ||| (2 ^ k))) hx hb hGs.1 hh22 (by decide) hw_kt142 ha22_142 (by omega) (by decide) hw_d_layUnheard_145 ?_
                      refine lv_goto (tgt := 150) hx hb hw_d_layUnheard_146 (by decide) ?_
                      refine hw_iadd (v := ((upd w j (nI 0)) j) + ((upd w j (nI 0)) (j ||| (2 ^ k)))) hx hb hw_d_layUnheard_150 rfl ?_
                      refine hm_st (k := j) hx hb hGs.1 hh22 (by decide) (by decide) hw_kt142 ha22_142 (by omega) (by decide) (hm_rng _).1 (hm_rng _).2 hw_d_layUnheard_151 (fun wd26 H26 locs26 hh26 ha26 hk26 => ?_)
                      have ha26_125 := hk26 125 _ _ (by decide) ha22_125
                      have ha26_141 := hk26 141 _ _ (by decide) ha22
                      refine lv_iinc (v := nI (k + 1)) (lv' := [(3, .int (nI (k + 1))), (4, .int (nI (j ||| (2 ^ k)))), (0, .ref (U 124)), (1, .int (nI q)), (2, .int (nI j))]) hx hb hw_d_layUnheard_152 hl13 (k := 4) rfl (hw_nI1 k) (by decide) rfl (fun ls27 hl27 => ?_)
                      refine lv_goto (tgt := 35) hx hb hw_d_layUnheard_155 (by decide) ?_
                      exact ihn (k + 1) ls27 _ _ _ _ _ (hm_up M j (max (M j) (M (j ||| 2 ^ k) + 1))) (by omega) (lv_sub hl27 [2, 3, 4, 0] rfl) hh26 ha26_125 ha26_141 ha26 (hm_inn_upd hm_unh_bit h8 (by omega) hkN hu hM) (fun s' a1 a2 => by by_cases e : s' = j; (· rw [e, pk_us, hm_up_s]); (· rw [pk_un e, hm_up_n _ _ e]; exact hgM s' a1 a2))
                · have c12 := hw_bf c12
                  refine lv_goto (tgt := 152) hx hb hw_d_layUnheard_55 (by decide) ?_
                  refine lv_iinc (v := nI (k + 1)) (lv' := [(3, .int (nI (k + 1))), (0, .ref (U 124)), (1, .int (nI q)), (2, .int (nI j))]) hx hb hw_d_layUnheard_152 hl (k := 3) rfl (hw_nI1 k) (by decide) rfl (fun ls28 hl28 => ?_)
                  refine lv_goto (tgt := 35) hx hb hw_d_layUnheard_155 (by decide) ?_
                  exact ihn (k + 1) ls28 _ _ _ _ _ M (by omega) (lv_sub hl28 [1, 2, 3, 0] rfl) hh11 hF hg hw (hm_inn_skip hM) hgM
          exact inner N 0 ls7 _ _ _ _ _ (hm_up M j 0) (by omega) (lv_sub hl7 [1, 2, 3, 0] rfl) hh6 ha6_125 ha6_141 ha6 (hm_mo_new hM) (fun s' a1 a2 => by by_cases e : s' = j; (· rw [e, pk_us, hm_up_s]); (· rw [pk_un e, hm_up_n _ _ e]; exact hgM s' (by omega) a2))
    refine lv_aload_n hx hb hw_d_layUnheard_10 rfl (lv_at hl 0 rfl) ?_
    refine hm_cV (y := hw_y_allHopes) (As := []) (rest := []) hBd rfl hGs.1 hh1 (by decide) (by decide) hF (hw_allHopes_mt hN hN8) hb_cd308 rfl hw_w_allHopes ⟨Nat.le_of_ble_eq_true rfl, Nat.le_of_ble_eq_true rfl⟩ (fun sig h => by cases h; rfl) hl.1 rfl (Nat.le_of_ble_eq_true rfl) hw_d_layUnheard_11 (fun locs29 hh29 => ?_)
    rw [hm_pr_top _ (Nat.two_pow_pos N)]
    refine lv_istore_n (lv' := [(2, .int (hm_pr (2 ^ N))), (0, .ref (U 124)), (1, .int (nI q))]) hx hb hw_d_layUnheard_14 rfl hl (by decide) rfl (fun ls30 hl30 => ?_)
    exact go (2 ^ N) ls30 _ _ _ _ _ (fun _ => 0) (Nat.le_refl _) (lv_sub hl30 [1, 2, 0] rfl) hh29 hF hg0 hw0 (fun s' a b => absurd a (by omega)) (fun s' a b => absurd a (by omega))
  · have c2 := hw_bf c2
    refine lv_iconst (v := nI 0) hx hb hw_d_layUnheard_8 (by decide) ?_
    exact hm_retZ hx hb hret hlocks hh1 (by decide) hw_d_layUnheard_9 (Or.inl rfl)
end HML
