/-! hw_: reading methods of the reference, exactly (2) -/
def hw_in (v a b : Int64) : Bool := decide (a.toInt ≤ v.toInt) && decide (v.toInt ≤ b.toInt)
def hw_fitB (f : Nat → Int32) (N h q : Nat) (x room : Int32) : Bool := decide ((hw_size f h).toInt ≤ (hw_slot f q).toInt) && decide ((hw_size f h).toInt ≤ (room - hw_szin f x N).toInt)
def hw_hear (f : Nat → Int32) (N h : Nat) (x room : Int32) : Int32 :=
  if (f 1).toInt = (nI 1).toInt then (if nI 0 < hw_loud f h - hw_bits x 10 then hw_loud f h - hw_bits x 10 else nI 0) else if (f 1).toInt = (nI 2).toInt then (if x.toInt = 0 then hw_loud f h else hw_loud f h / nI 2) else if (f 1).toInt = (nI 3).toInt then (if (room - hw_szin f x N - hw_size f h).toInt = 0 then nI 0 else hw_loud f h) else hw_loud f h
def hw_unhB (f : Nat → Int32) (N h q s : Nat) : Bool := !(s.testBit h) && (hw_fitB f N h q (nI s) (f (10 + 2 * q)) && decide ((hw_hear f N h (nI s) (f (10 + 2 * q))).toInt ≤ (f 2).toInt))
def hw_okB (f : Nat → Int32) (q s : Nat) : Nat → Bool
  | 0 => true
  | h + 1 => hw_okB f q s h && (!(s.testBit h) || decide ((hw_size f h).toInt ≤ (hw_slot f q).toInt))
def hw_holds (f : Nat → Int32) (N q s : Nat) : Bool := hw_okB f q s N && decide ((hw_szin f (nI s) N).toInt ≤ (f (10 + 2 * q)).toInt)
theorem hw_ft9 : hb_tyAt (hb_KT.getD 124 (0, 0, 0, [])) 1 = some (2, .ofNat 125, 0) := by decide +kernel
section HWR
variable {l : Launch} {D : va_G} {U : Nat → Nat} {wd : va_W} {f : Nat → Int32} {H0 : Heap}
theorem hw_in_mt (x a b : Int64) : hb_MR hb_G l hw_y_in 0 0 H0 (hw_P D U wd f) [.long x, .long a, .long b] (some (.int (hw_b (hw_in x a b)))) := by
  refine hb_Renter (by decide) (Nat.le_of_ble_eq_true rfl) ?_
  intro p e s m below meth c ls hBd he hps hl
  obtain ⟨hx, hb, hml, hown, hlocks, hret, hTw⟩ := id hBd
  refine lv_lload_n hx hb hw_d_in_0 rfl (lv_at hl 0 rfl) ?_
  refine lv_lload_n hx hb hw_d_in_1 rfl (lv_at hl 1 rfl) ?_
  refine W.lcmp hx hb hw_d_in_2 ?_
  refine hb_row_if (tgt := 17) hx hb hw_d_in_3 (by decide) (fun c1 => ?_) (fun c1 => ?_)
  · have c1 : x.toInt < a.toInt := hb_lgc _ _ _ c1
    refine lv_iconst (v := nI 0) hx hb hw_d_in_17 (by decide) ?_
    exact hw_retZ hx hb hret hlocks he hw_d_in_18 (hw_b0 (by unfold hw_in; simp; omega))
  · have c1 : a.toInt ≤ x.toInt := hb_lgc _ _ _ c1
    refine lv_lload_n hx hb hw_d_in_6 rfl (lv_at hl 0 rfl) ?_
    refine lv_lload hx hb hw_d_in_7 (lv_at hl 2 rfl) ?_
    refine W.lcmp hx hb hw_d_in_9 ?_
    refine hb_row_if (tgt := 17) hx hb hw_d_in_10 (by decide) (fun c2 => ?_) (fun c2 => ?_)
    · have c2 : b.toInt < x.toInt := hb_lgc _ _ _ c2
      refine lv_iconst (v := nI 0) hx hb hw_d_in_17 (by decide) ?_
      exact hw_retZ hx hb hret hlocks he hw_d_in_18 (hw_b0 (by unfold hw_in; simp; omega))
    · have c2 : x.toInt ≤ b.toInt := hb_lgc _ _ _ c2
      refine lv_iconst (v := nI 1) hx hb hw_d_in_13 (by decide) ?_
      refine lv_goto (tgt := 18) hx hb hw_d_in_14 (by decide) ?_
      exact hw_retZ hx hb hret hlocks he hw_d_in_18 (hw_b1 (by unfold hw_in; simp; omega))
theorem hw_isPig_mt (x : Int32) : hb_MR hb_G l hw_y_isPig 1 25 H0 (hw_P D U wd f) [.ref (U 124), .int x] (some (.int (hw_b (hw_in x.toInt64 0 (f 4 - nI 1).toInt64)))) := by
  refine hb_Renter (by decide) (Nat.le_of_ble_eq_true rfl) ?_
  intro p e s m below meth c ls hBd he hps hl
  obtain ⟨hx, hb, hml, hown, hlocks, hret, hTw⟩ := id hBd
  refine lv_iload_n hx hb hw_d_isPig_0 rfl (lv_at hl 1 rfl) ?_
  refine lv_i2l hx hb hw_d_isPig_1 rfl ?_
  refine lv_lconst (v := 0) hx hb hw_d_isPig_2 (by decide) ?_
  refine lv_aload_n hx hb hw_d_isPig_3 rfl (lv_at hl 0 rfl) ?_
  refine hw_getf (cN := 125) hx hb hown hTw hps (hw_pool hTw) hw_in9 (by decide) hw_ft9 hw_d_isPig_4 ?_
  refine lv_iconst (v := nI 4) hx hb hw_d_isPig_7 (by decide) ?_
  refine hw_wldn (k := 4) hx hb hps (by omega) hw_d_isPig_8 ?_
  refine lv_iconst (v := nI 1) hx hb hw_d_isPig_9 (by decide) ?_
  refine hw_isub (v := (f 4) - (nI 1)) hx hb hw_d_isPig_10 rfl ?_
  refine lv_i2l hx hb hw_d_isPig_11 rfl ?_
  refine hw_cS (y := hw_y_in) (As := [.long x.toInt64, .long 0, .long (((f 4) - (nI 1)).toInt64)]) (rest := []) hBd rfl hps (hw_in_mt _ _ _) hb_cd213 rfl hw_w_in ⟨Nat.le_of_ble_eq_true rfl, Nat.le_of_ble_eq_true rfl⟩ (fun sig h => by cases h; rfl) hl.1 rfl (Nat.le_of_ble_eq_true rfl) hw_d_isPig_12 ?_
  exact hw_retZ hx hb hret hlocks he hw_d_isPig_15 rfl
theorem hw_isHope_mt (x : Int32) : hb_MR hb_G l hw_y_isHope 1 25 H0 (hw_P D U wd f) [.ref (U 124), .int x] (some (.int (hw_b (hw_in x.toInt64 0 (f 5 - nI 1).toInt64)))) := by
  refine hb_Renter (by decide) (Nat.le_of_ble_eq_true rfl) ?_
  intro p e s m below meth c ls hBd he hps hl
  obtain ⟨hx, hb, hml, hown, hlocks, hret, hTw⟩ := id hBd
  refine lv_iload_n hx hb hw_d_isHope_0 rfl (lv_at hl 1 rfl) ?_
  refine lv_i2l hx hb hw_d_isHope_1 rfl ?_
  refine lv_lconst (v := 0) hx hb hw_d_isHope_2 (by decide) ?_
  refine lv_aload_n hx hb hw_d_isHope_3 rfl (lv_at hl 0 rfl) ?_
  refine hw_getf (cN := 125) hx hb hown hTw hps (hw_pool hTw) hw_in9 (by decide) hw_ft9 hw_d_isHope_4 ?_
  refine lv_iconst (v := nI 5) hx hb hw_d_isHope_7 (by decide) ?_
  refine hw_wldn (k := 5) hx hb hps (by omega) hw_d_isHope_8 ?_
  refine lv_iconst (v := nI 1) hx hb hw_d_isHope_9 (by decide) ?_
  refine hw_isub (v := (f 5) - (nI 1)) hx hb hw_d_isHope_10 rfl ?_
  refine lv_i2l hx hb hw_d_isHope_11 rfl ?_
  refine hw_cS (y := hw_y_in) (As := [.long x.toInt64, .long 0, .long (((f 5) - (nI 1)).toInt64)]) (rest := []) hBd rfl hps (hw_in_mt _ _ _) hb_cd213 rfl hw_w_in ⟨Nat.le_of_ble_eq_true rfl, Nat.le_of_ble_eq_true rfl⟩ (fun sig h => by cases h; rfl) hl.1 rfl (Nat.le_of_ble_eq_true rfl) hw_d_isHope_12 ?_
  exact hw_retZ hx hb hret hlocks he hw_d_isHope_15 rfl
theorem hw_allHopes_mt {N : Nat} (hN : f 5 = nI N) (hN8 : N ≤ 8) : hb_MR hb_G l hw_y_allHopes 0 0 H0 (hw_P D U wd f) [.ref (U 124)] (some (.int (nI (2 ^ N - 1)))) := by
  refine hb_Renter (by decide) (Nat.le_of_ble_eq_true rfl) ?_
  intro p e s m below meth c ls hBd he hps hl
  obtain ⟨hx, hb, hml, hown, hlocks, hret, hTw⟩ := id hBd
  refine lv_iconst (v := nI 1) hx hb hw_d_allHopes_0 (by decide) ?_
  refine lv_aload_n hx hb hw_d_allHopes_1 rfl (lv_at hl 0 rfl) ?_
  refine hw_getf (cN := 125) hx hb hown hTw hps (hw_pool hTw) hw_in9 (by decide) hw_ft9 hw_d_allHopes_2 ?_
  refine lv_iconst (v := nI 5) hx hb hw_d_allHopes_5 (by decide) ?_
  refine hw_wldn (k := 5) hx hb hps (by omega) hw_d_allHopes_6 ?_
  rw [hN]
  refine hw_ishl (v := nI (2 ^ N)) hx hb hw_d_allHopes_7 (hw_nshl (by omega)) ?_
  refine lv_iconst (v := nI 1) hx hb hw_d_allHopes_8 (by decide) ?_
  refine hw_isub (v := nI (2 ^ N - 1)) hx hb hw_d_allHopes_9 (hw_nsub (Nat.one_le_two_pow)) ?_
  exact hw_retI hx hb hret hlocks he hw_d_allHopes_10 rfl
theorem hw_bit_mt {s k : Nat} (hs : s < 2147483648) (hk : k < 32) : hb_MR hb_G l hw_y_bit 0 0 H0 (hw_P D U wd f) [.int (nI s), .int (nI k)] (some (.int (hw_b (s.testBit k)))) := by
  rw [← hw_bitN hs hk]
  exact hw_bit_met _ _
theorem hw_toI {x : Int32} {n : Nat} (h : x = nI n) (hn : n < 2147483648) : x.toInt = (n : Int) := by
  rw [h, nI_toInt (by omega)]
theorem hw_doesFit_mt {h q N : Nat} (x room : Int32) (hh : h < 8) (hq : q < 5) (hN : f 5 = nI N) (hN8 : N ≤ 8) : hb_MR hb_G l hw_y_doesFit 2 44 H0 (hw_P D U wd f) [.ref (U 124), .int (nI h), .int (nI q), .int x, .int room] (some (.int (hw_b (hw_fitB f N h q x room)))) := by
  refine hb_Renter (by decide) (Nat.le_of_ble_eq_true rfl) ?_
  intro p e s m below meth c ls hBd he hps hl
  obtain ⟨hx, hb, hml, hown, hlocks, hret, hTw⟩ := id hBd
  refine lv_aload_n hx hb hw_d_doesFit_0 rfl (lv_at hl 0 rfl) ?_
  refine lv_iload_n hx hb hw_d_doesFit_1 rfl (lv_at hl 1 rfl) ?_
  refine hw_cV (y := hw_y_sizeOf) (As := [.int (nI h)]) (rest := []) hBd rfl hps (hw_sizeOf_met hh) hb_cd221 rfl hw_w_sizeOf ⟨Nat.le_of_ble_eq_true rfl, Nat.le_of_ble_eq_true rfl⟩ (fun sig h => by cases h; rfl) hl.1 rfl (Nat.le_of_ble_eq_true rfl) hw_d_doesFit_2 ?_
  refine lv_aload_n hx hb hw_d_doesFit_5 rfl (lv_at hl 0 rfl) ?_
  refine lv_iload_n hx hb hw_d_doesFit_6 rfl (lv_at hl 2 rfl) ?_
  refine hw_cV (y := hw_y_slotOf) (As := [.int (nI q)]) (rest := [.int (hw_size f h)]) hBd rfl hps (hw_slotOf_met hq) hb_cd222 rfl hw_w_slotOf ⟨Nat.le_of_ble_eq_true rfl, Nat.le_of_ble_eq_true rfl⟩ (fun sig h => by cases h; rfl) hl.1 rfl (Nat.le_of_ble_eq_true rfl) hw_d_doesFit_7 ?_
  refine hb_row_icmp (tgt := 33) hx hb hw_d_doesFit_10 (by decide) (fun c3 => ?_) (fun c3 => ?_)
  · have c3 : (hw_slot f q).toInt < (hw_size f h).toInt := c3
    refine lv_iconst (v := nI 0) hx hb hw_d_doesFit_33 (by decide) ?_
    exact hw_retZ hx hb hret hlocks he hw_d_doesFit_34 (hw_b0 (by unfold hw_fitB; simp [-Int32.toInt_sub]; omega))
  · have c3 : (hw_size f h).toInt ≤ (hw_slot f q).toInt := c3
    refine lv_aload_n hx hb hw_d_doesFit_13 rfl (lv_at hl 0 rfl) ?_
    refine lv_iload_n hx hb hw_d_doesFit_14 rfl (lv_at hl 1 rfl) ?_
    refine hw_cV (y := hw_y_sizeOf) (As := [.int (nI h)]) (rest := []) hBd rfl hps (hw_sizeOf_met hh) hb_cd221 rfl hw_w_sizeOf ⟨Nat.le_of_ble_eq_true rfl, Nat.le_of_ble_eq_true rfl⟩ (fun sig h => by cases h; rfl) hl.1 rfl (Nat.le_of_ble_eq_true rfl) hw_d_doesFit_15 ?_
    refine lv_iload hx hb hw_d_doesFit_18 (lv_at hl 4 rfl) ?_
    refine lv_aload_n hx hb hw_d_doesFit_20 rfl (lv_at hl 0 rfl) ?_
    refine lv_iload_n hx hb hw_d_doesFit_21 rfl (lv_at hl 3 rfl) ?_
    refine hw_cV (y := hw_y_sizeIn) (As := [.int x]) (rest := [.int room, .int (hw_size f h)]) hBd rfl hps (hw_sizeIn_met x (hw_toI hN (by omega)) hN8) hb_cd224 rfl hw_w_sizeIn ⟨Nat.le_of_ble_eq_true rfl, Nat.le_of_ble_eq_true rfl⟩ (fun sig h => by cases h; rfl) hl.1 rfl (Nat.le_of_ble_eq_true rfl) hw_d_doesFit_22 ?_
    refine hw_isub (v := room - (hw_szin f x N)) hx hb hw_d_doesFit_25 rfl ?_
    refine hb_row_icmp (tgt := 33) hx hb hw_d_doesFit_26 (by decide) (fun c4 => ?_) (fun c4 => ?_)
    · have c4 : (room - (hw_szin f x N)).toInt < (hw_size f h).toInt := c4
      refine lv_iconst (v := nI 0) hx hb hw_d_doesFit_33 (by decide) ?_
      exact hw_retZ hx hb hret hlocks he hw_d_doesFit_34 (hw_b0 (by unfold hw_fitB; simp [-Int32.toInt_sub]; omega))
    · have c4 : (hw_size f h).toInt ≤ (room - (hw_szin f x N)).toInt := c4
      refine lv_iconst (v := nI 1) hx hb hw_d_doesFit_29 (by decide) ?_
      refine lv_goto (tgt := 34) hx hb hw_d_doesFit_30 (by decide) ?_
      exact hw_retZ hx hb hret hlocks he hw_d_doesFit_34 (hw_b1 (by unfold hw_fitB; simp [-Int32.toInt_sub]; omega))
theorem hw_heardBy_mt {h N : Nat} (x room : Int32) (hh : h < 8) (hN : f 5 = nI N) (hN8 : N ≤ 8) : hb_MR hb_G l hw_y_heardBy 2 44 H0 (hw_P D U wd f) [.ref (U 124), .int (nI h), .int x, .int room] (some (.int (hw_hear f N h x room))) := by
  refine hb_Renter (by decide) (Nat.le_of_ble_eq_true rfl) ?_
  intro p e s m below meth c ls hBd he hps hl
  obtain ⟨hx, hb, hml, hown, hlocks, hret, hTw⟩ := id hBd
  refine lv_aload_n hx hb hw_d_heardBy_0 rfl (lv_at hl 0 rfl) ?_
  refine lv_iload_n hx hb hw_d_heardBy_1 rfl (lv_at hl 1 rfl) ?_
  refine hw_cV (y := hw_y_loudOf) (As := [.int (nI h)]) (rest := []) hBd rfl hps (hw_loudOf_met hh) hb_cd226 rfl hw_w_loudOf ⟨Nat.le_of_ble_eq_true rfl, Nat.le_of_ble_eq_true rfl⟩ (fun sig h => by cases h; rfl) hl.1 rfl (Nat.le_of_ble_eq_true rfl) hw_d_heardBy_2 ?_
  refine lv_istore (lv' := [(4, .int (hw_loud f h)), (0, .ref (U 124)), (1, .int (nI h)), (2, .int x), (3, .int room)]) hx hb hw_d_heardBy_5 hl (by decide) rfl (fun ls5 hl5 => ?_)
  refine lv_aload_n hx hb hw_d_heardBy_7 rfl (lv_at hl5 1 rfl) ?_
  refine hw_getf (cN := 125) hx hb hown hTw hps (hw_pool hTw) hw_in9 (by decide) hw_ft9 hw_d_heardBy_8 ?_
  refine lv_iconst (v := nI 1) hx hb hw_d_heardBy_11 (by decide) ?_
  refine hw_wldn (k := 1) hx hb hps (by omega) hw_d_heardBy_12 ?_
  refine lv_iconst (v := nI 1) hx hb hw_d_heardBy_13 (by decide) ?_
  refine hb_row_icmp (tgt := 29) hx hb hw_d_heardBy_14 (by decide) (fun c6 => ?_) (fun c6 => ?_)
  · have c6 : (f 1).toInt < (nI 1).toInt ∨ (nI 1).toInt < (f 1).toInt := c6
    refine lv_aload_n hx hb hw_d_heardBy_29 rfl (lv_at hl5 1 rfl) ?_
    refine hw_getf (cN := 125) hx hb hown hTw hps (hw_pool hTw) hw_in9 (by decide) hw_ft9 hw_d_heardBy_30 ?_
    refine lv_iconst (v := nI 1) hx hb hw_d_heardBy_33 (by decide) ?_
    refine hw_wldn (k := 1) hx hb hps (by omega) hw_d_heardBy_34 ?_
    refine lv_iconst (v := nI 2) hx hb hw_d_heardBy_35 (by decide) ?_
    refine hb_row_icmp (tgt := 53) hx hb hw_d_heardBy_36 (by decide) (fun c7 => ?_) (fun c7 => ?_)
    · have c7 : (f 1).toInt < (nI 2).toInt ∨ (nI 2).toInt < (f 1).toInt := c7
      refine lv_aload_n hx hb hw_d_heardBy_53 rfl (lv_at hl5 1 rfl) ?_
      refine hw_getf (cN := 125) hx hb hown hTw hps (hw_pool hTw) hw_in9 (by decide) hw_ft9 hw_d_heardBy_54 ?_
      refine lv_iconst (v := nI 1) hx hb hw_d_heardBy_57 (by decide) ?_
      refine hw_wldn (k := 1) hx hb hps (by omega) hw_d_heardBy_58 ?_
      refine lv_iconst (v := nI 3) hx hb hw_d_heardBy_59 (by decide) ?_
      refine hb_row_icmp (tgt := 83) hx hb hw_d_heardBy_60 (by decide) (fun c8 => ?_) (fun c8 => ?_)
      · have c8 : (f 1).toInt < (nI 3).toInt ∨ (nI 3).toInt < (f 1).toInt := c8
        refine lv_iload hx hb hw_d_heardBy_83 (lv_at hl5 0 rfl) ?_
        exact hw_retI hx hb hret hlocks he hw_d_heardBy_85 (by unfold hw_hear; (repeat' split) <;> first | rfl | (exfalso; omega))
      · have c8 : (f 1).toInt = (nI 3).toInt := c8
        refine lv_iload_n hx hb hw_d_heardBy_63 rfl (lv_at hl5 4 rfl) ?_
        refine lv_aload_n hx hb hw_d_heardBy_64 rfl (lv_at hl5 1 rfl) ?_
        refine lv_iload_n hx hb hw_d_heardBy_65 rfl (lv_at hl5 3 rfl) ?_
        refine hw_cV (y := hw_y_sizeIn) (As := [.int x]) (rest := [.int room]) hBd rfl hps (hw_sizeIn_met x (hw_toI hN (by omega)) hN8) hb_cd224 rfl hw_w_sizeIn ⟨Nat.le_of_ble_eq_true rfl, Nat.le_of_ble_eq_true rfl⟩ (fun sig h => by cases h; rfl) hl5.1 rfl (Nat.le_of_ble_eq_true rfl) hw_d_heardBy_66 ?_
        refine hw_isub (v := room - (hw_szin f x N)) hx hb hw_d_heardBy_69 rfl ?_
        refine lv_aload_n hx hb hw_d_heardBy_70 rfl (lv_at hl5 1 rfl) ?_
        refine lv_iload_n hx hb hw_d_heardBy_71 rfl (lv_at hl5 2 rfl) ?_
        refine hw_cV (y := hw_y_sizeOf) (As := [.int (nI h)]) (rest := [.int (room - (hw_szin f x N))]) hBd rfl hps (hw_sizeOf_met hh) hb_cd221 rfl hw_w_sizeOf ⟨Nat.le_of_ble_eq_true rfl, Nat.le_of_ble_eq_true rfl⟩ (fun sig h => by cases h; rfl) hl5.1 rfl (Nat.le_of_ble_eq_true rfl) hw_d_heardBy_72 ?_
        refine hw_isub (v := (room - (hw_szin f x N)) - (hw_size f h)) hx hb hw_d_heardBy_75 rfl ?_
        refine hb_row_if (tgt := 83) hx hb hw_d_heardBy_76 (by decide) (fun c9 => ?_) (fun c9 => ?_)
        · have c9 : ((room - (hw_szin f x N)) - (hw_size f h)).toInt < 0 ∨ 0 < ((room - (hw_szin f x N)) - (hw_size f h)).toInt := c9
          refine lv_iload hx hb hw_d_heardBy_83 (lv_at hl5 0 rfl) ?_
          exact hw_retI hx hb hret hlocks he hw_d_heardBy_85 (by unfold hw_hear; (repeat' split) <;> first | rfl | (exfalso; omega))
        · have c9 : ((room - (hw_szin f x N)) - (hw_size f h)).toInt = 0 := c9
          refine lv_iconst (v := nI 0) hx hb hw_d_heardBy_79 (by decide) ?_
          refine lv_goto (tgt := 85) hx hb hw_d_heardBy_80 (by decide) ?_
          exact hw_retI hx hb hret hlocks he hw_d_heardBy_85 (by unfold hw_hear; (repeat' split) <;> first | rfl | (exfalso; omega))
    · have c7 : (f 1).toInt = (nI 2).toInt := c7
      refine lv_iload_n hx hb hw_d_heardBy_39 rfl (lv_at hl5 3 rfl) ?_
      refine hb_row_if (tgt := 48) hx hb hw_d_heardBy_40 (by decide) (fun c10 => ?_) (fun c10 => ?_)
      · have c10 : x.toInt < 0 ∨ 0 < x.toInt := c10
        refine lv_iload hx hb hw_d_heardBy_48 (lv_at hl5 0 rfl) ?_
        refine lv_iconst (v := nI 2) hx hb hw_d_heardBy_50 (by decide) ?_
        refine hw_idiv (v := (hw_loud f h) / (nI 2)) hx hb hw_d_heardBy_51 (by decide) rfl ?_
        exact hw_retI hx hb hret hlocks he hw_d_heardBy_52 (by unfold hw_hear; (repeat' split) <;> first | rfl | (exfalso; omega))
      · have c10 : x.toInt = 0 := c10
        refine lv_iload hx hb hw_d_heardBy_43 (lv_at hl5 0 rfl) ?_
        refine lv_goto (tgt := 52) hx hb hw_d_heardBy_45 (by decide) ?_
        exact hw_retI hx hb hret hlocks he hw_d_heardBy_52 (by unfold hw_hear; (repeat' split) <;> first | rfl | (exfalso; omega))
  · have c6 : (f 1).toInt = (nI 1).toInt := c6
    refine lv_iconst (v := nI 0) hx hb hw_d_heardBy_17 (by decide) ?_
    refine lv_iload hx hb hw_d_heardBy_18 (lv_at hl5 0 rfl) ?_
    refine lv_iload_n hx hb hw_d_heardBy_20 rfl (lv_at hl5 3 rfl) ?_
    refine hw_cS (y := hw_y_bits) (As := [.int x]) (rest := [.int (hw_loud f h), .int (nI 0)]) hBd rfl hps (hw_bits_met x) hb_cd227 rfl hw_w_bits ⟨Nat.le_of_ble_eq_true rfl, Nat.le_of_ble_eq_true rfl⟩ (fun sig h => by cases h; rfl) hl5.1 rfl (Nat.le_of_ble_eq_true rfl) hw_d_heardBy_21 ?_
    refine hw_isub (v := (hw_loud f h) - (hw_bits x 10)) hx hb hw_d_heardBy_24 rfl ?_
    refine hw_max (v := if nI 0 < (hw_loud f h) - (hw_bits x 10) then (hw_loud f h) - (hw_bits x 10) else nI 0) (rest := []) hx hb hml hown hTw (by decide) hl5.1 (Nat.le_of_ble_eq_true rfl) (Nat.le_of_ble_eq_true rfl) rfl hw_d_heardBy_25 ?_
    exact hw_retI hx hb hret hlocks he hw_d_heardBy_28 (by unfold hw_hear; (repeat' split) <;> first | rfl | (exfalso; omega))
theorem hw_isUnheard_mt {h q N s0 : Nat} (hh : h < 8) (hq : q < 5) (hs : s0 < 256) (hN : f 5 = nI N) (hN8 : N ≤ 8) : hb_MR hb_G l hw_y_isUnheard 3 68 H0 (hw_P D U wd f) [.ref (U 124), .int (nI h), .int (nI q), .int (nI s0)] (some (.int (hw_b (hw_unhB f N h q s0)))) := by
  refine hb_Renter (by decide) (Nat.le_of_ble_eq_true rfl) ?_
  intro p e s m below meth c ls hBd he hps hl
  obtain ⟨hx, hb, hml, hown, hlocks, hret, hTw⟩ := id hBd
  refine lv_aload_n hx hb hw_d_isUnheard_0 rfl (lv_at hl 0 rfl) ?_
  refine hw_getf (cN := 125) hx hb hown hTw hps (hw_pool hTw) hw_in9 (by decide) hw_ft9 hw_d_isUnheard_1 ?_
  refine lv_bipush (v := nI 10) hx hb hw_d_isUnheard_4 (by decide) ?_
  refine lv_iconst (v := nI 2) hx hb hw_d_isUnheard_6 (by decide) ?_
  refine lv_iload_n hx hb hw_d_isUnheard_7 rfl (lv_at hl 2 rfl) ?_
  refine hw_imul (v := nI (2 * q)) hx hb hw_d_isUnheard_8 (hw_nmul 2 q) ?_
  refine hw_iadd (v := nI (10 + 2 * q)) hx hb hw_d_isUnheard_9 (hw_nadd 10 (2 * q)) ?_
  refine hw_wldn (k := (10 + 2 * q)) hx hb hps (by omega) hw_d_isUnheard_10 ?_
  refine lv_istore (lv' := [(4, .int (f (10 + 2 * q))), (0, .ref (U 124)), (1, .int (nI h)), (2, .int (nI q)), (3, .int (nI s0))]) hx hb hw_d_isUnheard_11 hl (by decide) rfl (fun ls11 hl11 => ?_)
  refine lv_iload_n hx hb hw_d_isUnheard_13 rfl (lv_at hl11 4 rfl) ?_
  refine lv_iload_n hx hb hw_d_isUnheard_14 rfl (lv_at hl11 2 rfl) ?_
  refine hw_cS (y := hw_y_bit) (As := [.int (nI s0), .int (nI h)]) (rest := []) hBd rfl hps (hw_bit_mt (s := s0) (k := h) (by omega) (by omega)) hb_cd223 rfl hw_w_bit ⟨Nat.le_of_ble_eq_true rfl, Nat.le_of_ble_eq_true rfl⟩ (fun sig h => by cases h; rfl) hl11.1 rfl (Nat.le_of_ble_eq_true rfl) hw_d_isUnheard_15 ?_
  refine hb_row_if (tgt := 54) hx hb hw_d_isUnheard_18 (by decide) (fun c12 => ?_) (fun c12 => ?_)
  · have c12 := hw_bt c12
    refine lv_iconst (v := nI 0) hx hb hw_d_isUnheard_54 (by decide) ?_
    exact hw_retZ hx hb hret hlocks he hw_d_isUnheard_55 (hw_b0 (by unfold hw_unhB; simp [*]))
  · have c12 := hw_bf c12
    refine lv_aload_n hx hb hw_d_isUnheard_21 rfl (lv_at hl11 1 rfl) ?_
    refine lv_iload_n hx hb hw_d_isUnheard_22 rfl (lv_at hl11 2 rfl) ?_
    refine lv_iload_n hx hb hw_d_isUnheard_23 rfl (lv_at hl11 3 rfl) ?_
    refine lv_iload_n hx hb hw_d_isUnheard_24 rfl (lv_at hl11 4 rfl) ?_
    refine lv_iload hx hb hw_d_isUnheard_25 (lv_at hl11 0 rfl) ?_
    refine hw_cV (y := hw_y_doesFit) (As := [.int (nI h), .int (nI q), .int (nI s0), .int (f (10 + 2 * q))]) (rest := []) hBd rfl hps (hw_doesFit_mt (nI s0) (f (10 + 2 * q)) hh hq hN hN8) hb_cd225 rfl hw_w_doesFit ⟨Nat.le_of_ble_eq_true rfl, Nat.le_of_ble_eq_true rfl⟩ (fun sig h => by cases h; rfl) hl11.1 rfl (Nat.le_of_ble_eq_true rfl) hw_d_isUnheard_27 ?_
    refine hb_row_if (tgt := 54) hx hb hw_d_isUnheard_30 (by decide) (fun c13 => ?_) (fun c13 => ?_)
    · have c13 := hw_bf c13
      refine lv_iconst (v := nI 0) hx hb hw_d_isUnheard_54 (by decide) ?_
      exact hw_retZ hx hb hret hlocks he hw_d_isUnheard_55 (hw_b0 (by unfold hw_unhB; simp [*]))
    · have c13 := hw_bt c13
      refine lv_aload_n hx hb hw_d_isUnheard_33 rfl (lv_at hl11 1 rfl) ?_
      refine lv_iload_n hx hb hw_d_isUnheard_34 rfl (lv_at hl11 2 rfl) ?_
      refine lv_iload_n hx hb hw_d_isUnheard_35 rfl (lv_at hl11 4 rfl) ?_
      refine lv_iload hx hb hw_d_isUnheard_36 (lv_at hl11 0 rfl) ?_
      refine hw_cV (y := hw_y_heardBy) (As := [.int (nI h), .int (nI s0), .int (f (10 + 2 * q))]) (rest := []) hBd rfl hps (hw_heardBy_mt (nI s0) (f (10 + 2 * q)) hh hN hN8) hb_cd228 rfl hw_w_heardBy ⟨Nat.le_of_ble_eq_true rfl, Nat.le_of_ble_eq_true rfl⟩ (fun sig h => by cases h; rfl) hl11.1 rfl (Nat.le_of_ble_eq_true rfl) hw_d_isUnheard_38 ?_
      refine lv_aload_n hx hb hw_d_isUnheard_41 rfl (lv_at hl11 1 rfl) ?_
      refine hw_getf (cN := 125) hx hb hown hTw hps (hw_pool hTw) hw_in9 (by decide) hw_ft9 hw_d_isUnheard_42 ?_
      refine lv_iconst (v := nI 2) hx hb hw_d_isUnheard_45 (by decide) ?_
      refine hw_wldn (k := 2) hx hb hps (by omega) hw_d_isUnheard_46 ?_
      refine hb_row_icmp (tgt := 54) hx hb hw_d_isUnheard_47 (by decide) (fun c14 => ?_) (fun c14 => ?_)
      · have c14 : (f 2).toInt < (hw_hear f N h (nI s0) (f (10 + 2 * q))).toInt := c14
        refine lv_iconst (v := nI 0) hx hb hw_d_isUnheard_54 (by decide) ?_
        exact hw_retZ hx hb hret hlocks he hw_d_isUnheard_55 (hw_b0 (by unfold hw_unhB; simp [*]))
      · have c14 : (hw_hear f N h (nI s0) (f (10 + 2 * q))).toInt ≤ (f 2).toInt := c14
        refine lv_iconst (v := nI 1) hx hb hw_d_isUnheard_50 (by decide) ?_
        refine lv_goto (tgt := 55) hx hb hw_d_isUnheard_51 (by decide) ?_
        exact hw_retZ hx hb hret hlocks he hw_d_isUnheard_55 (hw_b1 (by unfold hw_unhB; simp [*]))
theorem hw_okB_no {f : Nat → Int32} {q s k : Nat} (h : hw_okB f q s (k + 1) = false) : ∀ n, k + 1 ≤ n → hw_okB f q s n = false := by
  intro n hn
  induction n with
  | zero => omega
  | succ n ih =>
    rcases (show k + 1 ≤ n ∨ k = n by omega) with z | z
    · unfold hw_okB
      rw [ih z]
      rfl
    · subst z
      exact h
theorem hw_holdsSet_mt {q N s0 : Nat} (hq : q < 5) (hs : s0 < 256) (hN : f 5 = nI N) (hN8 : N ≤ 8) : hb_MR hb_G l hw_y_holdsSet 2 44 H0 (hw_P D U wd f) [.ref (U 124), .int (nI q), .int (nI s0)] (some (.int (hw_b (hw_holds f N q s0)))) := by
  refine hb_Renter (by decide) (Nat.le_of_ble_eq_true rfl) ?_
  intro p e s m below meth c ls hBd he hps hl
  obtain ⟨hx, hb, hml, hown, hlocks, hret, hTw⟩ := id hBd
  have go : ∀ (n k : Nat) (ls : Array Slot), k + n = N → lv_has ls hw_y_holdsSet.2.2.1 [(0, .ref (U 124)), (1, .int (nI q)), (2, .int (nI s0)), (3, .int (nI k))] → hw_okB f q s0 k = true → W p l e (hb_rmF 2 44) s m [Value.ref (U 124), Value.int (nI q), Value.int (nI s0)].toArray below meth c s.heap [] 0 0 (MQ below (hb_RO H0 (some (.int (hw_b (hw_holds f N q s0))))) [Value.ref (U 124), Value.int (nI q), Value.int (nI s0)].toArray s 0 0 (fun _ => False)) (F0 m 2 ls []) := by
    intro n
    induction n with
    | zero =>
      intro k ls hk hl hok
      have e1 : k = N := by omega
      subst e1
      refine lv_iload_n hx hb hw_d_holdsSet_2 rfl (lv_at hl 3 rfl) ?_
      refine lv_aload_n hx hb hw_d_holdsSet_3 rfl (lv_at hl 0 rfl) ?_
      refine hw_getf (cN := 125) hx hb hown hTw hps (hw_pool hTw) hw_in9 (by decide) hw_ft9 hw_d_holdsSet_4 ?_
      refine lv_iconst (v := nI 5) hx hb hw_d_holdsSet_7 (by decide) ?_
      refine hw_wldn (k := 5) hx hb hps (by omega) hw_d_holdsSet_8 ?_
      rw [hN]
      refine hb_row_icmp (tgt := 42) hx hb hw_d_holdsSet_9 (by decide) (fun c15 => ?_) (fun c15 => ?_)
      · have c15 := hw_cge c15 (by omega) (by omega)
        refine lv_aload_n hx hb hw_d_holdsSet_42 rfl (lv_at hl 0 rfl) ?_
        refine lv_iload_n hx hb hw_d_holdsSet_43 rfl (lv_at hl 2 rfl) ?_
        refine hw_cV (y := hw_y_sizeIn) (As := [.int (nI s0)]) (rest := []) hBd rfl hps (hw_sizeIn_met (nI s0) (hw_toI hN (by omega)) hN8) hb_cd224 rfl hw_w_sizeIn ⟨Nat.le_of_ble_eq_true rfl, Nat.le_of_ble_eq_true rfl⟩ (fun sig h => by cases h; rfl) hl.1 rfl (Nat.le_of_ble_eq_true rfl) hw_d_holdsSet_44 ?_
        refine lv_aload_n hx hb hw_d_holdsSet_47 rfl (lv_at hl 0 rfl) ?_
        refine hw_getf (cN := 125) hx hb hown hTw hps (hw_pool hTw) hw_in9 (by decide) hw_ft9 hw_d_holdsSet_48 ?_
        refine lv_bipush (v := nI 10) hx hb hw_d_holdsSet_51 (by decide) ?_
        refine lv_iconst (v := nI 2) hx hb hw_d_holdsSet_53 (by decide) ?_
        refine lv_iload_n hx hb hw_d_holdsSet_54 rfl (lv_at hl 1 rfl) ?_
        refine hw_imul (v := nI (2 * q)) hx hb hw_d_holdsSet_55 (hw_nmul 2 q) ?_
        refine hw_iadd (v := nI (10 + 2 * q)) hx hb hw_d_holdsSet_56 (hw_nadd 10 (2 * q)) ?_
        refine hw_wldn (k := (10 + 2 * q)) hx hb hps (by omega) hw_d_holdsSet_57 ?_
        refine hb_row_icmp (tgt := 65) hx hb hw_d_holdsSet_58 (by decide) (fun c16 => ?_) (fun c16 => ?_)
        · have c16 : (f (10 + 2 * q)).toInt < (hw_szin f (nI s0) k).toInt := c16
          refine lv_iconst (v := nI 0) hx hb hw_d_holdsSet_65 (by decide) ?_
          exact hw_retZ hx hb hret hlocks he hw_d_holdsSet_66 (hw_b0 (by unfold hw_holds; rw [hok]; simp; omega))
        · have c16 : (hw_szin f (nI s0) k).toInt ≤ (f (10 + 2 * q)).toInt := c16
          refine lv_iconst (v := nI 1) hx hb hw_d_holdsSet_61 (by decide) ?_
          refine lv_goto (tgt := 66) hx hb hw_d_holdsSet_62 (by decide) ?_
          exact hw_retZ hx hb hret hlocks he hw_d_holdsSet_66 (hw_b1 (by unfold hw_holds; rw [hok]; simp; omega))
      · have c15 := hw_clt c15 (by omega) (by omega)
        exact absurd c15 (by omega)
    | succ n ih =>
      intro k ls hk hl hok
      refine lv_iload_n hx hb hw_d_holdsSet_2 rfl (lv_at hl 3 rfl) ?_
      refine lv_aload_n hx hb hw_d_holdsSet_3 rfl (lv_at hl 0 rfl) ?_
      refine hw_getf (cN := 125) hx hb hown hTw hps (hw_pool hTw) hw_in9 (by decide) hw_ft9 hw_d_holdsSet_4 ?_
      refine lv_iconst (v := nI 5) hx hb hw_d_holdsSet_7 (by decide) ?_
      refine hw_wldn (k := 5) hx hb hps (by omega) hw_d_holdsSet_8 ?_
      rw [hN]
      refine hb_row_icmp (tgt := 42) hx hb hw_d_holdsSet_9 (by decide) (fun c17 => ?_) (fun c17 => ?_)
      · have c17 := hw_cge c17 (by omega) (by omega)
        exact absurd c17 (by omega)
      · have c17 := hw_clt c17 (by omega) (by omega)
        refine lv_iload_n hx hb hw_d_holdsSet_12 rfl (lv_at hl 2 rfl) ?_
        refine lv_iload_n hx hb hw_d_holdsSet_13 rfl (lv_at hl 3 rfl) ?_
        refine hw_cS (y := hw_y_bit) (As := [.int (nI s0), .int (nI k)]) (rest := []) hBd rfl hps (hw_bit_mt (s := s0) (k := k) (by omega) (by omega)) hb_cd223 rfl hw_w_bit ⟨Nat.le_of_ble_eq_true rfl, Nat.le_of_ble_eq_true rfl⟩ (fun sig h => by cases h; rfl) hl.1 rfl (Nat.le_of_ble_eq_true rfl) hw_d_holdsSet_14 ?_
        refine lv_iconst (v := nI 1) hx hb hw_d_holdsSet_17 (by decide) ?_
        refine hb_row_icmp (tgt := 36) hx hb hw_d_holdsSet_18 (by decide) (fun c18 => ?_) (fun c18 => ?_)
        · have c18 := hw_bof c18
          refine lv_iinc (v := nI (k + 1)) (lv' := [(3, .int (nI (k + 1))), (0, .ref (U 124)), (1, .int (nI q)), (2, .int (nI s0))]) hx hb hw_d_holdsSet_36 hl (k := 3) rfl (hw_nI1 k) (by decide) rfl (fun ls19 hl19 => ?_)
          refine lv_goto (tgt := 2) hx hb hw_d_holdsSet_39 (by decide) ?_
          exact ih (k + 1) ls19 (by omega) (lv_sub hl19 [1, 2, 3, 0] rfl) (by unfold hw_okB; rw [hok]; simp [*])
        · have c18 := hw_bot c18
          refine lv_aload_n hx hb hw_d_holdsSet_21 rfl (lv_at hl 0 rfl) ?_
          refine lv_iload_n hx hb hw_d_holdsSet_22 rfl (lv_at hl 3 rfl) ?_
          refine hw_cV (y := hw_y_sizeOf) (As := [.int (nI k)]) (rest := []) hBd rfl hps (hw_sizeOf_met (h := k) (by omega)) hb_cd221 rfl hw_w_sizeOf ⟨Nat.le_of_ble_eq_true rfl, Nat.le_of_ble_eq_true rfl⟩ (fun sig h => by cases h; rfl) hl.1 rfl (Nat.le_of_ble_eq_true rfl) hw_d_holdsSet_23 ?_
          refine lv_aload_n hx hb hw_d_holdsSet_26 rfl (lv_at hl 0 rfl) ?_
          refine lv_iload_n hx hb hw_d_holdsSet_27 rfl (lv_at hl 1 rfl) ?_
          refine hw_cV (y := hw_y_slotOf) (As := [.int (nI q)]) (rest := [.int (hw_size f k)]) hBd rfl hps (hw_slotOf_met hq) hb_cd222 rfl hw_w_slotOf ⟨Nat.le_of_ble_eq_true rfl, Nat.le_of_ble_eq_true rfl⟩ (fun sig h => by cases h; rfl) hl.1 rfl (Nat.le_of_ble_eq_true rfl) hw_d_holdsSet_28 ?_
          refine hb_row_icmp (tgt := 36) hx hb hw_d_holdsSet_31 (by decide) (fun c20 => ?_) (fun c20 => ?_)
          · have c20 : (hw_size f k).toInt ≤ (hw_slot f q).toInt := c20
            refine lv_iinc (v := nI (k + 1)) (lv' := [(3, .int (nI (k + 1))), (0, .ref (U 124)), (1, .int (nI q)), (2, .int (nI s0))]) hx hb hw_d_holdsSet_36 hl (k := 3) rfl (hw_nI1 k) (by decide) rfl (fun ls21 hl21 => ?_)
            refine lv_goto (tgt := 2) hx hb hw_d_holdsSet_39 (by decide) ?_
            exact ih (k + 1) ls21 (by omega) (lv_sub hl21 [1, 2, 3, 0] rfl) (by unfold hw_okB; rw [hok]; simp [*])
          · have c20 : (hw_slot f q).toInt < (hw_size f k).toInt := c20
            refine lv_iconst (v := nI 0) hx hb hw_d_holdsSet_34 (by decide) ?_
            exact hw_retZ hx hb hret hlocks he hw_d_holdsSet_35 (hw_b0 (by unfold hw_holds; rw [hw_okB_no (k := k) (by unfold hw_okB; rw [hok]; simp [*]) N (by omega)]; rfl))
  refine lv_iconst (v := nI 0) hx hb hw_d_holdsSet_0 (by decide) ?_
  refine lv_istore_n (lv' := [(3, .int (nI 0)), (0, .ref (U 124)), (1, .int (nI q)), (2, .int (nI s0))]) hx hb hw_d_holdsSet_1 rfl hl (by decide) rfl (fun ls22 hl22 => ?_)
  exact go N 0 ls22 (by omega) (lv_sub hl22 [1, 2, 3, 0] rfl) rfl
end HWR
