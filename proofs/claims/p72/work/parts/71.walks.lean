section HWC
variable {p : Program} {l : Launch} {e : Env} {R : Room} {s : State} {m : MethodId} {args : Array Value} {below : List Frame} {meth : Method} {c : Code} {Q : State → Prop} {pc : Nat} {D : va_G} {U : Nat → Nat} {wd : va_W} {f : Nat → Int32} {y y0 : hbY} {ls : Array Slot} {rest st As : List Value} {fr lo idx i0 i1 i2 i3 : Nat} {r : Option Value}
/-- a call of one of the model's own methods that only read -/
theorem hw_cV (hBd : hb_Bd hb_G y0 p s m args meth c) (hc0 : y0.1.cls = "HopeBankModel") (h : hw_P D U wd f s) (hM : hb_MR hb_G l y fr lo s.heap (hw_P D U wd f) (.ref (U 124) :: As) r) (hcd : Cond.code y.1 y.2.1 y.2.2.1 y.2.2.2 ∈ hb_G.2.1.1) (hcy : y.1.cls = "HopeBankModel") (hw : hw_wV idx i0 i1 i2 i3 y = true) (hR : fr + 1 ≤ R.frames ∧ 8 + (y.2.2.1 + 11) + lo ≤ R.locals) (hnp : ∀ sig, parseMethodDescriptor y.1.desc = some sig → As.length = sig.parameters.length) (hsz : ls.size = y0.2.2.1) (hst : st = As.reverse ++ .ref (U 124) :: rest) (hcat : (rest.map fun v => v.category).sum ≤ 8) (hdg : decode y0.2.1 pc = .ok (.invokevirtual idx, 3))
    (kk : W p l e R s m args below meth c s.heap [] 0 0 Q (F0 m (pc + 3) ls (r.toList ++ rest))) : W p l e R s m args below meth c s.heap [] 0 0 Q (F0 m pc ls st) := by
  obtain ⟨hx, hb, hml, hown, hlocks, hret, hTw⟩ := hBd
  obtain ⟨hw, w4⟩ := hb_and2 hw
  obtain ⟨hw, w3⟩ := hb_and2 hw
  obtain ⟨w1, w2⟩ := hb_and2 hw
  obtain ⟨fs, f1, -⟩ := hw_fld h
  have hrec := va_recv h.2.2.1 h.1 (show vwCl[12]? = some (y.1.cls, TX12, 46) by rw [hcy]; rfl) f1
  rw [hc0] at hown
  refine hb_RcV (y := y) (b := U 124) (As := As) (rest := rest) (own := "HopeBankModel") (index := idx) (A0 := fun _ => False) (H0 := s.heap) hx hb hml hown hTw hb_goodG hM hcd hR (hb_wm w1) (by rw [hcy]; decide) hnp (hb_wm w2) (hb_wm w3) (hb_wm w4) hrec hw_bl (fun V hV hW => h.mv hV hW.alike) hsz hst hcat hdg va_S.rf (fun locs1 h1 => ?_)
  have e1 := h1.no
  subst e1
  exact kk
theorem hw_cS (hBd : hb_Bd hb_G y0 p s m args meth c) (hc0 : y0.1.cls = "HopeBankModel") (h : hw_P D U wd f s) (hM : hb_MR hb_G l y fr lo s.heap (hw_P D U wd f) As r) (hcd : Cond.code y.1 y.2.1 y.2.2.1 y.2.2.2 ∈ hb_G.2.1.1) (hcy : y.1.cls = "HopeBankModel") (hw : hw_wS idx i0 i1 i2 y = true) (hR : fr + 1 ≤ R.frames ∧ 8 + (y.2.2.1 + 11) + lo ≤ R.locals) (hnp : ∀ sig, parseMethodDescriptor y.1.desc = some sig → As.length = sig.parameters.length) (hsz : ls.size = y0.2.2.1) (hst : st = As.reverse ++ rest) (hcat : (rest.map fun v => v.category).sum ≤ 8) (hdg : decode y0.2.1 pc = .ok (.invokestatic idx, 3))
    (kk : W p l e R s m args below meth c s.heap [] 0 0 Q (F0 m (pc + 3) ls (r.toList ++ rest))) : W p l e R s m args below meth c s.heap [] 0 0 Q (F0 m pc ls st) := by
  obtain ⟨hx, hb, hml, hown, hlocks, hret, hTw⟩ := hBd
  obtain ⟨hw, w3⟩ := hb_and2 hw
  obtain ⟨w1, w2⟩ := hb_and2 hw
  rw [hc0] at hown
  refine hb_RcS (y := y) (As := As) (rest := rest) (own := "HopeBankModel") (index := idx) (A0 := fun _ => False) (H0 := s.heap) hx hb hml hown hTw hb_goodG hM hcd hR (hb_wm w1) (by rw [hcy]; decide) hnp (hb_wm w2) (hb_wm w3) hw_bl (fun V hV hW => h.mv hV hW.alike) hsz hst hcat hdg va_S.rf (fun locs1 h1 => ?_)
  have e1 := h1.no
  subst e1
  exact kk
end HWC
section HWM
variable {l : Launch} {D : va_G} {U : Nat → Nat} {wd : va_W} {f : Nat → Int32} {H0 : Heap}
theorem hw_bit_met (x k : Int32) : hb_MR hb_G l hw_y_bit 0 0 H0 (hw_P D U wd f) [.int x, .int k] (some (.int (hw_bit x k))) := by
  refine hb_Renter (by decide) (Nat.le_of_ble_eq_true rfl) ?_
  intro p e s m below meth c ls hBd hh hps hl
  obtain ⟨hx, hb, hml, hown, hlocks, hret, hTw⟩ := hBd
  obtain ⟨r1, r2⟩ := hb_Rend (args := [Value.int x, Value.int k].toArray) (r := some (.int (hw_bit x k))) hh
  refine lv_iload_n hx hb hw_d_bit_0 rfl (lv_at hl 0 rfl) ?_
  refine lv_iload_n hx hb hw_d_bit_1 rfl (lv_at hl 1 rfl) ?_
  refine lv_ishr hx hb hw_d_bit_2 ?_
  refine lv_iconst (v := 1) hx hb hw_d_bit_3 (by decide) ?_
  refine lv_iand hx hb hw_d_bit_4 ?_
  exact W.iret hx hb hret r1 r2 hw_d_bit_5 hlocks
/-- 20 + 3 h, and their like, as an index -/
theorem hw_ix (a b h : Nat) (hh : a + b * h < 122) : (nI a + nI b * nI h).toInt = ((a + b * h : Nat) : Int) := by
  have hb : b * h < 122 := by omega
  have e1 : (nI b * nI h).toInt = ((b * h : Nat) : Int) := by
    rw [show nI b * nI h = nI (b * h) by unfold nI; exact (Int32.ofNat_mul b h).symm, nI_toInt (by omega)]
  rw [fb_addI (by rw [e1, nI_toInt (by omega)]; omega) (by rw [e1, nI_toInt (by omega)]; omega), e1, nI_toInt (by omega)]
  omega
theorem hw_in9 : (9, 12, 1, 9) ∈ hb_PL12.1 := by decide +kernel
theorem hw_sizeOf_met {h : Nat} (hh : h < 8) : hb_MR hb_G l hw_y_sizeOf 0 0 H0 (hw_P D U wd f) [.ref (U 124), .int (nI h)] (some (.int (hw_size f h))) := by
  refine hb_Renter (by decide) (Nat.le_of_ble_eq_true rfl) ?_
  intro p e s m below meth c ls hBd he hps hl
  obtain ⟨hx, hb, hml, hown, hlocks, hret, hTw⟩ := hBd
  obtain ⟨r1, r2⟩ := hb_Rend (args := [Value.ref (U 124), Value.int (nI h)].toArray) (r := some (.int (hw_size f h))) he
  refine lv_aload_n hx hb hw_d_sizeOf_0 rfl (lv_at hl 0 rfl) ?_
  refine hw_getf (cN := 125) hx hb hown hTw hps (hw_pool hTw) hw_in9 (by decide) (by decide +kernel) hw_d_sizeOf_1 ?_
  refine lv_bipush (v := nI 20) hx hb hw_d_sizeOf_4 (by decide) ?_
  refine lv_iconst (v := nI 3) hx hb hw_d_sizeOf_6 (by decide) ?_
  refine lv_iload_n hx hb hw_d_sizeOf_7 rfl (lv_at hl 1 rfl) ?_
  refine lv_imul hx hb hw_d_sizeOf_8 ?_
  refine lv_iadd hx hb hw_d_sizeOf_9 ?_
  have ei := hw_ix 20 3 h (by omega)
  refine hw_wld hx hb hps (by rw [ei]; omega) (by rw [ei]; omega) hw_d_sizeOf_10 ?_
  rw [show (nI 20 + nI 3 * nI h).toInt.toNat = 20 + 3 * h by rw [ei]; omega]
  exact W.iret hx hb hret r1 r2 hw_d_sizeOf_11 hlocks
theorem hw_loudOf_met {h : Nat} (hh : h < 8) : hb_MR hb_G l hw_y_loudOf 0 0 H0 (hw_P D U wd f) [.ref (U 124), .int (nI h)] (some (.int (hw_loud f h))) := by
  refine hb_Renter (by decide) (Nat.le_of_ble_eq_true rfl) ?_
  intro p e s m below meth c ls hBd he hps hl
  obtain ⟨hx, hb, hml, hown, hlocks, hret, hTw⟩ := hBd
  obtain ⟨r1, r2⟩ := hb_Rend (args := [Value.ref (U 124), Value.int (nI h)].toArray) (r := some (.int (hw_loud f h))) he
  refine lv_aload_n hx hb hw_d_loudOf_0 rfl (lv_at hl 0 rfl) ?_
  refine hw_getf (cN := 125) hx hb hown hTw hps (hw_pool hTw) hw_in9 (by decide) (by decide +kernel) hw_d_loudOf_1 ?_
  refine lv_bipush (v := nI 20) hx hb hw_d_loudOf_4 (by decide) ?_
  refine lv_iconst (v := nI 3) hx hb hw_d_loudOf_6 (by decide) ?_
  refine lv_iload_n hx hb hw_d_loudOf_7 rfl (lv_at hl 1 rfl) ?_
  refine lv_imul hx hb hw_d_loudOf_8 ?_
  refine lv_iadd hx hb hw_d_loudOf_9 ?_
  refine lv_iconst (v := nI 1) hx hb hw_d_loudOf_10 (by decide) ?_
  refine lv_iadd hx hb hw_d_loudOf_11 ?_
  have ei := hw_ix 20 3 h (by omega)
  have ej : (nI 20 + nI 3 * nI h + nI 1).toInt = ((21 + 3 * h : Nat) : Int) := by
    rw [fb_addI (by rw [ei, nI_toInt (by omega)]; omega) (by rw [ei, nI_toInt (by omega)]; omega), ei, nI_toInt (by omega)]
    omega
  refine hw_wld hx hb hps (by rw [ej]; omega) (by rw [ej]; omega) hw_d_loudOf_12 ?_
  rw [show (nI 20 + nI 3 * nI h + nI 1).toInt.toNat = 21 + 3 * h by rw [ej]; omega]
  exact W.iret hx hb hret r1 r2 hw_d_loudOf_13 hlocks
theorem hw_worthOf_met {h : Nat} (hh : h < 8) : hb_MR hb_G l hw_y_worthOf 0 0 H0 (hw_P D U wd f) [.ref (U 124), .int (nI h)] (some (.int (hw_worth f h))) := by
  refine hb_Renter (by decide) (Nat.le_of_ble_eq_true rfl) ?_
  intro p e s m below meth c ls hBd he hps hl
  obtain ⟨hx, hb, hml, hown, hlocks, hret, hTw⟩ := hBd
  obtain ⟨r1, r2⟩ := hb_Rend (args := [Value.ref (U 124), Value.int (nI h)].toArray) (r := some (.int (hw_worth f h))) he
  refine lv_aload_n hx hb hw_d_worthOf_0 rfl (lv_at hl 0 rfl) ?_
  refine hw_getf (cN := 125) hx hb hown hTw hps (hw_pool hTw) hw_in9 (by decide) (by decide +kernel) hw_d_worthOf_1 ?_
  refine lv_bipush (v := nI 20) hx hb hw_d_worthOf_4 (by decide) ?_
  refine lv_iconst (v := nI 3) hx hb hw_d_worthOf_6 (by decide) ?_
  refine lv_iload_n hx hb hw_d_worthOf_7 rfl (lv_at hl 1 rfl) ?_
  refine lv_imul hx hb hw_d_worthOf_8 ?_
  refine lv_iadd hx hb hw_d_worthOf_9 ?_
  refine lv_iconst (v := nI 2) hx hb hw_d_worthOf_10 (by decide) ?_
  refine lv_iadd hx hb hw_d_worthOf_11 ?_
  have ei := hw_ix 20 3 h (by omega)
  have ej : (nI 20 + nI 3 * nI h + nI 2).toInt = ((22 + 3 * h : Nat) : Int) := by
    rw [fb_addI (by rw [ei, nI_toInt (by omega)]; omega) (by rw [ei, nI_toInt (by omega)]; omega), ei, nI_toInt (by omega)]
    omega
  refine hw_wld hx hb hps (by rw [ej]; omega) (by rw [ej]; omega) hw_d_worthOf_12 ?_
  rw [show (nI 20 + nI 3 * nI h + nI 2).toInt.toNat = 22 + 3 * h by rw [ej]; omega]
  exact W.iret hx hb hret r1 r2 hw_d_worthOf_13 hlocks
theorem hw_slotOf_met {h : Nat} (hh : h < 5) : hb_MR hb_G l hw_y_slotOf 0 0 H0 (hw_P D U wd f) [.ref (U 124), .int (nI h)] (some (.int (hw_slot f h))) := by
  refine hb_Renter (by decide) (Nat.le_of_ble_eq_true rfl) ?_
  intro p e s m below meth c ls hBd he hps hl
  obtain ⟨hx, hb, hml, hown, hlocks, hret, hTw⟩ := hBd
  obtain ⟨r1, r2⟩ := hb_Rend (args := [Value.ref (U 124), Value.int (nI h)].toArray) (r := some (.int (hw_slot f h))) he
  refine lv_aload_n hx hb hw_d_slotOf_0 rfl (lv_at hl 0 rfl) ?_
  refine hw_getf (cN := 125) hx hb hown hTw hps (hw_pool hTw) hw_in9 (by decide) (by decide +kernel) hw_d_slotOf_1 ?_
  refine lv_bipush (v := nI 10) hx hb hw_d_slotOf_4 (by decide) ?_
  refine lv_iconst (v := nI 2) hx hb hw_d_slotOf_6 (by decide) ?_
  refine lv_iload_n hx hb hw_d_slotOf_7 rfl (lv_at hl 1 rfl) ?_
  refine lv_imul hx hb hw_d_slotOf_8 ?_
  refine lv_iadd hx hb hw_d_slotOf_9 ?_
  refine lv_iconst (v := nI 1) hx hb hw_d_slotOf_10 (by decide) ?_
  refine lv_iadd hx hb hw_d_slotOf_11 ?_
  have ei := hw_ix 10 2 h (by omega)
  have ej : (nI 10 + nI 2 * nI h + nI 1).toInt = ((11 + 2 * h : Nat) : Int) := by
    rw [fb_addI (by rw [ei, nI_toInt (by omega)]; omega) (by rw [ei, nI_toInt (by omega)]; omega), ei, nI_toInt (by omega)]
    omega
  refine hw_wld hx hb hps (by rw [ej]; omega) (by rw [ej]; omega) hw_d_slotOf_12 ?_
  rw [show (nI 10 + nI 2 * nI h + nI 1).toInt.toNat = 11 + 2 * h by rw [ej]; omega]
  exact W.iret hx hb hret r1 r2 hw_d_slotOf_13 hlocks
theorem hw_nI1 (k : Nat) : nI k + 1 = nI (k + 1) := nI_1 k
theorem hw_bits_met (x : Int32) : hb_MR hb_G l hw_y_bits 0 0 H0 (hw_P D U wd f) [.int x] (some (.int (hw_bits x 10))) := by
  refine hb_Renter (by decide) (Nat.le_of_ble_eq_true rfl) ?_
  intro p e s m below meth c ls hBd he hps hl
  obtain ⟨hx, hb, hml, hown, hlocks, hret, hTw⟩ := hBd
  obtain ⟨r1, r2⟩ := hb_Rend (args := [Value.int x].toArray) (r := some (.int (hw_bits x 10))) he
  have go : ∀ (n k : Nat) (ls : Array Slot), k + n = 10 → lv_has ls 3 [(0, .int x), (1, .int (hw_bits x k)), (2, .int (nI k))] → W p l e (hb_rmF 0 0) s m [Value.int x].toArray below meth c s.heap [] 0 0 (MQ below (hb_RO H0 (some (.int (hw_bits x 10)))) [Value.int x].toArray s 0 0 (fun _ => False)) (F0 m 4 ls []) := by
    intro n
    induction n with
    | zero =>
      intro k ls hk hl
      have e1 : k = 10 := by omega
      subst e1
      refine lv_iload_n hx hb hw_d_bits_4 rfl (lv_at hl 2 rfl) ?_
      refine lv_bipush (v := nI 10) hx hb hw_d_bits_5 (by decide) ?_
      refine hb_row_icmp (tgt := 24) hx hb hw_d_bits_7 (by decide) (fun _ => ?_) (fun q => absurd (show (nI 10).toInt < (nI 10).toInt from q) (by omega))
      refine lv_iload_n hx hb hw_d_bits_24 rfl (lv_at hl 1 rfl) ?_
      exact W.iret hx hb hret r1 r2 hw_d_bits_25 hlocks
    | succ n ih =>
      intro k ls hk hl
      refine lv_iload_n hx hb hw_d_bits_4 rfl (lv_at hl 2 rfl) ?_
      refine lv_bipush (v := nI 10) hx hb hw_d_bits_5 (by decide) ?_
      refine hb_row_icmp (tgt := 24) hx hb hw_d_bits_7 (by decide) (fun q => absurd (show (nI 10).toInt ≤ (nI k).toInt from q) (by rw [nI_toInt (by omega), nI_toInt (by omega)]; omega)) (fun _ => ?_)
      refine lv_iload_n hx hb hw_d_bits_10 rfl (lv_at hl 1 rfl) ?_
      refine lv_iload_n hx hb hw_d_bits_11 rfl (lv_at hl 0 rfl) ?_
      refine lv_iload_n hx hb hw_d_bits_12 rfl (lv_at hl 2 rfl) ?_
      refine lv_ishr hx hb hw_d_bits_13 ?_
      refine lv_iconst (v := 1) hx hb hw_d_bits_14 (by decide) ?_
      refine lv_iand hx hb hw_d_bits_15 ?_
      refine lv_iadd hx hb hw_d_bits_16 ?_
      refine lv_istore_n (lv' := [(1, .int (hw_bits x (k + 1))), (0, .int x), (2, .int (nI k))]) hx hb hw_d_bits_17 rfl hl (by decide) rfl (fun ls1 hl1 => ?_)
      refine lv_iinc (v := nI (k + 1)) (lv' := [(2, .int (nI (k + 1))), (1, .int (hw_bits x (k + 1))), (0, .int x)]) hx hb hw_d_bits_18 hl1 (k := 2) rfl (hw_nI1 k) (by decide) rfl (fun ls2 hl2 => ?_)
      refine lv_goto (tgt := 4) hx hb hw_d_bits_21 (by decide) ?_
      exact ih (k + 1) ls2 (by omega) (lv_sub hl2 [2, 1, 0] rfl)
  refine lv_iconst (v := 0) hx hb hw_d_bits_0 (by decide) ?_
  refine lv_istore_n (lv' := [(1, .int 0), (0, .int x)]) hx hb hw_d_bits_1 rfl hl (by decide) rfl (fun ls1 hl1 => ?_)
  refine lv_iconst (v := nI 0) hx hb hw_d_bits_2 (by decide) ?_
  refine lv_istore_n (lv' := [(2, .int (nI 0)), (1, .int 0), (0, .int x)]) hx hb hw_d_bits_3 rfl hl1 (by decide) rfl (fun ls2 hl2 => ?_)
  exact go 10 0 ls2 rfl (lv_sub hl2 [2, 1, 0] rfl)
theorem hw_sizeIn_met (x : Int32) {N : Nat} (hN : (f 5).toInt = (N : Int)) (hN8 : N ≤ 8) : hb_MR hb_G l hw_y_sizeIn 1 21 H0 (hw_P D U wd f) [.ref (U 124), .int x] (some (.int (hw_szin f x N))) := by
  refine hb_Renter (by decide) (Nat.le_of_ble_eq_true rfl) ?_
  intro p e s m below meth c ls hBd he hps hl
  obtain ⟨hx, hb, hml, hown, hlocks, hret, hTw⟩ := id hBd
  obtain ⟨r1, r2⟩ := hb_Rend (args := [Value.ref (U 124), Value.int x].toArray) (r := some (.int (hw_szin f x N))) he
  have go : ∀ (n k : Nat) (ls : Array Slot), k + n = N → lv_has ls 4 [(0, .ref (U 124)), (1, .int x), (2, .int (hw_szin f x k)), (3, .int (nI k))] → W p l e (hb_rmF 1 21) s m [Value.ref (U 124), Value.int x].toArray below meth c s.heap [] 0 0 (MQ below (hb_RO H0 (some (.int (hw_szin f x N)))) [Value.ref (U 124), Value.int x].toArray s 0 0 (fun _ => False)) (F0 m 4 ls []) := by
    intro n
    induction n with
    | zero =>
      intro k ls hk hl
      have e1 : k = N := by omega
      subst e1
      refine lv_iload_n hx hb hw_d_sizeIn_4 rfl (lv_at hl 3 rfl) ?_
      refine lv_aload_n hx hb hw_d_sizeIn_5 rfl (lv_at hl 0 rfl) ?_
      refine hw_getf (cN := 125) hx hb hown hTw hps (hw_pool hTw) hw_in9 (by decide) (by decide +kernel) hw_d_sizeIn_6 ?_
      refine lv_iconst (v := nI 5) hx hb hw_d_sizeIn_9 (by decide) ?_
      refine hw_wld (i := nI 5) hx hb hps (by decide) (by decide) hw_d_sizeIn_10 ?_
      refine hb_row_icmp (tgt := 34) hx hb hw_d_sizeIn_11 (by decide) (fun _ => ?_) (fun q => absurd (show (nI k).toInt < (f 5).toInt from q) (by rw [hN, nI_toInt (by omega)]; omega))
      refine lv_iload_n hx hb hw_d_sizeIn_34 rfl (lv_at hl 2 rfl) ?_
      exact W.iret hx hb hret r1 r2 hw_d_sizeIn_35 hlocks
    | succ n ih =>
      intro k ls hk hl
      refine lv_iload_n hx hb hw_d_sizeIn_4 rfl (lv_at hl 3 rfl) ?_
      refine lv_aload_n hx hb hw_d_sizeIn_5 rfl (lv_at hl 0 rfl) ?_
      refine hw_getf (cN := 125) hx hb hown hTw hps (hw_pool hTw) hw_in9 (by decide) (by decide +kernel) hw_d_sizeIn_6 ?_
      refine lv_iconst (v := nI 5) hx hb hw_d_sizeIn_9 (by decide) ?_
      refine hw_wld (i := nI 5) hx hb hps (by decide) (by decide) hw_d_sizeIn_10 ?_
      refine hb_row_icmp (tgt := 34) hx hb hw_d_sizeIn_11 (by decide) (fun q => absurd (show (f 5).toInt ≤ (nI k).toInt from q) (by rw [hN, nI_toInt (by omega)]; omega)) (fun _ => ?_)
      refine lv_iload_n hx hb hw_d_sizeIn_14 rfl (lv_at hl 2 rfl) ?_
      refine lv_iload_n hx hb hw_d_sizeIn_15 rfl (lv_at hl 1 rfl) ?_
      refine lv_iload_n hx hb hw_d_sizeIn_16 rfl (lv_at hl 3 rfl) ?_
      refine hw_cS (y := hw_y_bit) (As := [.int x, .int (nI k)]) (rest := [.int (hw_szin f x k)]) hBd rfl hps (hw_bit_met x (nI k)) hb_cd223 rfl hw_w_bit ⟨Nat.le_of_ble_eq_true rfl, Nat.le_of_ble_eq_true rfl⟩ (fun sig h => by cases h; rfl) hl.1 rfl (Nat.le_of_ble_eq_true rfl) hw_d_sizeIn_17 ?_
      refine lv_aload_n hx hb hw_d_sizeIn_20 rfl (lv_at hl 0 rfl) ?_
      refine lv_iload_n hx hb hw_d_sizeIn_21 rfl (lv_at hl 3 rfl) ?_
      refine hw_cV (y := hw_y_sizeOf) (As := [.int (nI k)]) (rest := [.int (hw_bit x (nI k)), .int (hw_szin f x k)]) hBd rfl hps (hw_sizeOf_met (h := k) (by omega)) hb_cd221 rfl hw_w_sizeOf ⟨Nat.le_of_ble_eq_true rfl, Nat.le_of_ble_eq_true rfl⟩ (fun sig h => by cases h; rfl) hl.1 rfl (Nat.le_of_ble_eq_true rfl) hw_d_sizeIn_22 ?_
      refine lv_imul hx hb hw_d_sizeIn_25 ?_
      refine lv_iadd hx hb hw_d_sizeIn_26 ?_
      refine lv_istore_n (lv' := [(2, .int (hw_szin f x (k + 1))), (0, .ref (U 124)), (1, .int x), (3, .int (nI k))]) hx hb hw_d_sizeIn_27 rfl hl (by decide) rfl (fun ls1 hl1 => ?_)
      refine lv_iinc (v := nI (k + 1)) (lv' := [(3, .int (nI (k + 1))), (2, .int (hw_szin f x (k + 1))), (0, .ref (U 124)), (1, .int x)]) hx hb hw_d_sizeIn_28 hl1 (k := 3) rfl (hw_nI1 k) (by decide) rfl (fun ls2 hl2 => ?_)
      refine lv_goto (tgt := 4) hx hb hw_d_sizeIn_31 (by decide) ?_
      exact ih (k + 1) ls2 (by omega) (lv_sub hl2 [2, 3, 1, 0] rfl)
  refine lv_iconst (v := 0) hx hb hw_d_sizeIn_0 (by decide) ?_
  refine lv_istore_n (lv' := [(2, .int 0), (0, .ref (U 124)), (1, .int x)]) hx hb hw_d_sizeIn_1 rfl hl (by decide) rfl (fun ls1 hl1 => ?_)
  refine lv_iconst (v := nI 0) hx hb hw_d_sizeIn_2 (by decide) ?_
  refine lv_istore_n (lv' := [(3, .int (nI 0)), (2, .int 0), (0, .ref (U 124)), (1, .int x)]) hx hb hw_d_sizeIn_3 rfl hl1 (by decide) rfl (fun ls2 hl2 => ?_)
  exact go N 0 ls2 (by omega) (lv_sub hl2 [2, 3, 1, 0] rfl)
theorem hw_worthIn_met (x : Int32) {N : Nat} (hN : (f 5).toInt = (N : Int)) (hN8 : N ≤ 8) : hb_MR hb_G l hw_y_worthIn 1 21 H0 (hw_P D U wd f) [.ref (U 124), .int x] (some (.int (hw_wtin f x N))) := by
  refine hb_Renter (by decide) (Nat.le_of_ble_eq_true rfl) ?_
  intro p e s m below meth c ls hBd he hps hl
  obtain ⟨hx, hb, hml, hown, hlocks, hret, hTw⟩ := id hBd
  obtain ⟨r1, r2⟩ := hb_Rend (args := [Value.ref (U 124), Value.int x].toArray) (r := some (.int (hw_wtin f x N))) he
  have go : ∀ (n k : Nat) (ls : Array Slot), k + n = N → lv_has ls 4 [(0, .ref (U 124)), (1, .int x), (2, .int (hw_wtin f x k)), (3, .int (nI k))] → W p l e (hb_rmF 1 21) s m [Value.ref (U 124), Value.int x].toArray below meth c s.heap [] 0 0 (MQ below (hb_RO H0 (some (.int (hw_wtin f x N)))) [Value.ref (U 124), Value.int x].toArray s 0 0 (fun _ => False)) (F0 m 4 ls []) := by
    intro n
    induction n with
    | zero =>
      intro k ls hk hl
      have e1 : k = N := by omega
      subst e1
      refine lv_iload_n hx hb hw_d_worthIn_4 rfl (lv_at hl 3 rfl) ?_
      refine lv_aload_n hx hb hw_d_worthIn_5 rfl (lv_at hl 0 rfl) ?_
      refine hw_getf (cN := 125) hx hb hown hTw hps (hw_pool hTw) hw_in9 (by decide) (by decide +kernel) hw_d_worthIn_6 ?_
      refine lv_iconst (v := nI 5) hx hb hw_d_worthIn_9 (by decide) ?_
      refine hw_wld (i := nI 5) hx hb hps (by decide) (by decide) hw_d_worthIn_10 ?_
      refine hb_row_icmp (tgt := 34) hx hb hw_d_worthIn_11 (by decide) (fun _ => ?_) (fun q => absurd (show (nI k).toInt < (f 5).toInt from q) (by rw [hN, nI_toInt (by omega)]; omega))
      refine lv_iload_n hx hb hw_d_worthIn_34 rfl (lv_at hl 2 rfl) ?_
      exact W.iret hx hb hret r1 r2 hw_d_worthIn_35 hlocks
    | succ n ih =>
      intro k ls hk hl
      refine lv_iload_n hx hb hw_d_worthIn_4 rfl (lv_at hl 3 rfl) ?_
      refine lv_aload_n hx hb hw_d_worthIn_5 rfl (lv_at hl 0 rfl) ?_
      refine hw_getf (cN := 125) hx hb hown hTw hps (hw_pool hTw) hw_in9 (by decide) (by decide +kernel) hw_d_worthIn_6 ?_
      refine lv_iconst (v := nI 5) hx hb hw_d_worthIn_9 (by decide) ?_
      refine hw_wld (i := nI 5) hx hb hps (by decide) (by decide) hw_d_worthIn_10 ?_
      refine hb_row_icmp (tgt := 34) hx hb hw_d_worthIn_11 (by decide) (fun q => absurd (show (f 5).toInt ≤ (nI k).toInt from q) (by rw [hN, nI_toInt (by omega)]; omega)) (fun _ => ?_)
      refine lv_iload_n hx hb hw_d_worthIn_14 rfl (lv_at hl 2 rfl) ?_
      refine lv_iload_n hx hb hw_d_worthIn_15 rfl (lv_at hl 1 rfl) ?_
      refine lv_iload_n hx hb hw_d_worthIn_16 rfl (lv_at hl 3 rfl) ?_
      refine hw_cS (y := hw_y_bit) (As := [.int x, .int (nI k)]) (rest := [.int (hw_wtin f x k)]) hBd rfl hps (hw_bit_met x (nI k)) hb_cd223 rfl hw_w_bit ⟨Nat.le_of_ble_eq_true rfl, Nat.le_of_ble_eq_true rfl⟩ (fun sig h => by cases h; rfl) hl.1 rfl (Nat.le_of_ble_eq_true rfl) hw_d_worthIn_17 ?_
      refine lv_aload_n hx hb hw_d_worthIn_20 rfl (lv_at hl 0 rfl) ?_
      refine lv_iload_n hx hb hw_d_worthIn_21 rfl (lv_at hl 3 rfl) ?_
      refine hw_cV (y := hw_y_worthOf) (As := [.int (nI k)]) (rest := [.int (hw_bit x (nI k)), .int (hw_wtin f x k)]) hBd rfl hps (hw_worthOf_met (h := k) (by omega)) hb_cd272 rfl hw_w_worthOf ⟨Nat.le_of_ble_eq_true rfl, Nat.le_of_ble_eq_true rfl⟩ (fun sig h => by cases h; rfl) hl.1 rfl (Nat.le_of_ble_eq_true rfl) hw_d_worthIn_22 ?_
      refine lv_imul hx hb hw_d_worthIn_25 ?_
      refine lv_iadd hx hb hw_d_worthIn_26 ?_
      refine lv_istore_n (lv' := [(2, .int (hw_wtin f x (k + 1))), (0, .ref (U 124)), (1, .int x), (3, .int (nI k))]) hx hb hw_d_worthIn_27 rfl hl (by decide) rfl (fun ls1 hl1 => ?_)
      refine lv_iinc (v := nI (k + 1)) (lv' := [(3, .int (nI (k + 1))), (2, .int (hw_wtin f x (k + 1))), (0, .ref (U 124)), (1, .int x)]) hx hb hw_d_worthIn_28 hl1 (k := 3) rfl (hw_nI1 k) (by decide) rfl (fun ls2 hl2 => ?_)
      refine lv_goto (tgt := 4) hx hb hw_d_worthIn_31 (by decide) ?_
      exact ih (k + 1) ls2 (by omega) (lv_sub hl2 [2, 3, 1, 0] rfl)
  refine lv_iconst (v := 0) hx hb hw_d_worthIn_0 (by decide) ?_
  refine lv_istore_n (lv' := [(2, .int 0), (0, .ref (U 124)), (1, .int x)]) hx hb hw_d_worthIn_1 rfl hl (by decide) rfl (fun ls1 hl1 => ?_)
  refine lv_iconst (v := nI 0) hx hb hw_d_worthIn_2 (by decide) ?_
  refine lv_istore_n (lv' := [(3, .int (nI 0)), (2, .int 0), (0, .ref (U 124)), (1, .int x)]) hx hb hw_d_worthIn_3 rfl hl1 (by decide) rfl (fun ls2 hl2 => ?_)
  exact go N 0 ls2 (by omega) (lv_sub hl2 [2, 3, 1, 0] rfl)
/-- sizes compared on the machine are sizes compared -/
theorem hw_gt {x y : Int32} (h : y.toInt < x.toInt) : x > y := Int32.lt_iff_toInt_lt.mpr h
theorem hw_ngt {x y : Int32} (h : x.toInt ≤ y.toInt) : ¬ x > y := fun q => by have := Int32.lt_iff_toInt_lt.mp q; omega
theorem hw_doesFit_met {h q N : Nat} (x room : Int32) (hh : h < 8) (hq : q < 5) (hN : (f 5).toInt = (N : Int)) (hN8 : N ≤ 8) : hb_MR hb_G l hw_y_doesFit 2 44 H0 (hw_P D U wd f) [.ref (U 124), .int (nI h), .int (nI q), .int x, .int room] (some (.int (hw_fit f N h q x room))) := by
  refine hb_Renter (by decide) (Nat.le_of_ble_eq_true rfl) ?_
  intro p e s m below meth c ls hBd he hps hl
  obtain ⟨hx, hb, hml, hown, hlocks, hret, hTw⟩ := id hBd
  obtain ⟨r1, r2⟩ := hb_Rend (args := [Value.ref (U 124), Value.int (nI h), Value.int (nI q), Value.int x, Value.int room].toArray) (r := some (.int (hw_fit f N h q x room))) he
  refine lv_aload_n hx hb hw_d_doesFit_0 rfl (lv_at hl 0 rfl) ?_
  refine lv_iload_n hx hb hw_d_doesFit_1 rfl (lv_at hl 1 rfl) ?_
  refine hw_cV (y := hw_y_sizeOf) (As := [.int (nI h)]) (rest := []) hBd rfl hps (hw_sizeOf_met hh) hb_cd221 rfl hw_w_sizeOf ⟨Nat.le_of_ble_eq_true rfl, Nat.le_of_ble_eq_true rfl⟩ (fun sig h => by cases h; rfl) hl.1 rfl (Nat.le_of_ble_eq_true rfl) hw_d_doesFit_2 ?_
  refine lv_aload_n hx hb hw_d_doesFit_5 rfl (lv_at hl 0 rfl) ?_
  refine lv_iload_n hx hb hw_d_doesFit_6 rfl (lv_at hl 2 rfl) ?_
  refine hw_cV (y := hw_y_slotOf) (As := [.int (nI q)]) (rest := [.int (hw_size f h)]) hBd rfl hps (hw_slotOf_met hq) hb_cd222 rfl hw_w_slotOf ⟨Nat.le_of_ble_eq_true rfl, Nat.le_of_ble_eq_true rfl⟩ (fun sig h => by cases h; rfl) hl.1 rfl (Nat.le_of_ble_eq_true rfl) hw_d_doesFit_7 ?_
  refine hb_row_icmp (tgt := 33) hx hb hw_d_doesFit_10 (by decide) (fun c1 => ?_) (fun c1 => ?_)
  · have ev : hw_fit f N h q x room = 0 := by unfold hw_fit; rw [if_pos (hw_gt c1)]
    rw [ev] at r1
    refine lv_iconst (v := 0) hx hb hw_d_doesFit_33 (by decide) ?_
    rw [ev]
    exact W.zret hx hb hret (by decide) r1 r2 hw_d_doesFit_34 hlocks
  refine lv_aload_n hx hb hw_d_doesFit_13 rfl (lv_at hl 0 rfl) ?_
  refine lv_iload_n hx hb hw_d_doesFit_14 rfl (lv_at hl 1 rfl) ?_
  refine hw_cV (y := hw_y_sizeOf) (As := [.int (nI h)]) (rest := []) hBd rfl hps (hw_sizeOf_met hh) hb_cd221 rfl hw_w_sizeOf ⟨Nat.le_of_ble_eq_true rfl, Nat.le_of_ble_eq_true rfl⟩ (fun sig h => by cases h; rfl) hl.1 rfl (Nat.le_of_ble_eq_true rfl) hw_d_doesFit_15 ?_
  refine lv_iload hx hb hw_d_doesFit_18 (lv_at hl 4 rfl) ?_
  refine lv_aload_n hx hb hw_d_doesFit_20 rfl (lv_at hl 0 rfl) ?_
  refine lv_iload_n hx hb hw_d_doesFit_21 rfl (lv_at hl 3 rfl) ?_
  refine hw_cV (y := hw_y_sizeIn) (As := [.int x]) (rest := [.int room, .int (hw_size f h)]) hBd rfl hps (hw_sizeIn_met x hN hN8) hb_cd224 rfl hw_w_sizeIn ⟨Nat.le_of_ble_eq_true rfl, Nat.le_of_ble_eq_true rfl⟩ (fun sig h => by cases h; rfl) hl.1 rfl (Nat.le_of_ble_eq_true rfl) hw_d_doesFit_22 ?_
  refine lv_isub hx hb hw_d_doesFit_25 ?_
  refine hb_row_icmp (tgt := 33) hx hb hw_d_doesFit_26 (by decide) (fun c2 => ?_) (fun c2 => ?_)
  · have ev : hw_fit f N h q x room = 0 := by unfold hw_fit; rw [if_neg (hw_ngt c1), if_pos (hw_gt c2)]
    rw [ev] at r1
    refine lv_iconst (v := 0) hx hb hw_d_doesFit_33 (by decide) ?_
    rw [ev]
    exact W.zret hx hb hret (by decide) r1 r2 hw_d_doesFit_34 hlocks
  · have ev : hw_fit f N h q x room = 1 := by unfold hw_fit; rw [if_neg (hw_ngt c1), if_neg (hw_ngt c2)]
    rw [ev] at r1
    refine lv_iconst (v := 1) hx hb hw_d_doesFit_29 (by decide) ?_
    refine lv_goto (tgt := 34) hx hb hw_d_doesFit_30 (by decide) ?_
    rw [ev]
    exact W.zret hx hb hret (by decide) r1 r2 hw_d_doesFit_34 hlocks
end HWM

