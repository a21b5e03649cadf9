section HBQ
variable {p : Program} {l : Launch} {e : Env} {R : Room} {s : State} {m : MethodId} {args : Array Value} {below : List Frame} {meth : Method} {c : Code} {Q : State → Prop} {cc : ByteArray} {pc : Nat} {X : hbX} {V : hbV} {L : List (Nat × hbA)} {S : List hbA} {C : List (Nat × hbA × hbA)}
theorem hb_and2 {a b : Bool} (h : (a && b) = true) : a = true ∧ b = true := by rw [Bool.and_eq_true] at h; exact h
theorem hb_lenE {len k : Nat} (h : Nat.beq len k = true) : len = k := Nat.eq_of_beq_eq_true h
theorem hb_blt {a b : Nat} (h : Nat.blt a b = true) : a < b := Nat.le_of_ble_eq_true h
theorem hb_fin2 (n : Fin 2) : (Int64.ofNat (n : Nat)).toInt = Int.ofNat n.val := by
  match n with
  | 0 => decide
  | 1 => decide
theorem hb_i8 {n : Int} (h : (-128 : Int) ≤ n ∧ n ≤ (127 : Int)) : (Int8.ofInt n).toInt32.toInt = n := by
  rw [Int8.toInt_toInt32, Int8.toInt_ofInt, show Int8.size = 256 from rfl, Int.bmod_eq_of_le (by omega) (by omega)]
theorem hb_i16 {n : Int} (h : (-32768 : Int) ≤ n ∧ n ≤ (32767 : Int)) : (Int16.ofInt n).toInt32.toInt = n := by
  rw [Int16.toInt_toInt32, Int16.toInt_ofInt, show Int16.size = 65536 from rfl, Int.bmod_eq_of_le (by omega) (by omega)]
set_option maxHeartbeats 2000000 in
theorem hb_step1_ok {i : Instr} {len nL : Nat} {lst : List (Nat × hbS)} (hx : p.tables.exec = Jvm.exec) (hb : c.code = cc) (hdg : decode cc pc = .ok (i, len)) (hnL : X.2.2.2.2.2.1 = nL) (h : hb_step1 i len pc nL V L S C = some lst) (hJ : ∀ q ∈ lst, hb_J X (hb_w p l e R s m args below meth c Q) m q.2 q.1) : hb_J X (hb_w p l e R s m args below meth c Q) m (V, L, S, C) pc := by
  subst hnL
  unfold hb_step1 at h
  split at h
  next n =>
    obtain ⟨hc, hm⟩ := hb_nul_inv h
    obtain ⟨h1, h2⟩ := hb_and2 hc
    have e := hb_lenE h1; subst e
    have h3 := hb_btw_t h2
    exact hb_i_push (fun _ _ _ _ h0 => hb_kI (fb_ofI (by omega) (by omega)) h0) (fun ls rest H locs k => lv_iconst hx hb hdg rfl k) (hJ _ hm)
  next n =>
    obtain ⟨hc, hm⟩ := hb_nul_inv h
    obtain ⟨h1, h2⟩ := hb_and2 hc
    have e := hb_lenE h1; subst e
    exact hb_i_push (fun _ _ _ _ h0 => hb_kI (hb_i8 (hb_btw_t h2)) h0) (fun ls rest H locs k => lv_bipush hx hb hdg rfl k) (hJ _ hm)
  next n =>
    obtain ⟨hc, hm⟩ := hb_nul_inv h
    obtain ⟨h1, h2⟩ := hb_and2 hc
    have e := hb_lenE h1; subst e
    exact hb_i_push (fun _ _ _ _ h0 => hb_kI (hb_i16 (hb_btw_t h2)) h0) (fun ls rest H locs k => lv_sipush hx hb hdg rfl k) (hJ _ hm)
  next n =>
    obtain ⟨hc, hm⟩ := hb_nul_inv h
    have e := hb_lenE hc; subst e
    exact hb_i_push (fun _ _ _ _ h0 => hb_kL (hb_fin2 n) h0) (fun ls rest H locs k => lv_lconst hx hb hdg rfl k) (hJ _ hm)
  next =>
    obtain ⟨hc, hm⟩ := hb_nul_inv h
    have e := hb_lenE hc; subst e
    exact hb_i_push (b := (3, 0, 0, 0)) (v := .null) (fun _ _ _ _ h0 => rfl) (fun ls rest H locs k => lv_null hx hb hdg k) (hJ _ hm)
  next n =>
    obtain ⟨a, hl, hc, hm⟩ := hb_lod_inv h
    obtain ⟨h1, h2⟩ := hb_and2 hc
    have e := hb_lenE h1; subst e
    exact hb_i_load hl (fun v n U T ρ ls rest H locs hv hg k => by obtain ⟨-, x, rfl, -⟩ := hv.int h2; exact lv_iload_n hx hb hdg rfl hg k) (hJ _ hm)
  next n =>
    obtain ⟨a, hl, hc, hm⟩ := hb_lod_inv h
    obtain ⟨h1, h2⟩ := hb_and2 hc
    have e := hb_lenE h1; subst e
    exact hb_i_load hl (fun v n U T ρ ls rest H locs hv hg k => by obtain ⟨-, x, rfl, -⟩ := hv.int h2; exact lv_iload hx hb hdg hg k) (hJ _ hm)
  next n =>
    obtain ⟨a, hl, hc, hm⟩ := hb_lod_inv h
    obtain ⟨h1, h2⟩ := hb_and2 hc
    have e := hb_lenE h1; subst e
    exact hb_i_load hl (fun v n U T ρ ls rest H locs hv hg k => by obtain ⟨-, x, rfl, -⟩ := hv.long h2; exact lv_lload_n hx hb hdg rfl hg k) (hJ _ hm)
  next n =>
    obtain ⟨a, hl, hc, hm⟩ := hb_lod_inv h
    obtain ⟨h1, h2⟩ := hb_and2 hc
    have e := hb_lenE h1; subst e
    exact hb_i_load hl (fun v n U T ρ ls rest H locs hv hg k => by obtain ⟨-, x, rfl, -⟩ := hv.long h2; exact lv_lload hx hb hdg hg k) (hJ _ hm)
  next n =>
    obtain ⟨a, hl, hc, hm⟩ := hb_lod_inv h
    obtain ⟨h1, h2⟩ := hb_and2 hc
    have e := hb_lenE h1; subst e
    exact hb_i_load hl (fun v n U T ρ ls rest H locs hv hg k => by
      rcases hv.refs h2 with ⟨x, rfl⟩ | rfl
      · exact lv_aload_n hx hb hdg rfl hg k
      · exact lv_aload_nN hx hb hdg rfl hg k) (hJ _ hm)
  next n =>
    obtain ⟨a, hl, hc, hm⟩ := hb_lod_inv h
    obtain ⟨h1, h2⟩ := hb_and2 hc
    have e := hb_lenE h1; subst e
    exact hb_i_load hl (fun v n U T ρ ls rest H locs hv hg k => by
      rcases hv.refs h2 with ⟨x, rfl⟩ | rfl
      · exact lv_aload hx hb hdg hg k
      · exact lv_aloadN hx hb hdg hg k) (hJ _ hm)
  next n =>
    obtain ⟨a, r, rfl, hc, hm⟩ := hb_uno_inv h
    obtain ⟨h1, h2⟩ := hb_and2 hc
    obtain ⟨h0, h1⟩ := hb_and2 h1
    have e := hb_lenE h0; subst e
    exact hb_i_store1 (hb_blt h1) (fun v n U T ρ ls lv rest H locs hv hl k => by obtain ⟨-, x, rfl, -⟩ := hv.int h2; exact lv_istore_n hx hb hdg rfl hl (hb_blt h1) rfl k) (hJ _ hm)
  next n =>
    obtain ⟨a, r, rfl, hc, hm⟩ := hb_uno_inv h
    obtain ⟨h1, h2⟩ := hb_and2 hc
    obtain ⟨h0, h1⟩ := hb_and2 h1
    have e := hb_lenE h0; subst e
    exact hb_i_store1 (hb_blt h1) (fun v n U T ρ ls lv rest H locs hv hl k => by obtain ⟨-, x, rfl, -⟩ := hv.int h2; exact lv_istore hx hb hdg hl (hb_blt h1) rfl k) (hJ _ hm)
  next n =>
    obtain ⟨a, r, rfl, hc, hm⟩ := hb_uno_inv h
    obtain ⟨h1, h2⟩ := hb_and2 hc
    obtain ⟨h0, h1⟩ := hb_and2 h1
    have e := hb_lenE h0; subst e
    exact hb_i_store2 (hb_blt h1) (fun v n U T ρ ls lv rest H locs hv hl k => by obtain ⟨-, x, rfl, -⟩ := hv.long h2; exact lv_lstore_n hx hb hdg rfl hl (hb_blt h1) rfl k) (hJ _ hm)
  next n =>
    obtain ⟨a, r, rfl, hc, hm⟩ := hb_uno_inv h
    obtain ⟨h1, h2⟩ := hb_and2 hc
    obtain ⟨h0, h1⟩ := hb_and2 h1
    have e := hb_lenE h0; subst e
    exact hb_i_store2 (hb_blt h1) (fun v n U T ρ ls lv rest H locs hv hl k => by obtain ⟨-, x, rfl, -⟩ := hv.long h2; exact lv_lstore hx hb hdg hl (hb_blt h1) rfl k) (hJ _ hm)
  next n =>
    obtain ⟨a, r, rfl, hc, hm⟩ := hb_uno_inv h
    obtain ⟨h1, h2⟩ := hb_and2 hc
    obtain ⟨h0, h1⟩ := hb_and2 h1
    have e := hb_lenE h0; subst e
    exact hb_i_store1 (hb_blt h1) (fun v n U T ρ ls lv rest H locs hv hl k => by
      rcases hv.refs h2 with ⟨x, rfl⟩ | rfl
      · exact lv_astore_n hx hb hdg rfl hl (hb_blt h1) rfl k
      · exact lv_astore_nN hx hb hdg rfl hl (hb_blt h1) rfl k) (hJ _ hm)
  next n =>
    obtain ⟨a, r, rfl, hc, hm⟩ := hb_uno_inv h
    obtain ⟨h1, h2⟩ := hb_and2 hc
    obtain ⟨h0, h1⟩ := hb_and2 h1
    have e := hb_lenE h0; subst e
    exact hb_i_store1 (hb_blt h1) (fun v n U T ρ ls lv rest H locs hv hl k => by
      rcases hv.refs h2 with ⟨x, rfl⟩ | rfl
      · exact lv_astore hx hb hdg hl (hb_blt h1) rfl k
      · exact lv_astoreN hx hb hdg hl (hb_blt h1) rfl k) (hJ _ hm)
  next k n =>
    obtain ⟨a, hl, hc, hm⟩ := hb_lod_inv h
    obtain ⟨h1, h4⟩ := hb_and2 hc
    obtain ⟨h1, h2⟩ := hb_and2 h1
    obtain ⟨h0, h1⟩ := hb_and2 h1
    have e := hb_lenE h0; subst e
    exact hb_i_iinc hx hb hdg hl (hb_blt h1) h2 (hb_btw_t h4) (hJ _ hm)
  next =>
    obtain ⟨b, a, r, rfl, hc, hm⟩ := hb_two_inv h
    obtain ⟨h1, h2⟩ := hb_and2 hc
    have e := hb_lenE h1; subst e
    exact hb_i_bin (hb_tt_t h2).1 (hb_tt_t h2).2 (fun ρ x y hV _ _ _ ex ey => ⟨hb_addS32 hV ex ey, fun ls rest H locs k => lv_iadd hx hb hdg k⟩) (hJ _ hm)
  next =>
    obtain ⟨b, a, r, rfl, hc, hm⟩ := hb_two_inv h
    obtain ⟨h1, h2⟩ := hb_and2 hc
    have e := hb_lenE h1; subst e
    exact hb_i_bin (hb_tt_t h2).1 (hb_tt_t h2).2 (fun ρ x y hV _ _ _ ex ey => ⟨hb_sub32 hV ex ey, fun ls rest H locs k => lv_isub hx hb hdg k⟩) (hJ _ hm)
  next =>
    obtain ⟨b, a, r, rfl, hc, hm⟩ := hb_two_inv h
    obtain ⟨h1, h2⟩ := hb_and2 hc
    have e := hb_lenE h1; subst e
    exact hb_i_bin (hb_tt_t h2).1 (hb_tt_t h2).2 (fun ρ x y hV _ _ _ ex ey => ⟨hb_mul32 hV ex ey, fun ls rest H locs k => lv_imul hx hb hdg k⟩) (hJ _ hm)
  next =>
    obtain ⟨b, a, r, rfl, hc, hm⟩ := hb_two_inv h
    obtain ⟨h1, h2⟩ := hb_and2 hc
    have e := hb_lenE h1; subst e
    exact hb_i_bin (hb_tt_t h2).1 (hb_tt_t h2).2 (fun ρ x y hV h0 ka kb ex ey => ⟨hb_and_ok hV h0 ka kb ex ey, fun ls rest H locs k => lv_iand hx hb hdg k⟩) (hJ _ hm)
  next =>
    obtain ⟨b, a, r, rfl, hc, hm⟩ := hb_two_inv h
    obtain ⟨h1, h2⟩ := hb_and2 hc
    have e := hb_lenE h1; subst e
    exact hb_i_bin (hb_tt_t h2).1 (hb_tt_t h2).2 (fun ρ x y hV h0 _ _ ex ey => ⟨hb_or_ok hV h0 ex ey, fun ls rest H locs k => lv_ior hx hb hdg k⟩) (hJ _ hm)
  next =>
    obtain ⟨b, a, r, rfl, hc, hm⟩ := hb_two_inv h
    obtain ⟨h1, h2⟩ := hb_and2 hc
    have e := hb_lenE h1; subst e
    exact hb_i_bin (hb_tt_t h2).1 (hb_tt_t h2).2 (fun ρ x y hV _ _ _ ex ey => ⟨hb_xor_ok hV ex ey, fun ls rest H locs k => lv_ixor hx hb hdg k⟩) (hJ _ hm)
  next =>
    obtain ⟨b, a, r, rfl, hc, hm⟩ := hb_two_inv h
    obtain ⟨h1, h3⟩ := hb_and2 hc
    obtain ⟨h1, h2⟩ := hb_and2 h1
    have e := hb_lenE h1; subst e
    exact hb_i_bin (g := fun x y => x / y) (hb_tt_t h2).1 (hb_tt_t h2).2 (fun ρ x y hV h0 _ _ ex ey => ⟨hb_div_ok hV h0 ex ey (fun q => hb_div32 q) (hb_rng0 _), fun ls rest H locs k => lv_idiv hx hb hdg (fun q => hb_nz_ok hV ey h3 (by rw [q]; rfl)) k⟩) (hJ _ hm)
  next =>
    obtain ⟨b, a, r, rfl, hc, hm⟩ := hb_two_inv h
    obtain ⟨h1, h3⟩ := hb_and2 hc
    obtain ⟨h1, h2⟩ := hb_and2 h1
    have e := hb_lenE h1; subst e
    exact hb_i_bin (g := fun x y => x - x / y * y) (hb_tt_t h2).1 (hb_tt_t h2).2 (fun ρ x y hV h0 ka kb ex ey => ⟨hb_rem_ok hV h0 ka kb ex ey (fun q => hb_rem32 q) (hb_rng0 _), fun ls rest H locs k => lv_irem hx hb hdg (fun q => hb_nz_ok hV ey h3 (by rw [q]; rfl)) k⟩) (hJ _ hm)
  next =>
    obtain ⟨b, a, r, rfl, hc, hm⟩ := hb_two_inv h
    obtain ⟨h1, h2⟩ := hb_and2 hc
    have e := hb_lenE h1; subst e
    exact hb_i_binL (hb_tt_t h2).1 (hb_tt_t h2).2 (fun ρ x y hV _ _ _ ex ey => ⟨hb_addS64 hV ex ey, fun ls rest H locs k => lv_ladd hx hb hdg k⟩) (hJ _ hm)
  next =>
    obtain ⟨b, a, r, rfl, hc, hm⟩ := hb_two_inv h
    obtain ⟨h1, h2⟩ := hb_and2 hc
    have e := hb_lenE h1; subst e
    exact hb_i_binL (hb_tt_t h2).1 (hb_tt_t h2).2 (fun ρ x y hV _ _ _ ex ey => ⟨hb_sub64 hV ex ey, fun ls rest H locs k => lv_lsub hx hb hdg k⟩) (hJ _ hm)
  next =>
    obtain ⟨b, a, r, rfl, hc, hm⟩ := hb_two_inv h
    obtain ⟨h1, h2⟩ := hb_and2 hc
    have e := hb_lenE h1; subst e
    exact hb_i_binL (hb_tt_t h2).1 (hb_tt_t h2).2 (fun ρ x y hV _ _ _ ex ey => ⟨hb_mul64 hV ex ey, fun ls rest H locs k => lv_lmul hx hb hdg k⟩) (hJ _ hm)
  next =>
    obtain ⟨b, a, r, rfl, hc, hm⟩ := hb_two_inv h
    obtain ⟨h1, h3⟩ := hb_and2 hc
    obtain ⟨h1, h2⟩ := hb_and2 h1
    have e := hb_lenE h1; subst e
    exact hb_i_binL (g := fun x y => x / y) (hb_tt_t h2).1 (hb_tt_t h2).2 (fun ρ x y hV h0 _ _ ex ey => ⟨hb_div_ok hV h0 ex ey (fun q => hb_div64 q) (hb_rng1 _), fun ls rest H locs k => lv_ldiv hx hb hdg (fun q => hb_nz_ok hV ey h3 (by rw [q]; rfl)) k⟩) (hJ _ hm)
  next =>
    obtain ⟨b, a, r, rfl, hc, hm⟩ := hb_two_inv h
    obtain ⟨h1, h3⟩ := hb_and2 hc
    obtain ⟨h1, h2⟩ := hb_and2 h1
    have e := hb_lenE h1; subst e
    exact hb_i_binL (g := fun x y => x - x / y * y) (hb_tt_t h2).1 (hb_tt_t h2).2 (fun ρ x y hV h0 ka kb ex ey => ⟨hb_rem_ok hV h0 ka kb ex ey (fun q => hb_rem64 q) (hb_rng1 _), fun ls rest H locs k => lv_lrem hx hb hdg (fun q => hb_nz_ok hV ey h3 (by rw [q]; rfl)) k⟩) (hJ _ hm)
  next =>
    obtain ⟨b, a, r, rfl, hc, hm⟩ := hb_two_inv h
    obtain ⟨h1, h2⟩ := hb_and2 hc
    have e := hb_lenE h1; subst e
    exact hb_i_binL (hb_tt_t h2).1 (hb_tt_t h2).2 (fun ρ x y hV _ _ _ ex ey => ⟨hb_any64 hV _, fun ls rest H locs k => lv_land hx hb hdg k⟩) (hJ _ hm)
  next =>
    obtain ⟨b, a, r, rfl, hc, hm⟩ := hb_two_inv h
    obtain ⟨h1, h2⟩ := hb_and2 hc
    have e := hb_lenE h1; subst e
    exact hb_i_binL (hb_tt_t h2).1 (hb_tt_t h2).2 (fun ρ x y hV _ _ _ ex ey => ⟨hb_any64 hV _, fun ls rest H locs k => lv_lor hx hb hdg k⟩) (hJ _ hm)
  next =>
    obtain ⟨b, a, r, rfl, hc, hm⟩ := hb_two_inv h
    obtain ⟨h1, h2⟩ := hb_and2 hc
    have e := hb_lenE h1; subst e
    exact hb_i_shL (g := fun x y => x <<< (y.toInt64 &&& 63)) (hb_tt_t h2).1 (hb_tt_t h2).2 (fun ρ x y hV => ⟨hb_any64 hV _, fun ls rest H locs k => lv_lshl hx hb hdg rfl k⟩) (hJ _ hm)
  next =>
    obtain ⟨b, a, r, rfl, hc, hm⟩ := hb_two_inv h
    obtain ⟨h1, h2⟩ := hb_and2 hc
    have e := hb_lenE h1; subst e
    exact hb_i_shL (g := fun x y => x >>> (y.toInt64 &&& 63)) (hb_tt_t h2).1 (hb_tt_t h2).2 (fun ρ x y hV => ⟨hb_any64 hV _, fun ls rest H locs k => lv_lshr hx hb hdg rfl k⟩) (hJ _ hm)
  next =>
    obtain ⟨b, a, r, rfl, hc, hm⟩ := hb_two_inv h
    obtain ⟨h1, h2⟩ := hb_and2 hc
    have e := hb_lenE h1; subst e
    exact hb_i_bin (g := fun x y => x <<< (y &&& 31)) (hb_tt_t h2).1 (hb_tt_t h2).2 (fun ρ x y hV h0 _ _ ex ey => ⟨hb_shl_ok hV h0 ex ey, fun ls rest H locs k => lv_ishl hx hb hdg k⟩) (hJ _ hm)
  next =>
    obtain ⟨b, a, r, rfl, hc, hm⟩ := hb_two_inv h
    obtain ⟨h1, h2⟩ := hb_and2 hc
    have e := hb_lenE h1; subst e
    exact hb_i_bin (g := fun x y => x >>> (y &&& 31)) (hb_tt_t h2).1 (hb_tt_t h2).2 (fun ρ x y hV h0 _ _ ex ey => ⟨hb_shr_ok hV h0 ex ey, fun ls rest H locs k => lv_ishr hx hb hdg k⟩) (hJ _ hm)
  next =>
    obtain ⟨b, a, r, rfl, hc, hm⟩ := hb_two_inv h
    obtain ⟨h1, h2⟩ := hb_and2 hc
    have e := hb_lenE h1; subst e
    exact hb_i_bin (g := fun x y => (x.toUInt32 >>> (y.toUInt32 &&& Int32.toUInt32 31)).toInt32) (hb_tt_t h2).1 (hb_tt_t h2).2 (fun ρ x y hV _ _ _ _ _ => ⟨hb_any32 hV _, fun ls rest H locs k => lv_iushr hx hb hdg rfl k⟩) (hJ _ hm)
  next =>
    obtain ⟨a, r, rfl, hc, hm⟩ := hb_uno_inv h
    obtain ⟨h1, h2⟩ := hb_and2 hc
    have e := hb_lenE h1; subst e
    exact hb_i_i2l hx hb hdg h2 (hJ _ hm)
  next =>
    obtain ⟨a, r, rfl, hc, hm⟩ := hb_uno_inv h
    obtain ⟨h1, h2⟩ := hb_and2 hc
    have e := hb_lenE h1; subst e
    exact hb_i_l2i hx hb hdg h2 (hJ _ hm)
  next =>
    obtain ⟨a, r, rfl, hc, hm⟩ := hb_uno_inv h
    obtain ⟨h1, h2⟩ := hb_and2 hc
    have e := hb_lenE h1; subst e
    exact hb_i_un (g := fun x => x.toInt8.toInt32) h2 (fun ρ x hV ka ex => hb_cut_ok hV ka ex (by have := fb_byte_rng x; omega) (fun q1 q2 => by rw [fb_byte (by omega) (by omega)])) (fun x ls rest H locs k => lv_i2b hx hb hdg rfl k) (hJ _ hm)
  next =>
    obtain ⟨a, r, rfl, hc, hm⟩ := hb_uno_inv h
    obtain ⟨h1, h2⟩ := hb_and2 hc
    have e := hb_lenE h1; subst e
    exact hb_i_un (g := fun x => x.toInt16.toInt32) h2 (fun ρ x hV ka ex => hb_cut_ok hV ka ex (by have := fb_short_rng x; omega) (fun q1 q2 => by rw [fb_short (by omega) (by omega)])) (fun x ls rest H locs k => lv_i2s hx hb hdg rfl k) (hJ _ hm)
  next =>
    obtain ⟨a, r, rfl, hc, hm⟩ := hb_uno_inv h
    obtain ⟨h1, h2⟩ := hb_and2 hc
    have e := hb_lenE h1; subst e
    exact hb_i_dup hx hb hdg h2 (hJ _ hm)
  next =>
    obtain ⟨a, r, rfl, hc, hm⟩ := hb_uno_inv h
    obtain ⟨h1, h2⟩ := hb_and2 hc
    have e := hb_lenE h1; subst e
    exact hb_i_pop hx hb hdg h2 (hJ _ hm)
  next =>
    obtain ⟨b, a, r, rfl, hc, hm⟩ := hb_two_inv h
    obtain ⟨h1, h3⟩ := hb_and2 hc
    obtain ⟨h1, h2⟩ := hb_and2 h1
    have e := hb_lenE h1; subst e
    exact hb_i_dup2 hx hb hdg h2 h3 (hJ _ hm)
  next => cases h
end HBQ
