/-! hw_: rows with named results; natural numbers and truth values on the machine -/
def hw_b (b : Bool) : Int32 := if b then 1 else 0
theorem hw_b0 {b : Bool} (h : b = false) : nI 0 = hw_b b := by rw [h]; rfl
theorem hw_b1 {b : Bool} (h : b = true) : nI 1 = hw_b b := by rw [h]; rfl
theorem hw_bt {b : Bool} (h : hb_holds .ne (hw_b b).toInt 0) : b = true := by
  cases b with
  | true => rfl
  | false =>
    have h : (hw_b false).toInt < 0 ∨ 0 < (hw_b false).toInt := h
    have e : (hw_b false).toInt = 0 := by decide
    omega
theorem hw_bf {b : Bool} (h : hb_holds .eq (hw_b b).toInt 0) : b = false := by
  cases b with
  | false => rfl
  | true =>
    have h : (hw_b true).toInt = 0 := h
    have e : (hw_b true).toInt = 1 := by decide
    omega
theorem hw_bot {b : Bool} (h : hb_holds .eq (hw_b b).toInt (nI 1).toInt) : b = true := by
  cases b with
  | true => rfl
  | false =>
    have h : (hw_b false).toInt = (nI 1).toInt := h
    exact absurd h (by decide)
theorem hw_bof {b : Bool} (h : hb_holds .ne (hw_b b).toInt (nI 1).toInt) : b = false := by
  cases b with
  | false => rfl
  | true =>
    have h : (hw_b true).toInt < (nI 1).toInt ∨ (nI 1).toInt < (hw_b true).toInt := h
    exact absurd h (by decide)
theorem hw_clt {a b : Nat} (h : hb_holds .lt (nI a).toInt (nI b).toInt) (ha : a < 2147483648) (hb : b < 2147483648) : a < b := by
  have h : (nI a).toInt < (nI b).toInt := h
  rw [nI_toInt (by omega), nI_toInt (by omega)] at h
  omega
theorem hw_cge {a b : Nat} (h : hb_holds .ge (nI a).toInt (nI b).toInt) (ha : a < 2147483648) (hb : b < 2147483648) : b ≤ a := by
  have h : (nI b).toInt ≤ (nI a).toInt := h
  rw [nI_toInt (by omega), nI_toInt (by omega)] at h
  omega
theorem hw_cgt {a b : Nat} (h : hb_holds .gt (nI a).toInt (nI b).toInt) (ha : a < 2147483648) (hb : b < 2147483648) : b < a := by
  have h : (nI b).toInt < (nI a).toInt := h
  rw [nI_toInt (by omega), nI_toInt (by omega)] at h
  omega
theorem hw_cle {a b : Nat} (h : hb_holds .le (nI a).toInt (nI b).toInt) (ha : a < 2147483648) (hb : b < 2147483648) : a ≤ b := by
  have h : (nI a).toInt ≤ (nI b).toInt := h
  rw [nI_toInt (by omega), nI_toInt (by omega)] at h
  omega
theorem hw_ceq {a b : Nat} (h : hb_holds .eq (nI a).toInt (nI b).toInt) (ha : a < 2147483648) (hb : b < 2147483648) : a = b := by
  have h : (nI a).toInt = (nI b).toInt := h
  rw [nI_toInt (by omega), nI_toInt (by omega)] at h
  omega
theorem hw_cne {a b : Nat} (h : hb_holds .ne (nI a).toInt (nI b).toInt) (ha : a < 2147483648) (hb : b < 2147483648) : a ≠ b := by
  have h : (nI a).toInt < (nI b).toInt ∨ (nI b).toInt < (nI a).toInt := h
  rw [nI_toInt (by omega), nI_toInt (by omega)] at h
  omega
theorem hw_zeq {a : Nat} (h : hb_holds .eq (nI a).toInt 0) (ha : a < 2147483648) : a = 0 := by
  have h : (nI a).toInt = 0 := h
  rw [nI_toInt (by omega)] at h
  omega
theorem hw_zne {a : Nat} (h : hb_holds .ne (nI a).toInt 0) (ha : a < 2147483648) : a ≠ 0 := by
  have h : (nI a).toInt < 0 ∨ 0 < (nI a).toInt := h
  rw [nI_toInt (by omega)] at h
  omega
theorem hw_zlt {a : Nat} (h : hb_holds .lt (nI a).toInt 0) (ha : a < 2147483648) : False := by
  have h : (nI a).toInt < 0 := h
  rw [nI_toInt (by omega)] at h
  omega
theorem hw_zge {a : Nat} (_ : hb_holds .ge (nI a).toInt 0) (_ : a < 2147483648) : True := trivial
theorem hw_nadd (a b : Nat) : nI a + nI b = nI (a + b) := nI_add a b
theorem hw_nmul (a b : Nat) : nI a * nI b = nI (a * b) := (Int32.ofNat_mul a b).symm
theorem hw_nsub {a b : Nat} (h : b ≤ a) : nI a - nI b = nI (a - b) := by
  have e := nI_add (a - b) b
  rw [Nat.sub_add_cancel h] at e
  rw [← e, Int32.add_sub_cancel]
theorem hw_nshl0 : ∀ h : Nat, h < 31 → nI 1 <<< (nI h &&& 31) = nI (2 ^ h) := by decide +kernel
theorem hw_nshl {h : Nat} (hh : h < 31) : nI 1 <<< (nI h &&& 31) = nI (2 ^ h) := hw_nshl0 h hh
/-- a set less another -/
def hw_df (a b : Nat) : Nat := a ^^^ (a &&& b)
theorem hw_df_bit (a b i : Nat) : (hw_df a b).testBit i = (a.testBit i && !(b.testBit i)) := by
  unfold hw_df
  rw [Nat.testBit_xor, Nat.testBit_and]
  cases a.testBit i <;> cases b.testBit i <;> rfl
theorem hw_bv (n : Nat) : (nI n).toBitVec = BitVec.ofNat 32 n := rfl
theorem hw_nor (a b : Nat) : nI a ||| nI b = nI (a ||| b) := by
  apply Int32.toBitVec_inj.mp
  rw [Int32.toBitVec_or, hw_bv, hw_bv, hw_bv]
  apply BitVec.eq_of_getLsbD_eq
  intro i hi
  rw [BitVec.getLsbD_or, BitVec.getLsbD_ofNat, BitVec.getLsbD_ofNat, BitVec.getLsbD_ofNat, Nat.testBit_or]
  simp [hi]
theorem hw_nand (a b : Nat) : nI a &&& nI b = nI (a &&& b) := by
  apply Int32.toBitVec_inj.mp
  rw [Int32.toBitVec_and, hw_bv, hw_bv, hw_bv]
  apply BitVec.eq_of_getLsbD_eq
  intro i hi
  rw [BitVec.getLsbD_and, BitVec.getLsbD_ofNat, BitVec.getLsbD_ofNat, BitVec.getLsbD_ofNat, Nat.testBit_and]
  simp [hi]
theorem hw_ndf (a b : Nat) : nI a &&& (nI b ^^^ -1) = nI (hw_df a b) := by
  apply Int32.toBitVec_inj.mp
  have e : (-1 : Int32).toBitVec = BitVec.allOnes 32 := by decide
  rw [Int32.toBitVec_and, Int32.toBitVec_xor, hw_bv, hw_bv, hw_bv, e]
  apply BitVec.eq_of_getLsbD_eq
  intro i hi
  rw [BitVec.getLsbD_and, BitVec.getLsbD_xor, BitVec.getLsbD_ofNat, BitVec.getLsbD_ofNat, BitVec.getLsbD_ofNat, hw_df_bit, BitVec.getLsbD_allOnes]
  simp [hi]
theorem hw_bitN {s k : Nat} (hs : s < 2147483648) (hk : k < 32) : hw_bit (nI s) (nI k) = hw_b (s.testBit k) := by
  have es := nI_toInt (n := s) (by omega)
  obtain ⟨j, h1, h2, h3⟩ := hb_shr_n (x := nI s) (y := nI k) (by rw [es]; omega)
  have e := h3 k hk (nI_toInt (by omega))
  subst e
  rw [es, Int.toNat_natCast] at h2
  have h4 := hb_and_n (y := 1) (q := 1) h2 (by decide)
  have h5 : Nat.land (s / 2 ^ j) 1 = s / 2 ^ j % 2 := Nat.and_one_is_mod _
  rw [h5] at h4
  unfold hw_bit
  apply Int32.toInt_inj.mp
  rw [h4, Nat.testBit_eq_decide_div_mod_eq]
  have : s / 2 ^ j % 2 < 2 := Nat.mod_lt _ (by decide)
  rcases (show s / 2 ^ j % 2 = 0 ∨ s / 2 ^ j % 2 = 1 by omega) with q | q <;> rw [q] <;> decide
section HWB
variable {p : Program} {l : Launch} {e : Env} {R : Room} {s : State} {m : MethodId} {args : Array Value} {below : List Frame} {meth : Method} {c : Code} {Q : State → Prop} {cc : ByteArray} {pc : Nat} {D : va_G} {U : Nat → Nat} {wd : va_W} {f : Nat → Int32} {y : hbY} {ls : Array Slot} {rest : List Value} {H : Heap} {locs : List Loc} {x z v : Int32} {H0 : Heap}
theorem hw_iadd (hx : p.tables.exec = Jvm.exec) (hb : c.code = cc) (hdg : decode cc pc = .ok (.iadd, 1)) (hv : x + z = v) (k : W p l e R s m args below meth c H locs 0 0 Q (F0 m (pc + 1) ls (.int v :: rest))) : W p l e R s m args below meth c H locs 0 0 Q (F0 m pc ls (.int z :: .int x :: rest)) := lv_iadd hx hb hdg (by rw [hv]; exact k)
theorem hw_isub (hx : p.tables.exec = Jvm.exec) (hb : c.code = cc) (hdg : decode cc pc = .ok (.isub, 1)) (hv : x - z = v) (k : W p l e R s m args below meth c H locs 0 0 Q (F0 m (pc + 1) ls (.int v :: rest))) : W p l e R s m args below meth c H locs 0 0 Q (F0 m pc ls (.int z :: .int x :: rest)) := lv_isub hx hb hdg (by rw [hv]; exact k)
theorem hw_imul (hx : p.tables.exec = Jvm.exec) (hb : c.code = cc) (hdg : decode cc pc = .ok (.imul, 1)) (hv : x * z = v) (k : W p l e R s m args below meth c H locs 0 0 Q (F0 m (pc + 1) ls (.int v :: rest))) : W p l e R s m args below meth c H locs 0 0 Q (F0 m pc ls (.int z :: .int x :: rest)) := lv_imul hx hb hdg (by rw [hv]; exact k)
theorem hw_iand (hx : p.tables.exec = Jvm.exec) (hb : c.code = cc) (hdg : decode cc pc = .ok (.iand, 1)) (hv : x &&& z = v) (k : W p l e R s m args below meth c H locs 0 0 Q (F0 m (pc + 1) ls (.int v :: rest))) : W p l e R s m args below meth c H locs 0 0 Q (F0 m pc ls (.int z :: .int x :: rest)) := lv_iand hx hb hdg (by rw [hv]; exact k)
theorem hw_ior (hx : p.tables.exec = Jvm.exec) (hb : c.code = cc) (hdg : decode cc pc = .ok (.ior, 1)) (hv : x ||| z = v) (k : W p l e R s m args below meth c H locs 0 0 Q (F0 m (pc + 1) ls (.int v :: rest))) : W p l e R s m args below meth c H locs 0 0 Q (F0 m pc ls (.int z :: .int x :: rest)) := lv_ior hx hb hdg (by rw [hv]; exact k)
theorem hw_ixor (hx : p.tables.exec = Jvm.exec) (hb : c.code = cc) (hdg : decode cc pc = .ok (.ixor, 1)) (hv : x ^^^ z = v) (k : W p l e R s m args below meth c H locs 0 0 Q (F0 m (pc + 1) ls (.int v :: rest))) : W p l e R s m args below meth c H locs 0 0 Q (F0 m pc ls (.int z :: .int x :: rest)) := lv_ixor hx hb hdg (by rw [hv]; exact k)
theorem hw_ishl (hx : p.tables.exec = Jvm.exec) (hb : c.code = cc) (hdg : decode cc pc = .ok (.ishl, 1)) (hv : x <<< (z &&& 31) = v) (k : W p l e R s m args below meth c H locs 0 0 Q (F0 m (pc + 1) ls (.int v :: rest))) : W p l e R s m args below meth c H locs 0 0 Q (F0 m pc ls (.int z :: .int x :: rest)) := lv_ishl hx hb hdg (by rw [hv]; exact k)
theorem hw_idiv (hx : p.tables.exec = Jvm.exec) (hb : c.code = cc) (hdg : decode cc pc = .ok (.idiv, 1)) (hne : ¬ z = 0) (hv : x / z = v) (k : W p l e R s m args below meth c H locs 0 0 Q (F0 m (pc + 1) ls (.int v :: rest))) : W p l e R s m args below meth c H locs 0 0 Q (F0 m pc ls (.int z :: .int x :: rest)) := lv_idiv hx hb hdg hne (by rw [hv]; exact k)
theorem hw_max {idx nL : Nat} (hx : p.tables.exec = Jvm.exec) (hb : c.code = cc) (hml : c.maxLocals = nL) (hown : s.vm.findClass "HopeBankModel" = some m.cls) (hTw : ∀ w ∈ hb_G.2.1.1, w.before args s = true) (hq : (idx, 0) ∈ hb_PL12.2.2.2.1) (hsz : ls.size = nL) (hf : 1 ≤ R.frames) (hlo : (rest.map fun v => v.category).sum + 13 ≤ R.locals) (hv : (if x < z then z else x) = v) (hdg : decode cc pc = .ok (.invokestatic idx, 3)) (k : W p l e R s m args below meth c H locs 0 0 Q (F0 m (pc + 3) ls (.int v :: rest))) : W p l e R s m args below meth c H locs 0 0 Q (F0 m pc ls (.int z :: .int x :: rest)) := by
  obtain ⟨n1, n2, -⟩ := hw_xp hTw _ hq
  obtain ⟨l1, l2, l3⟩ := n2 rfl
  refine va_mmax hx hb (by rw [hml, hsz]) hown l1 l2 n1 l3 hf hlo (Nat.zero_le _) (Nat.zero_le _) hdg ?_
  rw [hv]
  exact k
/-- a number of the world, by its place -/
theorem hw_wldn {k : Nat} (hx : p.tables.exec = Jvm.exec) (hb : c.code = cc) (h : hw_P D U wd f s) (hk : k < 122) (hdg : decode cc pc = .ok (.iaload, 1)) (kk : W p l e R s m args below meth c s.heap [] 0 0 Q (F0 m (pc + 1) ls (.int (f k) :: rest))) : W p l e R s m args below meth c s.heap [] 0 0 Q (F0 m pc ls (.int (nI k) :: .ref (U 125) :: rest)) := by
  have ek := nI_toInt (n := k) (by omega)
  refine hw_wld (i := nI k) hx hb h (by rw [ek]; omega) (by rw [ek]; omega) hdg ?_
  rw [ek, Int.toNat_natCast]
  exact kk
theorem hw_retI (hx : p.tables.exec = Jvm.exec) (hb : c.code = cc) (hret : meth.sig.returnType = some .int) (hlocks : meth.locks = false) (he : s.heap = H0) (hdg : decode cc pc = .ok (.ireturn, 1)) (hv : x = v) : W p l e R s m args below meth c s.heap [] 0 0 (MQ below (hb_RO H0 (some (.int v))) args s 0 0 (fun _ => False)) (F0 m pc ls [.int x]) := by
  subst hv
  obtain ⟨r1, r2⟩ := hb_Rend (args := args) (r := some (.int x)) he
  exact W.iret hx hb hret r1 r2 hdg hlocks
theorem hw_nab (b : Bool) : narrow .boolean (.int (hw_b b)) = .int (hw_b b) := by cases b <;> decide
theorem hw_retZ {b : Bool} (hx : p.tables.exec = Jvm.exec) (hb : c.code = cc) (hret : meth.sig.returnType = some .boolean) (hlocks : meth.locks = false) (he : s.heap = H0) (hdg : decode cc pc = .ok (.ireturn, 1)) (hv : x = hw_b b) : W p l e R s m args below meth c s.heap [] 0 0 (MQ below (hb_RO H0 (some (.int (hw_b b)))) args s 0 0 (fun _ => False)) (F0 m pc ls [.int x]) := by
  subst hv
  obtain ⟨r1, r2⟩ := hb_Rend (args := args) (r := some (.int (hw_b b))) he
  exact W.zret hx hb hret (hw_nab b) r1 r2 hdg hlocks
end HWB
section HMB
variable {p : Program} {l : Launch} {e : Env} {R : Room} {s : State} {m : MethodId} {args : Array Value} {below : List Frame} {meth : Method} {c : Code} {cc : ByteArray} {pc : Nat} {D : va_G} {U : Nat → Nat} {wd wd' : va_W} {ls : Array Slot} {H : Heap} {locs : List Loc} {x : Int32} {fp mods : List Nat} {PS : Option Value → va_W → Prop}
theorem hm_retI (hx : p.tables.exec = Jvm.exec) (hb : c.code = cc) (hret : meth.sig.returnType = some .int) (hlocks : meth.locks = false) (hh : hw_H D U s wd fp mods wd' H locs) (hdg : decode cc pc = .ok (.ireturn, 1)) (hps : PS (some (.int x)) wd') : W p l e R s m args below meth c H locs 0 0 (MQ below (hm_Post D U wd s.heap.size fp mods PS) args s 0 0 (va_A wd s.heap.size)) (F0 m pc ls [.int x]) := by
  obtain ⟨r1, r2⟩ := hm_end (args := args) hh hps
  exact W.iret hx hb hret r1 r2 hdg hlocks
theorem hm_retZ (hx : p.tables.exec = Jvm.exec) (hb : c.code = cc) (hret : meth.sig.returnType = some .boolean) (hlocks : meth.locks = false) (hh : hw_H D U s wd fp mods wd' H locs) (hn : narrow .boolean (.int x) = .int x) (hdg : decode cc pc = .ok (.ireturn, 1)) (hps : PS (some (.int x)) wd') : W p l e R s m args below meth c H locs 0 0 (MQ below (hm_Post D U wd s.heap.size fp mods PS) args s 0 0 (va_A wd s.heap.size)) (F0 m pc ls [.int x]) := by
  obtain ⟨r1, r2⟩ := hm_end (args := args) hh hps
  exact W.zret hx hb hret hn r1 r2 hdg hlocks
theorem hm_retV (hx : p.tables.exec = Jvm.exec) (hb : c.code = cc) (hret : meth.sig.returnType = none) (hlocks : meth.locks = false) (hh : hw_H D U s wd fp mods wd' H locs) (hdg : decode cc pc = .ok (.return_, 1)) (hps : PS none wd') : W p l e R s m args below meth c H locs 0 0 (MQ below (hm_Post D U wd s.heap.size fp mods PS) args s 0 0 (va_A wd s.heap.size)) (F0 m pc ls []) := by
  obtain ⟨r1, r2⟩ := hm_end (args := args) hh hps
  exact W.vret hx hb hret r1 r2 hdg hlocks
end HMB
