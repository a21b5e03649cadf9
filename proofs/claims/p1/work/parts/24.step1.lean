/-! hb_: one step over an instruction that touches no cell -/
abbrev hbR : Type := Option (List (Nat × hbS))
def hb_two (S : List hbA) (P : hbA → hbA → Bool) (f : hbA → hbA → List hbA → Nat × hbS) : hbR := match S with
  | b :: a :: r => cond (P a b) (some [f a b r]) none
  | _ => none
def hb_uno (S : List hbA) (P : hbA → Bool) (f : hbA → List hbA → Nat × hbS) : hbR := match S with
  | a :: r => cond (P a) (some [f a r]) none
  | _ => none
def hb_nul (b : Bool) (f : Nat × hbS) : hbR := cond b (some [f]) none
def hb_lod (L : List (Nat × hbA)) (i : Nat) (P : hbA → Bool) (f : hbA → Nat × hbS) : hbR := match hb_lk L i with
  | some a => cond (P a) (some [f a]) none
  | none => none
theorem hb_two_inv {S : List hbA} {P : hbA → hbA → Bool} {f : hbA → hbA → List hbA → Nat × hbS} {l : List (Nat × hbS)} (h : hb_two S P f = some l) : ∃ b a r, S = b :: a :: r ∧ P a b = true ∧ f a b r ∈ l := by
  match S, h with
  | [], h => cases h
  | [_], h => cases h
  | b :: a :: r, h =>
    unfold hb_two at h
    dsimp only at h
    cases hp : P a b with
    | false => rw [hp] at h; cases h
    | true =>
      rw [hp] at h
      cases h
      exact ⟨b, a, r, rfl, hp, List.mem_singleton.mpr rfl⟩
theorem hb_uno_inv {S : List hbA} {P : hbA → Bool} {f : hbA → List hbA → Nat × hbS} {l : List (Nat × hbS)} (h : hb_uno S P f = some l) : ∃ a r, S = a :: r ∧ P a = true ∧ f a r ∈ l := by
  match S, h with
  | [], h => cases h
  | a :: r, h =>
    unfold hb_uno at h
    dsimp only at h
    cases hp : P a with
    | false => rw [hp] at h; cases h
    | true =>
      rw [hp] at h
      cases h
      exact ⟨a, r, rfl, hp, List.mem_singleton.mpr rfl⟩
theorem hb_nul_inv {b : Bool} {f : Nat × hbS} {l : List (Nat × hbS)} (h : hb_nul b f = some l) : b = true ∧ f ∈ l := by
  cases b with
  | false => cases h
  | true => cases h; exact ⟨rfl, List.mem_singleton.mpr rfl⟩
theorem hb_lod_inv {L : List (Nat × hbA)} {i : Nat} {P : hbA → Bool} {f : hbA → Nat × hbS} {l : List (Nat × hbS)} (h : hb_lod L i P f = some l) : ∃ a, hb_lk L i = some a ∧ P a = true ∧ f a ∈ l := by
  unfold hb_lod at h
  cases ha : hb_lk L i with
  | none => rw [ha] at h; cases h
  | some a =>
    rw [ha] at h
    dsimp only at h
    cases hp : P a with
    | false => rw [hp] at h; cases h
    | true =>
      rw [hp] at h
      cases h
      exact ⟨a, rfl, hp, List.mem_singleton.mpr rfl⟩
def hb_tt (t u : Nat) (a b : hbA) : Bool := Nat.beq a.1 t && Nat.beq b.1 u
theorem hb_tt_t {t u : Nat} {a b : hbA} (h : hb_tt t u a b = true) : Nat.beq a.1 t = true ∧ Nat.beq b.1 u = true := by
  unfold hb_tt at h
  rw [Bool.and_eq_true] at h
  exact h
def hb_btw (lo z hi : Int) : Bool := hb_le lo z && hb_le z hi
theorem hb_btw_t {lo z hi : Int} (h : hb_btw lo z hi = true) : lo ≤ z ∧ z ≤ hi := by
  unfold hb_btw at h
  rw [Bool.and_eq_true] at h
  exact ⟨hb_le_t h.1, hb_le_t h.2⟩
def hb_step1 (i : Instr) (len pc nL : Nat) (V : hbV) (L : List (Nat × hbA)) (S : List hbA) (C : List (Nat × hbA × hbA)) : hbR := match i with
  | .iconst n => hb_nul (Nat.beq len 1 && hb_btw (-1) n 5) (pc + 1, (V, L, (0, 0, 0, n) :: S, C))
  | .bipush n => hb_nul (Nat.beq len 2 && hb_btw (-128) n 127) (pc + 2, (V, L, (0, 0, 0, n) :: S, C))
  | .sipush n => hb_nul (Nat.beq len 3 && hb_btw (-32768) n 32767) (pc + 3, (V, L, (0, 0, 0, n) :: S, C))
  | .lconst n => hb_nul (Nat.beq len 1) (pc + 1, (V, L, (1, 0, 0, .ofNat n.val) :: S, C))
  | .aconst_null => hb_nul (Nat.beq len 1) (pc + 1, (V, L, (3, 0, 0, 0) :: S, C))
  | .iload_n k => hb_lod L k.val (fun a => Nat.beq len 1 && Nat.beq a.1 0) (fun a => (pc + 1, (V, L, a :: S, C)))
  | .iload k => hb_lod L k (fun a => Nat.beq len 2 && Nat.beq a.1 0) (fun a => (pc + 2, (V, L, a :: S, C)))
  | .lload_n k => hb_lod L k.val (fun a => Nat.beq len 1 && Nat.beq a.1 1) (fun a => (pc + 1, (V, L, a :: S, C)))
  | .lload k => hb_lod L k (fun a => Nat.beq len 2 && Nat.beq a.1 1) (fun a => (pc + 2, (V, L, a :: S, C)))
  | .aload_n k => hb_lod L k.val (fun a => Nat.beq len 1 && Nat.ble 2 a.1) (fun a => (pc + 1, (V, L, a :: S, C)))
  | .aload k => hb_lod L k (fun a => Nat.beq len 2 && Nat.ble 2 a.1) (fun a => (pc + 2, (V, L, a :: S, C)))
  | .istore_n k => hb_uno S (fun a => Nat.beq len 1 && Nat.blt k.val nL && Nat.beq a.1 0) (fun a r => (pc + 1, (V, hb_st1 L k.val a, r, C)))
  | .istore k => hb_uno S (fun a => Nat.beq len 2 && Nat.blt k nL && Nat.beq a.1 0) (fun a r => (pc + 2, (V, hb_st1 L k a, r, C)))
  | .lstore_n k => hb_uno S (fun a => Nat.beq len 1 && Nat.blt (k.val + 1) nL && Nat.beq a.1 1) (fun a r => (pc + 1, (V, hb_st2 L k.val a, r, C)))
  | .lstore k => hb_uno S (fun a => Nat.beq len 2 && Nat.blt (k + 1) nL && Nat.beq a.1 1) (fun a r => (pc + 2, (V, hb_st2 L k a, r, C)))
  | .astore_n k => hb_uno S (fun a => Nat.beq len 1 && Nat.blt k.val nL && Nat.ble 2 a.1) (fun a r => (pc + 1, (V, hb_st1 L k.val a, r, C)))
  | .astore k => hb_uno S (fun a => Nat.beq len 2 && Nat.blt k nL && Nat.ble 2 a.1) (fun a r => (pc + 2, (V, hb_st1 L k a, r, C)))
  | .iinc k n => hb_lod L k (fun a => Nat.beq len 3 && Nat.blt k nL && Nat.beq a.1 0 && hb_btw (-32768) n 32767) (fun a => (pc + 3, ((hb_add V 0 a (0, 0, 0, n)).1, hb_st1 L k (hb_add V 0 a (0, 0, 0, n)).2, S, C)))
  | .iadd => hb_two S (fun a b => Nat.beq len 1 && hb_tt 0 0 a b) (fun a b r => (pc + 1, ((hb_addS V 0 a b).1, L, (hb_addS V 0 a b).2 :: r, C)))
  | .isub => hb_two S (fun a b => Nat.beq len 1 && hb_tt 0 0 a b) (fun a b r => (pc + 1, ((hb_sub V 0 a b).1, L, (hb_sub V 0 a b).2 :: r, C)))
  | .imul => hb_two S (fun a b => Nat.beq len 1 && hb_tt 0 0 a b) (fun a b r => (pc + 1, ((hb_mul V 0 a b).1, L, (hb_mul V 0 a b).2 :: r, C)))
  | .iand => hb_two S (fun a b => Nat.beq len 1 && hb_tt 0 0 a b) (fun a b r => (pc + 1, ((hb_and V a b).1, L, (hb_and V a b).2 :: r, C)))
  | .ior => hb_two S (fun a b => Nat.beq len 1 && hb_tt 0 0 a b) (fun a b r => (pc + 1, ((hb_or V a b).1, L, (hb_or V a b).2 :: r, C)))
  | .ixor => hb_two S (fun a b => Nat.beq len 1 && hb_tt 0 0 a b) (fun a b r => (pc + 1, ((hb_xor V a b).1, L, (hb_xor V a b).2 :: r, C)))
  | .idiv => hb_two S (fun a b => Nat.beq len 1 && hb_tt 0 0 a b && hb_nz V b) (fun a b r => (pc + 1, ((hb_div V 0 a b).1, L, (hb_div V 0 a b).2 :: r, C)))
  | .irem => hb_two S (fun a b => Nat.beq len 1 && hb_tt 0 0 a b && hb_nz V b) (fun a b r => (pc + 1, ((hb_rem V 0 a b).1, L, (hb_rem V 0 a b).2 :: r, C)))
  | .ladd => hb_two S (fun a b => Nat.beq len 1 && hb_tt 1 1 a b) (fun a b r => (pc + 1, ((hb_addS V 1 a b).1, L, (hb_addS V 1 a b).2 :: r, C)))
  | .lsub => hb_two S (fun a b => Nat.beq len 1 && hb_tt 1 1 a b) (fun a b r => (pc + 1, ((hb_sub V 1 a b).1, L, (hb_sub V 1 a b).2 :: r, C)))
  | .lmul => hb_two S (fun a b => Nat.beq len 1 && hb_tt 1 1 a b) (fun a b r => (pc + 1, ((hb_mul V 1 a b).1, L, (hb_mul V 1 a b).2 :: r, C)))
  | .ldiv => hb_two S (fun a b => Nat.beq len 1 && hb_tt 1 1 a b && hb_nz V b) (fun a b r => (pc + 1, ((hb_div V 1 a b).1, L, (hb_div V 1 a b).2 :: r, C)))
  | .lrem => hb_two S (fun a b => Nat.beq len 1 && hb_tt 1 1 a b && hb_nz V b) (fun a b r => (pc + 1, ((hb_rem V 1 a b).1, L, (hb_rem V 1 a b).2 :: r, C)))
  | .land => hb_two S (fun a b => Nat.beq len 1 && hb_tt 1 1 a b) (fun _ _ r => (pc + 1, ((hb_bnd V 1 none).1, L, (hb_bnd V 1 none).2 :: r, C)))
  | .lor => hb_two S (fun a b => Nat.beq len 1 && hb_tt 1 1 a b) (fun _ _ r => (pc + 1, ((hb_bnd V 1 none).1, L, (hb_bnd V 1 none).2 :: r, C)))
  | .lshl => hb_two S (fun a b => Nat.beq len 1 && hb_tt 1 0 a b) (fun _ _ r => (pc + 1, ((hb_bnd V 1 none).1, L, (hb_bnd V 1 none).2 :: r, C)))
  | .lshr => hb_two S (fun a b => Nat.beq len 1 && hb_tt 1 0 a b) (fun _ _ r => (pc + 1, ((hb_bnd V 1 none).1, L, (hb_bnd V 1 none).2 :: r, C)))
  | .ishl => hb_two S (fun a b => Nat.beq len 1 && hb_tt 0 0 a b) (fun a b r => (pc + 1, ((hb_shl V a b).1, L, (hb_shl V a b).2 :: r, C)))
  | .ishr => hb_two S (fun a b => Nat.beq len 1 && hb_tt 0 0 a b) (fun a b r => (pc + 1, ((hb_shr V a b).1, L, (hb_shr V a b).2 :: r, C)))
  | .iushr => hb_two S (fun a b => Nat.beq len 1 && hb_tt 0 0 a b) (fun _ _ r => (pc + 1, ((hb_bnd V 0 none).1, L, (hb_bnd V 0 none).2 :: r, C)))
  | .i2l => hb_uno S (fun a => Nat.beq len 1 && Nat.beq a.1 0) (fun a r => (pc + 1, (V, L, (1, a.2) :: r, C)))
  | .l2i => hb_uno S (fun a => Nat.beq len 1 && Nat.beq a.1 1) (fun a r => (pc + 1, ((hb_res V 0 (some a.2) none).1, L, (hb_res V 0 (some a.2) none).2 :: r, C)))
  | .i2b => hb_uno S (fun a => Nat.beq len 1 && Nat.beq a.1 0) (fun a r => (pc + 1, ((hb_cut V a (-128) 127).1, L, (hb_cut V a (-128) 127).2 :: r, C)))
  | .i2s => hb_uno S (fun a => Nat.beq len 1 && Nat.beq a.1 0) (fun a r => (pc + 1, ((hb_cut V a (-32768) 32767).1, L, (hb_cut V a (-32768) 32767).2 :: r, C)))
  | .dup => hb_uno S (fun a => Nat.beq len 1 && Nat.beq (hb_cat a) 1) (fun a r => (pc + 1, (V, L, a :: a :: r, C)))
  | .pop => hb_uno S (fun a => Nat.beq len 1 && Nat.beq (hb_cat a) 1) (fun _ r => (pc + 1, (V, L, r, C)))
  | .dup2 => hb_two S (fun a b => Nat.beq len 1 && Nat.beq (hb_cat a) 1 && Nat.beq (hb_cat b) 1) (fun a b r => (pc + 1, (V, L, b :: a :: b :: a :: r, C)))
  | _ => none
theorem hb_v.refs {n : Nat} {U S : Nat → Nat} {ρ : Nat → Int} {a : hbA} {v : Value} (h : hb_v n U S ρ a v) (ht : Nat.ble 2 a.1 = true) : (∃ x, v = .ref x) ∨ v = .null := by
  obtain ⟨t, m, k, c⟩ := a
  match t, h, ht with
  | 0, _, ht => cases ht
  | 1, _, ht => cases ht
  | 2, h, _ => exact Or.inl ⟨_, h⟩
  | 3, h, _ => exact Or.inr h
  | t + 4, h, _ => exact Or.inl ⟨_, h⟩
section HBP
variable {p : Program} {l : Launch} {e : Env} {R : Room} {s : State} {m : MethodId} {args : Array Value} {below : List Frame} {meth : Method} {c : Code} {Q : State → Prop} {cc : ByteArray} {pc : Nat} {X : hbX} {V : hbV} {L : List (Nat × hbA)} {S : List hbA} {C : List (Nat × hbA × hbA)}
theorem hb_i_dup {a : hbA} (hx : p.tables.exec = Jvm.exec) (hb : c.code = cc) (hdg : decode cc pc = .ok (.dup, 1)) (ha : Nat.beq (hb_cat a) 1 = true)
    (hJ : hb_J X (hb_w p l e R s m args below meth c Q) m (V, L, a :: a :: S, C) (pc + 1)) : hb_J X (hb_w p l e R s m args below meth c Q) m (V, L, a :: S, C) pc := by
  intro ρ wd H locs ls st hs hh
  obtain ⟨v, st1, rfl, h1, hs1⟩ := hs.pop
  exact lv_dup hx hb hdg (h1.cat.trans (Nat.eq_of_beq_eq_true ha)) (hJ ρ wd H locs ls _ ((hs1.push h1).push h1) hh)
theorem hb_i_pop {a : hbA} (hx : p.tables.exec = Jvm.exec) (hb : c.code = cc) (hdg : decode cc pc = .ok (.pop, 1)) (ha : Nat.beq (hb_cat a) 1 = true)
    (hJ : hb_J X (hb_w p l e R s m args below meth c Q) m (V, L, S, C) (pc + 1)) : hb_J X (hb_w p l e R s m args below meth c Q) m (V, L, a :: S, C) pc := by
  intro ρ wd H locs ls st hs hh
  obtain ⟨v, st1, rfl, h1, hs1⟩ := hs.pop
  exact lv_pop hx hb hdg (h1.cat.trans (Nat.eq_of_beq_eq_true ha)) (hJ ρ wd H locs ls _ hs1 hh)
theorem hb_i_dup2 {a b : hbA} (hx : p.tables.exec = Jvm.exec) (hb : c.code = cc) (hdg : decode cc pc = .ok (.dup2, 1)) (h1 : Nat.beq (hb_cat a) 1 = true) (h2 : Nat.beq (hb_cat b) 1 = true)
    (hJ : hb_J X (hb_w p l e R s m args below meth c Q) m (V, L, b :: a :: b :: a :: S, C) (pc + 1)) : hb_J X (hb_w p l e R s m args below meth c Q) m (V, L, b :: a :: S, C) pc := by
  intro ρ wd H locs ls st hs hh
  obtain ⟨v, st1, rfl, g1, hs1⟩ := hs.pop
  obtain ⟨u, st2, rfl, g2, hs2⟩ := hs1.pop
  exact lv_dup2_11 hx hb hdg (g1.cat.trans (Nat.eq_of_beq_eq_true h2)) (g2.cat.trans (Nat.eq_of_beq_eq_true h1)) (hJ ρ wd H locs ls _ ((((hs2.push g2).push g1).push g2).push g1) hh)
theorem hb_i_iinc {i : Nat} {n : Int} {a : hbA} (hx : p.tables.exec = Jvm.exec) (hb : c.code = cc) (hdg : decode cc pc = .ok (.iinc i n, 3)) (hl : hb_lk L i = some a) (hi : i < X.2.2.2.2.2.1) (ha : Nat.beq a.1 0 = true) (hn : (-32768 : Int) ≤ n ∧ n ≤ (32767 : Int))
    (hJ : hb_J X (hb_w p l e R s m args below meth c Q) m ((hb_add V 0 a (0, 0, 0, n)).1, hb_st1 L i (hb_add V 0 a (0, 0, 0, n)).2, S, C) (pc + 3)) : hb_J X (hb_w p l e R s m args below meth c Q) m (V, L, S, C) pc := by
  intro ρ wd H locs ls st hs hh
  obtain ⟨v, g1, g2⟩ := hs.loc hl
  obtain ⟨ka, x, rfl, hx'⟩ := g2.int ha
  have e1 : (Int32.ofInt n).toInt = n := fb_ofI (by omega) (by omega)
  obtain ⟨ρ', a1, a2, a3, a4, a5, a6⟩ := hb_add32 (b := (0, 0, 0, n)) (y := Int32.ofInt n) hs.1 hx' (by rw [e1]; show n = 0 * ρ 0 + n; omega)
  obtain ⟨q1, q2, q3, q4, q5⟩ := hs.num a3 a1 a2
  obtain ⟨lv, r1, r2⟩ := hb_loc.list q3
  obtain ⟨w, r3, r4⟩ := r2 (i, a) (hb_lk_mem hl)
  have ew : w = .int x := by
    have := r1.2.2 _ r3
    rw [g1] at this
    cases this
    rfl
  subst ew
  obtain ⟨k, hk⟩ := List.getElem?_of_mem r3
  exact lv_iinc hx hb hdg r1 hk rfl hi rfl (fun ls' h' => hJ ρ' wd H locs ls' _ ⟨q1, q2, hb_store1 (ls := ls) r2 (hb_v.ofI a4 a5 a6) h', q4, q5⟩ hh)
end HBP
