/-! hc_: making objects: the rows -/
def hc_rm (fr lo mc ms : Nat) : Room := { frames := fr, cells := mc, slots := ms, locals := lo }
/-- what the constructors want of the state besides: the arrays of references can be made -/
def hc_N1 : Cond := .methodLinkNest "HopeBank" 9 ⟨"HopeBank$Reader", "<init>", "()V"⟩ "HopeBank"
def hc_N2 : Cond := .methodLinkNest "HopeBank$Reader" 17 ⟨"HopeBank$Town", "<init>", "()V"⟩ "HopeBank"
def hc_N3 : Cond := .methodLinkNest "HopeBank" 18 ⟨"HopeBank$Town", "<init>", "()V"⟩ "HopeBank"
def hc_X (s : State) : Prop := va_AO "HopeBank$Town" s ∧ (Cond.arrayOver (.array .long)).before #[] s = true ∧ va_Nw hc_N1 s ∧ va_Nw hc_N2 s ∧ va_Nw hc_N3 s
/-- the classes of arrays: ints, bytes, truth values, longs -/
abbrev hcK : Type := ClassId × ClassId × ClassId × ClassId
def hc_K (s : State) (k : hcK) : Prop := (ArrOfT s k.1 .int ∧ va_RA s k.1 .int) ∧ (ArrOfT s k.2.1 .byte ∧ va_RA s k.2.1 .byte) ∧ (ArrOfT s k.2.2.1 .boolean ∧ va_RA s k.2.2.1 .boolean) ∧ (ArrOfT s k.2.2.2 .long ∧ va_RA s k.2.2.2 .long)
theorem hc_K.moved {s t : State} {k : hcK} (hvm : s.vm.Alike t.vm) (h : hc_K s k) : hc_K t k :=
  ⟨⟨arrOfT_moved hvm h.1.1, h.1.2.moved hvm⟩, ⟨arrOfT_moved hvm h.2.1.1, h.2.1.2.moved hvm⟩, ⟨arrOfT_moved hvm h.2.2.1.1, h.2.2.1.2.moved hvm⟩, ⟨arrOfT_moved hvm h.2.2.2.1, h.2.2.2.2.moved hvm⟩⟩
def hc_H (D : va_G) (s : State) (wd0 w : va_W) (H : Heap) (locs : List Loc) : Prop := va_P D vwCl w H ∧ va_D (va_A wd0 s.heap.size) w ∧ va_S (va_A wd0 s.heap.size) s.heap H locs
theorem hc_set {k n : Nat} {x y : Nat × va_E} {wd L : va_W} (hn : wd.length = n) (hk : k < n) : (wd.set k x ++ L).set k y = wd.set k y ++ L := by
  rw [List.set_append_left k y (by rw [List.length_set]; omega), List.set_set]
theorem hc_get {k n : Nat} {x : Nat × va_E} {wd L : va_W} (hn : wd.length = n) (hk : k < n) : (wd.set k x ++ L)[k]? = some x := by
  rw [List.getElem?_append_left (by rw [List.length_set]; omega), List.getElem?_set_self (by omega)]
theorem hc_setr {k n i : Nat} {x y : Nat × va_E} {wd L : va_W} (hn : wd.length = n) : (wd.set k x ++ L).set (n + i) y = wd.set k x ++ L.set i y := by
  rw [List.set_append_right _ _ (by rw [List.length_set]; omega), List.length_set, hn, Nat.add_sub_cancel_left]
theorem hc_getr {k n i : Nat} {x : Nat × va_E} {wd L : va_W} (hn : wd.length = n) : (wd.set k x ++ L)[n + i]? = L[i]? := by
  rw [List.getElem?_append_right (by rw [List.length_set]; omega), List.length_set, hn, Nat.add_sub_cancel_left]
theorem hc_start {k : Nat} {x : Nat × va_E} {wd : va_W} (h : wd[k]? = some x) : wd = wd.set k x ++ [] := by
  rw [List.append_nil]
  obtain ⟨h1, h2⟩ := List.getElem?_eq_some_iff.mp h
  rw [← h2, List.set_getElem_self]
theorem hc_old {k n j : Nat} {x : Nat × va_E} {wd L : va_W} (hn : wd.length = n) (hj : j < n) (hk : k ≠ j) : (wd.set k x ++ L)[j]? = wd[j]? := by
  rw [List.getElem?_append_left (by rw [List.length_set]; omega), List.getElem?_set_ne hk]
def hc_Pre (D : va_G) (U S : Nat → Nat) (wd : va_W) (sz : Nat) (fp : List Nat) (St : State) : Prop := hb_Pre hb_G D U S wd sz fp St ∧ hc_X St
def hc_Post (D : va_G) (wd : va_W) (sz : Nat) (PS : State → va_W → Prop) : Array Value → State → Outcome → State → Prop := fun _ st oc t => (∃ v, oc = .returned v ∧ (v = none ∧ ∃ wd', PS t wd' ∧ va_P D vwCl wd' t.heap ∧ va_D (va_A wd sz) wd')) ∧ va_F (va_A wd sz) st t
def hc_Met (l : Launch) (y : hbY) (fr lo mc ms : Nat) (D : va_G) (U S : Nat → Nat) (wd : va_W) (fp : List Nat) (vs : List Value) (PS : State → va_W → Prop) : Prop := ∀ sz, Met l y.1 (.code y.1 y.2.1 y.2.2.1 y.2.2.2 :: hb_G.2.1.1) (hc_rm fr lo mc ms) (va_Pc vs (hc_Pre D U S wd sz fp)) (hc_Post D wd sz PS) mc ms (va_A wd sz)
theorem hc_X.warm {s t : State} (hW : s.WarmedH t.vm) (h : hc_X s) : hc_X t := ⟨h.1.moved hW.alike, over_moved hW.alike h.2.1, h.2.2.1.warmM hW, h.2.2.2.1.warmM hW, h.2.2.2.2.warmM hW⟩
theorem hc_X.same {s t : State} (hvm : s.vm = t.vm) (h : hc_X s) : hc_X t := ⟨h.1.moved (by rw [hvm]; exact Vm.Alike.refl _), over_moved (by rw [hvm]; exact Vm.Alike.refl _) h.2.1, h.2.2.1.same rfl hvm, h.2.2.2.1.same rfl hvm, h.2.2.2.2.same rfl hvm⟩
theorem hc_blind (D : va_G) (U S : Nat → Nat) (wd : va_W) (sz : Nat) (fp : List Nat) (vs : List Value) : FrameBlind (va_Pc vs (hc_Pre D U S wd sz fp)) := by
  intro a St g mk h
  obtain ⟨h1, h2, h3⟩ := h
  obtain ⟨h4, h5⟩ := hb_blind hb_GokG D U S wd sz fp vs a St g mk ⟨h1, h2⟩
  exact ⟨h4, h5, h3.same (t := St.calling g mk a) rfl⟩
theorem hc_enter {l : Launch} {y : hbY} {fr lo mc ms : Nat} {D : va_G} {U S : Nat → Nat} {wd : va_W} {fp : List Nat} {vs : List Value} {PS : State → va_W → Prop} (hpn : plainName y.1.cls = true) (hlen : (lg_sl vs).length ≤ y.2.2.1)
    (body : ∀ (p : Program) (e : Env) (s : State) (m : MethodId) (below : List Frame) (meth : Method) (c : Code) (ls : Array Slot), hb_Bd hb_G y p s m vs.toArray meth c → meth.name = y.1.name → hc_H D s wd wd s.heap [] → hb_wd hb_KT s U wd fp → hb_Gs hb_G D (va_A wd s.heap.size) S s → hc_X s → lv_has ls y.2.2.1 (lv_args 0 vs) →
      W p l e (hc_rm fr lo mc ms) s m vs.toArray below meth c s.heap [] 0 0 (MQ below (hc_Post D wd s.heap.size PS) vs.toArray s mc ms (va_A wd s.heap.size)) (F0 m 0 ls [])) : hc_Met l y fr lo mc ms D U S wd fp vs PS := by
  intro sz
  refine Met.ofW (cc := y.2.1) (maxL := y.2.2.1) (ret := y.2.2.2) hpn rfl ?_
  intro p e s m args below meth c s₁ B hml hv
  obtain ⟨rfl, ⟨hsz, hP, hD0, hwd, hGs⟩, hX⟩ := hv
  have hts := atoms_spec (ws := (.code y.1 y.2.1 y.2.2.1 y.2.2.2 :: hb_G.2.1.1)) B.pre
  have hBd : hb_Bd hb_G y p s m vs.toArray meth c := ⟨B.exec, B.bytes, hml, findClass_of_methodNamed B.named, B.notSynchronized, B.returns, fun w hw => hts w (List.mem_cons_of_mem _ hw)⟩
  have hin : meth.name = y.1.name := (name_of_methodNamed B.named B.method).1
  clear hts B
  subst hsz
  have hl := lv_entry vs (n := y.2.2.1) hlen
  rw [lg_entry_eq]
  generalize (lg_sl vs ++ List.replicate (y.2.2.1 - (lg_sl vs).length) Slot.unset).toArray = ls at hl ⊢
  exact body p e s m below meth c ls hBd hin ⟨hP, hD0.self (sz := s.heap.size), va_S.rf⟩ hwd hGs hX hl
section HC
variable {p : Program} {l : Launch} {e : Env} {R : Room} {s : State} {m : MethodId} {args : Array Value} {below : List Frame} {meth : Method} {c : Code} {Q : State → Prop} {cc : ByteArray} {pc cells slots : Nat} {D : va_G} {U S : Nat → Nat} {wd0 w w' : va_W} {y y0 : hbY} {ls : Array Slot} {rest : List Value} {fp : List Nat} {H : Heap} {locs : List Loc} {own C : String} {T : u_T} {N ci index : Nat} {fs fs' : List Value} {ty : Nat → FieldType}
theorem hc_new (hx : p.tables.exec = Jvm.exec) (hb : c.code = cc) (hown : s.vm.findClass own = some m.cls) (hTw : ∀ w ∈ hb_G.2.1.1, w.before args s = true) (hK : va_K D vwCl [] s) (hh : hc_H D s wd0 w H locs) (hc : vwCl[ci]? = some (C, T, N)) (hty : ∀ k, k < N → parseFieldDescriptor (T k).2.2.1 = some (ty k)) (hfs : ∀ j, j < N → defaultValue (ty j) = vp_V fs j) (w1 : Cond.classLink own index C ∈ hb_G.2.1.1) (w2 : Cond.instantiable C N ∈ hb_G.2.1.1) (w3 : Cond.initialized C ∈ hb_G.2.1.1) (hcl : cells + 1 ≤ R.cells) (hsl : slots + N ≤ R.slots) (hdg : decode cc pc = .ok (.new index, 3))
    (kk : ∀ (q : Nat) (H1 : Heap), hc_H D s wd0 (w ++ [(q, .inr (ci, fs))]) H1 locs → W p l e R s m args below meth c H1 locs (cells + 1) (slots + N) Q (F0 m (pc + 3) ls (.ref q :: rest))) : W p l e R s m args below meth c H locs cells slots Q (F0 m pc ls rest) :=
  va_new (fs := fs) hx hb hTw (hb_tabsG ci _ _ _ hc).1 ty hty hown (hTw _ w1) (hTw _ w2) (hTw _ w3) hK hh.1 hh.2.1 hh.2.2 (fun q h => Or.inr h) hc hfs hcl hsl hdg (fun q H1 hP hD hS => kk q H1 ⟨hP, hD, hS⟩)
theorem hc_newi {n : Int32} {N' : Nat} {cA : ClassId} (hx : p.tables.exec = Jvm.exec) (hb : c.code = cc) (hTw : ∀ w ∈ hb_G.2.1.1, w.before args s = true) (hK : va_K D vwCl [] s) (hh : hc_H D s wd0 w H locs) (w1 : Cond.arrayClass .int ∈ hb_G.2.1.1) (hcA : va_RA s cA .int) (hn : ¬ n < 0) (hN : n.toNatClampNeg = N') (hby : N' * 4 ≤ 536870912) (hcl : cells + 1 ≤ R.cells) (hsl : slots + N' ≤ R.slots) (hdg : decode cc pc = .ok (.newarray .int, 2))
    (kk : ∀ (q : Nat) (H1 : Heap), hc_H D s wd0 (w ++ [(q, .inl (cA, N', .inl (fun _ => 0)))]) H1 locs → W p l e R s m args below meth c H1 locs (cells + 1) (slots + N') Q (F0 m (pc + 2) ls (.ref q :: rest))) : W p l e R s m args below meth c H locs cells slots Q (F0 m pc ls (.int n :: rest)) := by
  refine va_newa (atype := .int) (ty := .int) (a0 := (N', .inl (fun _ => 0))) hx hb (hTw _ w1) rfl hK hh.1 hh.2.1 hh.2.2 (fun q h => Or.inr h) (fun cB => ?_) hn hN hby hcl hsl hdg (fun q cB H1 hK1 hP hD hS => ?_)
  · rw [vp_cell_i]; rfl
  · have e1 := (hK1.2 0 (cB, .int) rfl).2
    have e2 : cB = cA := Option.some.inj (Eq.trans (Eq.symm (show s.vm.findClass ("[" ++ (FieldType.int).toString) = some cB from e1)) (show s.vm.findClass ("[" ++ (FieldType.int).toString) = some cA from hcA))
    subst e2
    exact kk q H1 ⟨hP, hD, hS⟩
theorem hc_newb {n : Int32} {N' : Nat} {cA : ClassId} (hx : p.tables.exec = Jvm.exec) (hb : c.code = cc) (hTw : ∀ w ∈ hb_G.2.1.1, w.before args s = true) (hK : va_K D vwCl [] s) (hh : hc_H D s wd0 w H locs) (w1 : Cond.arrayClass .byte ∈ hb_G.2.1.1) (hcA : va_RA s cA .byte) (hn : ¬ n < 0) (hN : n.toNatClampNeg = N') (hby : N' * 1 ≤ 536870912) (hcl : cells + 1 ≤ R.cells) (hsl : slots + N' ≤ R.slots) (hdg : decode cc pc = .ok (.newarray .byte, 2))
    (kk : ∀ (q : Nat) (H1 : Heap), hc_H D s wd0 (w ++ [(q, .inl (cA, N', .inl (fun _ => 0)))]) H1 locs → W p l e R s m args below meth c H1 locs (cells + 1) (slots + N') Q (F0 m (pc + 2) ls (.ref q :: rest))) : W p l e R s m args below meth c H locs cells slots Q (F0 m pc ls (.int n :: rest)) := by
  refine va_newa (atype := .byte) (ty := .byte) (a0 := (N', .inl (fun _ => 0))) hx hb (hTw _ w1) rfl hK hh.1 hh.2.1 hh.2.2 (fun q h => Or.inr h) (fun cB => ?_) hn hN hby hcl hsl hdg (fun q cB H1 hK1 hP hD hS => ?_)
  · rw [vp_cell_i]; rfl
  · have e1 := (hK1.2 0 (cB, .byte) rfl).2
    have e2 : cB = cA := Option.some.inj (Eq.trans (Eq.symm (show s.vm.findClass ("[" ++ (FieldType.byte).toString) = some cB from e1)) (show s.vm.findClass ("[" ++ (FieldType.byte).toString) = some cA from hcA))
    subst e2
    exact kk q H1 ⟨hP, hD, hS⟩
theorem hc_newz {n : Int32} {N' : Nat} {cA : ClassId} (hx : p.tables.exec = Jvm.exec) (hb : c.code = cc) (hTw : ∀ w ∈ hb_G.2.1.1, w.before args s = true) (hK : va_K D vwCl [] s) (hh : hc_H D s wd0 w H locs) (w1 : Cond.arrayClass .boolean ∈ hb_G.2.1.1) (hcA : va_RA s cA .boolean) (hn : ¬ n < 0) (hN : n.toNatClampNeg = N') (hby : N' * 1 ≤ 536870912) (hcl : cells + 1 ≤ R.cells) (hsl : slots + N' ≤ R.slots) (hdg : decode cc pc = .ok (.newarray .boolean, 2))
    (kk : ∀ (q : Nat) (H1 : Heap), hc_H D s wd0 (w ++ [(q, .inl (cA, N', .inl (fun _ => 0)))]) H1 locs → W p l e R s m args below meth c H1 locs (cells + 1) (slots + N') Q (F0 m (pc + 2) ls (.ref q :: rest))) : W p l e R s m args below meth c H locs cells slots Q (F0 m pc ls (.int n :: rest)) := by
  refine va_newa (atype := .boolean) (ty := .boolean) (a0 := (N', .inl (fun _ => 0))) hx hb (hTw _ w1) rfl hK hh.1 hh.2.1 hh.2.2 (fun q h => Or.inr h) (fun cB => ?_) hn hN hby hcl hsl hdg (fun q cB H1 hK1 hP hD hS => ?_)
  · rw [vp_cell_i]; rfl
  · have e1 := (hK1.2 0 (cB, .boolean) rfl).2
    have e2 : cB = cA := Option.some.inj (Eq.trans (Eq.symm (show s.vm.findClass ("[" ++ (FieldType.boolean).toString) = some cB from e1)) (show s.vm.findClass ("[" ++ (FieldType.boolean).toString) = some cA from hcA))
    subst e2
    exact kk q H1 ⟨hP, hD, hS⟩
theorem hc_newj {n : Int32} {N' : Nat} {cA : ClassId} (hx : p.tables.exec = Jvm.exec) (hb : c.code = cc) (hTw : ∀ w ∈ hb_G.2.1.1, w.before args s = true) (hK : va_K D vwCl [] s) (hh : hc_H D s wd0 w H locs) (w1 : Cond.arrayClass .long ∈ hb_G.2.1.1) (hcA : va_RA s cA .long) (hn : ¬ n < 0) (hN : n.toNatClampNeg = N') (hby : N' * 8 ≤ 536870912) (hcl : cells + 1 ≤ R.cells) (hsl : slots + N' ≤ R.slots) (hdg : decode cc pc = .ok (.newarray .long, 2))
    (kk : ∀ (q : Nat) (H1 : Heap), hc_H D s wd0 (w ++ [(q, .inl (cA, N', .inr (.inl (fun _ => 0))))]) H1 locs → W p l e R s m args below meth c H1 locs (cells + 1) (slots + N') Q (F0 m (pc + 2) ls (.ref q :: rest))) : W p l e R s m args below meth c H locs cells slots Q (F0 m pc ls (.int n :: rest)) := by
  refine va_newa (atype := .long) (ty := .long) (a0 := (N', .inr (.inl (fun _ => 0)))) hx hb (hTw _ w1) rfl hK hh.1 hh.2.1 hh.2.2 (fun q h => Or.inr h) (fun cB => ?_) hn hN hby hcl hsl hdg (fun q cB H1 hK1 hP hD hS => ?_)
  · rfl
  · have e1 := (hK1.2 0 (cB, .long) rfl).2
    have e2 : cB = cA := Option.some.inj (Eq.trans (Eq.symm (show s.vm.findClass ("[" ++ (FieldType.long).toString) = some cB from e1)) (show s.vm.findClass ("[" ++ (FieldType.long).toString) = some cA from hcA))
    subst e2
    exact kk q H1 ⟨hP, hD, hS⟩
/-- a field that is not final -/
theorem hc_put {q0 a k : Nat} {v : Value} {t : FieldType} (hx : p.tables.exec = Jvm.exec) (hb : c.code = cc) (hown : s.vm.findClass own = some m.cls) (hTw : ∀ w ∈ hb_G.2.1.1, w.before args s = true) (hK : va_K D vwCl [] s) (hh : hc_H D s wd0 w H locs) (hc : vwCl[ci]? = some (C, T, N)) (he : w[q0]? = some (a, .inr (ci, fs))) (hk : k < N) (w1 : Cond.fieldLink own index (T k).1 (T k).2.1 (T k).2.2.1 ∈ hb_G.2.1.1) (hfin : (T k).2.2.2 = false) (hd : parseFieldDescriptor (T k).2.2.1 = some t) (hn : narrow t v = v) (hf : fits t v = true) (hl : k < fs.length) (hdg : decode cc pc = .ok (.putfield index, 3)) (hw : w.set q0 (a, .inr (ci, fs.set k v)) = w')
    (kk : ∀ (H1 : Heap) (locs1 : List Loc), hc_H D s wd0 w' H1 locs1 → W p l e R s m args below meth c H1 locs1 cells slots Q (F0 m (pc + 3) ls rest)) : W p l e R s m args below meth c H locs cells slots Q (F0 m pc ls (v :: .ref a :: rest)) := by
  obtain ⟨g1, ⟨ty0, g2⟩, g3⟩ := hb_tabsG ci _ _ _ hc
  exact va_put hx hb hTw g1 ty0 g2 g3 hown hK hh.1 hh.2.1 hh.2.2 q0 he hc k hk (hTw _ w1) (fun _ h => h) hfin hd hn hf hl hdg (fun H1 locs1 hP hD hS => kk H1 locs1 (by rw [← hw]; exact ⟨hP, hD, hS⟩))
/-- a final one, in a constructor -/
theorem hc_putF {q0 a k : Nat} {v : Value} {t : FieldType} (hx : p.tables.exec = Jvm.exec) (hb : c.code = cc) (hown : s.vm.findClass own = some m.cls) (hTw : ∀ w ∈ hb_G.2.1.1, w.before args s = true) (hK : va_K D vwCl [] s) (hin : meth.name = "<init>") (hh : hc_H D s wd0 w H locs) (hc : vwCl[ci]? = some (C, T, N)) (he : w[q0]? = some (a, .inr (ci, fs))) (hk : k < N) (w1 : Cond.fieldLink own index (T k).1 (T k).2.1 (T k).2.2.1 ∈ hb_G.2.1.1) (hfin : (T k).2.2.2 = true) (hdc : (T k).1 = own) (hd : parseFieldDescriptor (T k).2.2.1 = some t) (hn : narrow t v = v) (hf : fits t v = true) (hl : k < fs.length) (hdg : decode cc pc = .ok (.putfield index, 3)) (hw : w.set q0 (a, .inr (ci, fs.set k v)) = w')
    (kk : ∀ (H1 : Heap) (locs1 : List Loc), hc_H D s wd0 w' H1 locs1 → W p l e R s m args below meth c H1 locs1 cells slots Q (F0 m (pc + 3) ls rest)) : W p l e R s m args below meth c H locs cells slots Q (F0 m pc ls (v :: .ref a :: rest)) := by
  obtain ⟨g1, ⟨ty0, g2⟩, g3⟩ := hb_tabsG ci _ _ _ hc
  exact va_putF hx hb hTw g1 ty0 g2 g3 hown hK hh.1 hh.2.1 hh.2.2 q0 he hc k hk (hTw _ w1) (fun _ h => h) hfin hin hdc hd hn hf hl hdg (fun H1 locs1 hP hD hS => kk H1 locs1 (by rw [← hw]; exact ⟨hP, hD, hS⟩))
theorem hc_getf {q0 a k : Nat} {v : Value} (hx : p.tables.exec = Jvm.exec) (hb : c.code = cc) (hown : s.vm.findClass own = some m.cls) (hTw : ∀ w ∈ hb_G.2.1.1, w.before args s = true) (hK : va_K D vwCl [] s) (hh : hc_H D s wd0 w H locs) (hc : vwCl[ci]? = some (C, T, N)) (he : w[q0]? = some (a, .inr (ci, fs))) (hk : k < N) (w1 : Cond.fieldLink own index (T k).1 (T k).2.1 (T k).2.2.1 ∈ hb_G.2.1.1) (hv : fs[k]? = some v) (hdg : decode cc pc = .ok (.getfield index, 3))
    (kk : W p l e R s m args below meth c H locs cells slots Q (F0 m (pc + 3) ls (v :: rest))) : W p l e R s m args below meth c H locs cells slots Q (F0 m pc ls (.ref a :: rest)) :=
  va_get hx hb hTw (hb_tabsG ci _ _ _ hc).1 hown hK hh.1 q0 he hc k hk (hTw _ w1) (fun _ h => h) hv hdg kk
theorem hc_obj {a : Nat} (hx : p.tables.exec = Jvm.exec) (hb : c.code = cc) (hml : c.maxLocals = ls.size) (hown : s.vm.findClass own = some m.cls) (hTw : ∀ w ∈ hb_G.2.1.1, w.before args s = true) (w1 : Cond.methodLink own index Lib.objectInit ∈ hb_G.2.1.1) (w2 : Cond.instanceMethod Lib.objectInit ∈ hb_G.2.1.1) (w3 : Cond.code Lib.objectInit ⟨#[0xb1]⟩ 1 none ∈ hb_G.2.1.1) (hdg : decode cc pc = .ok (.invokespecial index, 3)) (hf : 1 ≤ R.frames) (hlo : (rest.map fun v => v.category).sum + 12 ≤ R.locals)
    (kk : W p l e R s m args below meth c H locs cells slots Q (F0 m (pc + 3) ls rest)) : W p l e R s m args below meth c H locs cells slots Q (F0 m pc ls (.ref a :: rest)) :=
  W.objInit (g := F0 m pc ls (.ref a :: rest)) hx hb hown (hTw _ w1) (hTw _ w2) (hTw _ w3) rfl hml.symm rfl hdg hf (by show 2 * 0 + _ + 12 ≤ _; omega) kk
theorem hc_max {idx nL : Nat} {x z v : Int32} (hx : p.tables.exec = Jvm.exec) (hb : c.code = cc) (hml : c.maxLocals = nL) (hown : s.vm.findClass own = some m.cls) (hTw : ∀ w ∈ hb_G.2.1.1, w.before args s = true) (w1 : Cond.methodLink own idx Lib.Math.max.name ∈ hb_G.2.1.1) (w2 : Cond.static Lib.Math.max.name ∈ hb_G.2.1.1) (w3 : Cond.initialized "java/lang/Math" ∈ hb_G.2.1.1) (w4 : Cond.code Lib.Math.max.name Lib.Math.max.code 2 (some .int) ∈ hb_G.2.1.1) (hsz : ls.size = nL) (hf : 1 ≤ R.frames) (hlo : (rest.map fun v => v.category).sum + 13 ≤ R.locals) (hcl : cells ≤ R.cells) (hsl : slots ≤ R.slots) (hv : (if x < z then z else x) = v) (hdg : decode cc pc = .ok (.invokestatic idx, 3)) (k : W p l e R s m args below meth c H locs cells slots Q (F0 m (pc + 3) ls (.int v :: rest))) : W p l e R s m args below meth c H locs cells slots Q (F0 m pc ls (.int z :: .int x :: rest)) := by
  refine va_mmax hx hb (by rw [hml, hsz]) hown (hTw _ w1) (hTw _ w2) (hTw _ w3) (hTw _ w4) hf hlo hcl hsl hdg ?_
  rw [hv]
  exact k
theorem hc_ast {q0 a n : Nat} {i x : Int32} {cA : ClassId} {f : Nat → Int32} (hx : p.tables.exec = Jvm.exec) (hb : c.code = cc) (hK : va_K D vwCl [] s) (hA1 : ArrOfT s cA .int) (hA2 : va_RA s cA .int) (hh : hc_H D s wd0 w H locs) (he : w[q0]? = some (a, .inl (cA, n, .inl f))) (hi : vp_in i n) (hdg : decode cc pc = .ok (.iastore, 1)) (hw : w.set q0 (a, .inl (cA, n, .inl (upd f i.toNatClampNeg x))) = w')
    (kk : ∀ (H1 : Heap) (locs1 : List Loc), hc_H D s wd0 w' H1 locs1 → W p l e R s m args below meth c H1 locs1 cells slots Q (F0 m (pc + 1) ls rest)) : W p l e R s m args below meth c H locs cells slots Q (F0 m pc ls (.int x :: .int i :: .ref a :: rest)) :=
  va_iast hx hb (hb_Karr hK hA1 hA2) hh.1 hh.2.1 hh.2.2 q0 0 he rfl hi hdg (fun H1 locs1 hP hD hS => kk H1 locs1 (by rw [← hw]; exact ⟨hP, hD, hS⟩))
theorem hc_callW {P : Option Value → State → Prop} {mc ms : Nat} {st0 : List Value} {A0 A1 : Nat → Prop} {H0 : Heap} {free : Addr → Prop} (hr : va_Run p l e R s m args below meth c H locs cells slots mc ms (F0 m pc ls st0) rest (fun st oc t => (∃ v, oc = .returned v ∧ P v t) ∧ va_F A1 st t) free) (hS : va_S A0 H0 H locs) (hA : ∀ q, q < H.size → A1 q → A0 q) (hf : ∀ q, free q → A0 q)
    (kk : ∀ (v : Option Value) (t : State) (H1 : Heap) (locs1 : List Loc), t.heap = H1 → s.vm.Alike t.vm → P v t → va_S A0 H0 H1 locs1 → W p l e R s m args below meth c H1 locs1 (cells + mc) (slots + ms) Q (F0 m (pc + 3) ls (v.toList ++ rest))) : W p l e R s m args below meth c H locs cells slots Q (F0 m pc ls st0) := by
  intro T' hT X
  obtain ⟨v, st₀, t, T1, L, h0, X', hL, e1, e2, ⟨⟨v', hv, hp⟩, hz, hk⟩, st⟩ := hr T' hT X
  cases hv
  rw [h0] at hz hk
  obtain ⟨t2, a1, b1⟩ := kk v t T1.heap (locs ++ L) e1.symm (by rw [← e2]; exact X'.warmed.alike) hp
    ⟨Nat.le_trans hS.1 (by rw [e1]; exact hz), fun q h1 h2 => by rw [e1, hk q (Nat.lt_of_lt_of_le h1 hS.1) (fun z => h2 (hA q (Nat.lt_of_lt_of_le h1 hS.1) z))]; exact hS.2.1 q h1 h2, fun q hq => by
      rcases List.mem_append.mp hq with h | h
      · exact hS.2.2 q h
      · exact hf _ (hL q h)⟩ T1 rfl X'
  exact ⟨t2, st t2 a1, b1⟩
theorem hc_A (hh : hc_H D s wd0 w H locs) : ∀ q, va_A w H.size q → va_A wd0 s.heap.size q := by
  intro q hq
  rcases hq with ⟨k, e, hk⟩ | hq
  · exact hh.2.1.2 k (q, e) hk
  · exact Or.inr (Nat.le_trans hh.2.2.1 hq)
theorem hc_cI {nm : MethodName} {bc : ByteArray} {mL fr lo mc ms idx b : Nat} {As st : List Value} {PS : State → va_W → Prop} (hBd : hb_Bd hb_G y0 p s m args meth c) (hGs : hb_Gs hb_G D (va_A wd0 s.heap.size) S s) (hX : hc_X s) (hh : hc_H D s wd0 w H locs) (hwd : hb_wd hb_KT s U w fp) (hM : hc_Met l (nm, bc, mL, none) fr lo mc ms D U S w fp (.ref b :: As) PS) (hcd : Cond.code nm bc mL none ∈ hb_G.2.1.1) (hini : Cond.initialized nm.cls ∈ hb_G.2.1.1) (hlink : Cond.methodLink y0.1.cls idx nm ∈ hb_G.2.1.1) (hinst : Cond.instanceMethod nm ∈ hb_G.2.1.1) (hy : nm.name = "<init>") (hnm : nm.cls ≠ "java/lang/invoke/MethodHandle" ∧ nm.cls ≠ "java/lang/invoke/VarHandle") (hR : fr + 1 ≤ R.frames ∧ 8 + (mL + 11) + lo ≤ R.locals) (hnp : ∀ sig, parseMethodDescriptor nm.desc = some sig → As.length = sig.parameters.length) (hsz : ls.size = y0.2.2.1) (hst : st = As.reverse ++ .ref b :: rest) (hcat : (rest.map fun v => v.category).sum ≤ 8) (hcs : cells + mc ≤ R.cells ∧ slots + ms ≤ R.slots) (hdg : decode y0.2.1 pc = .ok (.invokespecial idx, 3))
    (kk : ∀ (t : State) (w1 : va_W) (H1 : Heap) (locs1 : List Loc), s.vm.Alike t.vm → PS t w1 → hc_H D s wd0 w1 H1 locs1 → W p l e R s m args below meth c H1 locs1 (cells + mc) (slots + ms) Q (F0 m (pc + 3) ls rest)) : W p l e R s m args below meth c H locs cells slots Q (F0 m pc ls st) := by
  obtain ⟨hx, hb, hml, hown, hlocks, hret, hTw⟩ := hBd
  have hA1 := hc_A hh
  refine hc_callW (P := fun v t => v = none ∧ ∃ wd', PS t wd' ∧ va_P D vwCl wd' t.heap ∧ va_D (va_A w H.size) wd') (A1 := va_A w H.size) (free := va_A w H.size) (va_runI (b := b) (As := As) (n := As.length) (index := idx) (rest := rest) ⟨hx, hb, hml, hown, hTw⟩ (hM H.size) ⟨⟨rfl, rfl, hR.1, hR.2, hb_wsW (y := (nm, bc, mL, none)) hb_goodG hTw hcd, List.mem_cons_self, hTw _ hcd, hTw _ hini, hnm, hnp, hTw _ hlink⟩, hy, hTw _ hinst⟩ ⟨hc_blind _ _ _ _ _ _ _, fun V hV hW => ⟨rfl, ⟨by rw [hV], by rw [hV]; exact hh.1, hh.2.1.weaken (fun _ _ _ _ => trivial), hwd.moved hW.alike, hb_Gs.move hb_GokG hW (fun q' h1 h2 => by rw [hV]; exact hh.2.2.2.1 q' h1 h2) hA1 hGs⟩, hX.warm hW⟩⟩ rfl rfl hsz hst (lv_room hcat) hdg hcs) hh.2.2 (fun q _ hq => hA1 q hq) hA1 ?_
  intro v t H1 locs1 ht hvm hP hS
  obtain ⟨rfl, wd', p1, p2, p3⟩ := hP
  exact kk t wd' H1 locs1 hvm p1 ⟨by rw [← ht]; exact p2, p3.weaken (fun q _ _ h => hA1 _ h), hS⟩
theorem hc_cIN {host : String} {nm : MethodName} {bc : ByteArray} {mL fr lo mc ms idx b : Nat} {As st : List Value} {PS : State → va_W → Prop} (hBd : hb_Bd hb_G y0 p s m args meth c) (hGs : hb_Gs hb_G D (va_A wd0 s.heap.size) S s) (hX : hc_X s) (hh : hc_H D s wd0 w H locs) (hwd : hb_wd hb_KT s U w fp) (hM : hc_Met l (nm, bc, mL, none) fr lo mc ms D U S w fp (.ref b :: As) PS) (hcd : Cond.code nm bc mL none ∈ hb_G.2.1.1) (hini : Cond.initialized nm.cls ∈ hb_G.2.1.1) (hlink : va_Nw (Cond.methodLinkNest y0.1.cls idx nm host) s) (hinst : Cond.instanceMethod nm ∈ hb_G.2.1.1) (hy : nm.name = "<init>") (hnm : nm.cls ≠ "java/lang/invoke/MethodHandle" ∧ nm.cls ≠ "java/lang/invoke/VarHandle") (hR : fr + 1 ≤ R.frames ∧ 8 + (mL + 11) + lo ≤ R.locals) (hnp : ∀ sig, parseMethodDescriptor nm.desc = some sig → As.length = sig.parameters.length) (hsz : ls.size = y0.2.2.1) (hst : st = As.reverse ++ .ref b :: rest) (hcat : (rest.map fun v => v.category).sum ≤ 8) (hcs : cells + mc ≤ R.cells ∧ slots + ms ≤ R.slots) (hdg : decode y0.2.1 pc = .ok (.invokespecial idx, 3))
    (kk : ∀ (t : State) (w1 : va_W) (H1 : Heap) (locs1 : List Loc), s.vm.Alike t.vm → PS t w1 → hc_H D s wd0 w1 H1 locs1 → W p l e R s m args below meth c H1 locs1 (cells + mc) (slots + ms) Q (F0 m (pc + 3) ls rest)) : W p l e R s m args below meth c H locs cells slots Q (F0 m pc ls st) := by
  obtain ⟨hx, hb, hml, hown, hlocks, hret, hTw⟩ := hBd
  have hA1 := hc_A hh
  refine hc_callW (P := fun v t => v = none ∧ ∃ wd', PS t wd' ∧ va_P D vwCl wd' t.heap ∧ va_D (va_A w H.size) wd') (A1 := va_A w H.size) (free := va_A w H.size) (va_runIN (host := host) (b := b) (As := As) (n := As.length) (index := idx) (rest := rest) ⟨hx, hb, hml, hown, hTw⟩ (hM H.size) ⟨⟨⟨rfl, rfl, hR.1, hR.2, hb_wsW (y := (nm, bc, mL, none)) hb_goodG hTw hcd, List.mem_cons_self⟩, hTw _ hcd, hTw _ hini, hnm, hnp, hlink.use rfl⟩, hy, hTw _ hinst⟩ ⟨hc_blind _ _ _ _ _ _ _, fun V hV hW => ⟨rfl, ⟨by rw [hV], by rw [hV]; exact hh.1, hh.2.1.weaken (fun _ _ _ _ => trivial), hwd.moved hW.alike, hb_Gs.move hb_GokG hW (fun q' h1 h2 => by rw [hV]; exact hh.2.2.2.1 q' h1 h2) hA1 hGs⟩, hX.warm hW⟩⟩ rfl rfl hsz hst (lv_room hcat) hdg hcs) hh.2.2 (fun q _ hq => hA1 q hq) hA1 ?_
  intro v t H1 locs1 ht hvm hP hS
  obtain ⟨rfl, wd', p1, p2, p3⟩ := hP
  exact kk t wd' H1 locs1 hvm p1 ⟨by rw [← ht]; exact p2, p3.weaken (fun q _ _ h => hA1 _ h), hS⟩
theorem hc_ret {PS : State → va_W → Prop} (hx : p.tables.exec = Jvm.exec) (hb : c.code = cc) (hret : meth.sig.returnType = none) (hlocks : meth.locks = false) (hh : hc_H D s wd0 w H locs) (hdg : decode cc pc = .ok (.return_, 1)) (hps : ∀ t : State, s.vm.Alike t.vm → PS t w) : W p l e R s m args below meth c H locs cells slots (MQ below (hc_Post D wd0 s.heap.size PS) args s cells slots (va_A wd0 s.heap.size)) (F0 m pc ls []) :=
  W.vret hx hb hret (fun t ht hW => ⟨⟨none, rfl, rfl, w, hps t hW.alike, by rw [ht]; exact hh.1, hh.2.1⟩, hh.2.2.F ht⟩) hh.2.2.2.2 hdg hlocks
end HC
theorem hc_nofp {s : State} {U : Nat → Nat} {w : va_W} : hb_wd hb_KT s U w [] := fun _ h => absurd h List.not_mem_nil
theorem hc_ar1 {args : Array Value} {s : State} {ty : FieldType} (h : (Cond.arrayClass ty).before args s = true) (hp : ∀ C, ty ≠ .object C) : ∃ cA, ArrOfT s cA ty ∧ va_RA s cA ty := by
  obtain ⟨cA, k, comp, h1, h2, h3⟩ := Cond.arrayClass_spec h
  refine ⟨cA, fun N z => ⟨(fun k h => by cases h), k, h2, comp, h3⟩, ?_⟩
  cases ty with
  | object C => exact absurd rfl (hp C)
  | _ => exact h1
theorem hc_Ku {s t : State} {k k1 : hcK} (hvm : s.vm.Alike t.vm) (h : hc_K s k) (h1 : hc_K t k1) : k1 = k := by
  obtain ⟨⟨-, a1⟩, ⟨-, a2⟩, ⟨-, a3⟩, -, a4⟩ := h.moved hvm
  obtain ⟨⟨-, b1⟩, ⟨-, b2⟩, ⟨-, b3⟩, -, b4⟩ := h1
  obtain ⟨x1, x2, x3, x4⟩ := k
  obtain ⟨y1, y2, y3, y4⟩ := k1
  have e1 : y1 = x1 := Option.some.inj (Eq.trans (Eq.symm b1) a1)
  have e2 : y2 = x2 := Option.some.inj (Eq.trans (Eq.symm b2) a2)
  have e3 : y3 = x3 := Option.some.inj (Eq.trans (Eq.symm b3) a3)
  have e4 : y4 = x4 := Option.some.inj (Eq.trans (Eq.symm b4) a4)
  rw [e1, e2, e3, e4]
