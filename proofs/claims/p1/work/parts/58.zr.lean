/-! hb_: methods that only read: their answers, exactly -/
def hb_rmF (fr lo : Nat) : Room := { frames := fr, cells := 0, slots := 0, locals := lo }
def hb_RO (H0 : Heap) (r : Option Value) : Array Value → State → Outcome → State → Prop := fun _ st oc t => (∃ v, oc = .returned v ∧ (v = r ∧ t.heap = H0)) ∧ va_F (fun _ => False) st t
def hb_MR (G : hbG) (l : Launch) (y : hbY) (fr lo : Nat) (H0 : Heap) (Pre : State → Prop) (vs : List Value) (r : Option Value) : Prop := Met l y.1 (.code y.1 y.2.1 y.2.2.1 y.2.2.2 :: G.2.1.1) (hb_rmF fr lo) (va_Pc vs (fun St => St.heap = H0 ∧ Pre St)) (hb_RO H0 r) 0 0 (fun _ => False)
/-- what a body has: machine, code, own class, words -/
def hb_Bd (G : hbG) (y : hbY) (p : Program) (s : State) (m : MethodId) (args : Array Value) (meth : Method) (c : Code) : Prop :=
  p.tables.exec = Jvm.exec ∧ c.code = y.2.1 ∧ c.maxLocals = y.2.2.1 ∧ s.vm.findClass y.1.cls = some m.cls ∧ meth.locks = false ∧ meth.sig.returnType = y.2.2.2 ∧ ∀ w ∈ G.2.1.1, w.before args s = true
theorem hb_Renter {G : hbG} {l : Launch} {y : hbY} {fr lo : Nat} {H0 : Heap} {Pre : State → Prop} {vs : List Value} {r : Option Value} (hpn : plainName y.1.cls = true) (hlen : (lg_sl vs).length ≤ y.2.2.1)
    (body : ∀ (p : Program) (e : Env) (s : State) (m : MethodId) (below : List Frame) (meth : Method) (c : Code) (ls : Array Slot), hb_Bd G y p s m vs.toArray meth c → s.heap = H0 → Pre s → lv_has ls y.2.2.1 (lv_args 0 vs) →
      W p l e (hb_rmF fr lo) s m vs.toArray below meth c s.heap [] 0 0 (MQ below (hb_RO H0 r) vs.toArray s 0 0 (fun _ => False)) (F0 m 0 ls [])) : hb_MR G l y fr lo H0 Pre vs r := by
  refine Met.ofW (cc := y.2.1) (maxL := y.2.2.1) (ret := y.2.2.2) hpn rfl ?_
  intro p e s m args below meth c s₁ B hml hv
  obtain ⟨rfl, hh, hp⟩ := hv
  have hts := atoms_spec (ws := (.code y.1 y.2.1 y.2.2.1 y.2.2.2 :: G.2.1.1)) B.pre
  have hBd : hb_Bd G y p s m vs.toArray meth c := ⟨B.exec, B.bytes, hml, findClass_of_methodNamed B.named, B.notSynchronized, B.returns, fun w hw => hts w (List.mem_cons_of_mem _ hw)⟩
  clear hts B
  have hl := lv_entry vs (n := y.2.2.1) hlen
  rw [lg_entry_eq]
  generalize (lg_sl vs ++ List.replicate (y.2.2.1 - (lg_sl vs).length) Slot.unset).toArray = ls at hl ⊢
  exact body p e s m below meth c ls hBd hh hp hl
theorem hb_Rend {H0 : Heap} {s : State} {r : Option Value} {args : Array Value} (hh : s.heap = H0) : (∀ t : State, t.heap = s.heap → s.WarmedH t.vm → hb_RO H0 r args s (.returned r) t) ∧ ∀ q ∈ ([] : List Loc), (fun _ : Nat => False) q.base :=
  ⟨fun t ht _ => ⟨⟨r, rfl, rfl, by rw [ht]; exact hh⟩, va_S.rf.F ht⟩, fun _ h => by cases h⟩
section HBRO
variable {p : Program} {l : Launch} {e : Env} {R : Room} {s : State} {m : MethodId} {args : Array Value} {below : List Frame} {meth : Method} {c : Code} {Q : State → Prop} {cc : ByteArray} {pc nL : Nat} {G : hbG} {own : String} {H : Heap} {locs : List Loc} {A0 : Nat → Prop} {H0 : Heap}
/-- the words of a callee, wherever the machine has gone on -/
theorem hb_wsW {y : hbY} (hgood : ∀ w ∈ G.2.1.1, (w.onTables && w.keeps) = true ∨ ∃ ty, w = .arrayClass ty) (hTw : ∀ w ∈ G.2.1.1, w.before args s = true) (hcd : Cond.code y.1 y.2.1 y.2.2.1 y.2.2.2 ∈ G.2.1.1) : ∀ w ∈ (Cond.code y.1 y.2.1 y.2.2.1 y.2.2.2 :: G.2.1.1), ∀ (a' : Array Value) (U : State), s.WarmedH U.vm → w.before a' U = true := by
  intro w hw a' U hW
  rcases List.mem_cons.mp hw with rfl | hw
  · exact word_at hW (hgood _ hcd) (hTw _ hcd)
  · exact word_at hW (hgood w hw) (hTw w hw)
/-- a static call of a method that only reads -/
theorem hb_RcS {y : hbY} {fr lo : Nat} {Pre : State → Prop} {As rest st : List Value} {r : Option Value} {ls : Array Slot} {index : Nat} (hx : p.tables.exec = Jvm.exec) (hb : c.code = cc) (hml : c.maxLocals = nL) (hown : s.vm.findClass own = some m.cls) (hTw : ∀ w ∈ G.2.1.1, w.before args s = true) (hgood : ∀ w ∈ G.2.1.1, (w.onTables && w.keeps) = true ∨ ∃ ty, w = .arrayClass ty)
    (hM : hb_MR G l y fr lo H Pre As r) (hcd : Cond.code y.1 y.2.1 y.2.2.1 y.2.2.2 ∈ G.2.1.1) (hR : fr + 1 ≤ R.frames ∧ 8 + (y.2.2.1 + 11) + lo ≤ R.locals) (hini : Cond.initialized y.1.cls ∈ G.2.1.1) (hnm : y.1.cls ≠ "java/lang/invoke/MethodHandle" ∧ y.1.cls ≠ "java/lang/invoke/VarHandle") (hnp : ∀ sig, parseMethodDescriptor y.1.desc = some sig → As.length = sig.parameters.length) (hlink : Cond.methodLink own index y.1 ∈ G.2.1.1) (hstat : Cond.static y.1 ∈ G.2.1.1)
    (hbl : FrameBlind (va_Pc As (fun St => St.heap = H ∧ Pre St))) (hpre : ∀ U : State, U.heap = H → s.WarmedH U.vm → Pre U) (hsz : ls.size = nL) (hst : st = As.reverse ++ rest) (hcat : (rest.map fun v => v.category).sum ≤ 8) (hdg : decode cc pc = .ok (.invokestatic index, 3)) (hS : va_S A0 H0 H locs)
    (kk : ∀ locs1, va_S A0 H0 H locs1 → W p l e R s m args below meth c H locs1 0 0 Q (F0 m (pc + 3) ls (r.toList ++ rest))) : W p l e R s m args below meth c H locs 0 0 Q (F0 m pc ls st) := by
  refine hb_callW (P := fun v t => v = r ∧ t.heap = H) (A1 := fun _ => False) (free := fun _ => False) (va_runS (As := As) (n := As.length) (index := index) (rest := rest) ⟨hx, hb, hml, hown, hTw⟩ hM ⟨⟨rfl, rfl, hR.1, hR.2, hb_wsW hgood hTw hcd, List.mem_cons_self, hTw _ hcd, hTw _ hini, hnm, hnp, hTw _ hlink⟩, hTw _ hstat⟩ ⟨hbl, fun U hU hW => ⟨rfl, hU, hpre U hU hW⟩⟩ rfl rfl hsz hst (lv_room hcat) hdg ⟨Nat.zero_le _, Nat.zero_le _⟩) hS (fun _ _ h => h.elim) (fun _ h => h.elim) ?_
  intro v t H1 locs1 ht _ hp hS1
  obtain ⟨rfl, h2⟩ := hp
  rw [← ht, h2] at hS1 ⊢
  exact kk locs1 hS1
/-- a virtual one -/
theorem hb_RcV {y : hbY} {fr lo b : Nat} {Pre : State → Prop} {As rest st : List Value} {r : Option Value} {ls : Array Slot} {index : Nat} (hx : p.tables.exec = Jvm.exec) (hb : c.code = cc) (hml : c.maxLocals = nL) (hown : s.vm.findClass own = some m.cls) (hTw : ∀ w ∈ G.2.1.1, w.before args s = true) (hgood : ∀ w ∈ G.2.1.1, (w.onTables && w.keeps) = true ∨ ∃ ty, w = .arrayClass ty)
    (hM : hb_MR G l y fr lo H Pre (.ref b :: As) r) (hcd : Cond.code y.1 y.2.1 y.2.2.1 y.2.2.2 ∈ G.2.1.1) (hR : fr + 1 ≤ R.frames ∧ 8 + (y.2.2.1 + 11) + lo ≤ R.locals) (hini : Cond.initialized y.1.cls ∈ G.2.1.1) (hnm : y.1.cls ≠ "java/lang/invoke/MethodHandle" ∧ y.1.cls ≠ "java/lang/invoke/VarHandle") (hnp : ∀ sig, parseMethodDescriptor y.1.desc = some sig → As.length = sig.parameters.length) (hlink : Cond.methodLink own index y.1 ∈ G.2.1.1) (hin : Cond.instanceMethod y.1 ∈ G.2.1.1) (hsel : Cond.selects y.1.cls y.1 y.1 ∈ G.2.1.1)
    (hrec : ∃ cell : Cell, H[b]? = some cell ∧ cell.vm.isStatics = false ∧ s.vm.findClass y.1.cls = some cell.cls) (hbl : FrameBlind (va_Pc (.ref b :: As) (fun St => St.heap = H ∧ Pre St))) (hpre : ∀ U : State, U.heap = H → s.WarmedH U.vm → Pre U) (hsz : ls.size = nL) (hst : st = As.reverse ++ .ref b :: rest) (hcat : (rest.map fun v => v.category).sum ≤ 8) (hdg : decode cc pc = .ok (.invokevirtual index, 3)) (hS : va_S A0 H0 H locs)
    (kk : ∀ locs1, va_S A0 H0 H locs1 → W p l e R s m args below meth c H locs1 0 0 Q (F0 m (pc + 3) ls (r.toList ++ rest))) : W p l e R s m args below meth c H locs 0 0 Q (F0 m pc ls st) := by
  refine hb_callW (P := fun v t => v = r ∧ t.heap = H) (A1 := fun _ => False) (free := fun _ => False) (va_runV (C := y.1.cls) (b := b) (As := As) (n := As.length) (index := index) (rest := rest) ⟨hx, hb, hml, hown, hTw⟩ hM ⟨⟨rfl, rfl, hR.1, hR.2, hb_wsW hgood hTw hcd, List.mem_cons_self, hTw _ hcd, hTw _ hini, hnm, hnp, hTw _ hlink⟩, hTw _ hin, hTw _ hsel⟩ ⟨hbl, hrec, fun U hU hW => ⟨rfl, hU, hpre U hU hW⟩⟩ rfl rfl hsz hst (lv_room hcat) hdg ⟨Nat.zero_le _, Nat.zero_le _⟩) hS (fun _ _ h => h.elim) (fun _ h => h.elim) ?_
  intro v t H1 locs1 ht _ hp hS1
  obtain ⟨rfl, h2⟩ := hp
  rw [← ht, h2] at hS1 ⊢
  exact kk locs1 hS1
end HBRO
theorem va_S.no {H : Heap} {locs : List Loc} (h : va_S (fun _ => False) H H locs) : locs = [] := by
  cases locs with
  | nil => rfl
  | cons q r => exact (h.2.2 q List.mem_cons_self).elim
