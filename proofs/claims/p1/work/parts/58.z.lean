/-! hb_: a contract by hand: what holds at a method's entry -/
def hb_At (G : hbG) (y : hbY) (D : va_G) (S : Nat → Nat) (wd : va_W) (p : Program) (s : State) (m : MethodId) (args : Array Value) (meth : Method) (c : Code) : Prop :=
  p.tables.exec = Jvm.exec ∧ c.code = y.2.1 ∧ c.maxLocals = y.2.2.1 ∧ s.vm.findClass y.1.cls = some m.cls ∧ meth.locks = false ∧ meth.sig.returnType = y.2.2.2 ∧ (∀ w ∈ G.2.1.1, w.before args s = true) ∧ va_P D G.1.2 wd s.heap ∧ va_D (va_A wd s.heap.size) wd ∧ hb_Gs G D (va_A wd s.heap.size) S s
theorem hb_enter {G : hbG} {q : hbQ} {y : hbY} (hy : G.2.2.2[q.1]? = some y) (hpn : plainName y.1.cls = true) (hlen : hb_cats q.2.1.2.1 ≤ y.2.2.1)
    (body : ∀ (l : Launch) (D : va_G) (U S : Nat → Nat) (ρ : Nat → Int) (wd : va_W) (vs : List Value) (p : Program) (e : Env) (s : State) (m : MethodId) (below : List Frame) (meth : Method) (c : Code) (ls : Array Slot),
      hb_At G y D S wd p s m vs.toArray meth c → hb_wd G.1.1 s U wd q.2.2.2.1.1 → hb_V ρ q.2.1.1 → 0 < q.2.1.1.1.length → hb_stk q.2.1.1.1.length U S ρ q.2.1.2.1 vs → hb_cch q.2.1.1.1.length U S ρ q.2.1.2.2 wd → lv_has ls y.2.2.1 (lv_args 0 vs) →
      W p l e (hb_rm q) s m vs.toArray below meth c s.heap [] 0 0 (MQ below (hb_Post G D U S ρ q.2.1.1.1.length wd s.heap.size q.2.2.2.1.1 q.2.2.2.1.2 q.2.2.1) vs.toArray s 0 0 (va_A wd s.heap.size)) (F0 m 0 ls [])) : hb_Met G q := by
  intro y' hy' l D U S ρ wd sz vs hV h0 hargs hC0
  rw [hy] at hy'
  cases hy'
  refine Met.ofW (cc := y.2.1) (maxL := y.2.2.1) (ret := y.2.2.2) hpn rfl ?_
  intro p e s m args below meth c s₁ B hml hv
  obtain ⟨rfl, hsz, hP, hD0, hwd, hGs⟩ := hv
  have hts := atoms_spec (ws := (.code y.1 y.2.1 y.2.2.1 y.2.2.2 :: G.2.1.1)) B.pre
  have hTw : ∀ w ∈ G.2.1.1, w.before vs.toArray s = true := fun w hw => hts w (List.mem_cons_of_mem _ hw)
  have hAt : hb_At G y D S wd p s m vs.toArray meth c := by
    rw [← hsz] at hGs
    exact ⟨B.exec, B.bytes, hml, findClass_of_methodNamed B.named, B.notSynchronized, B.returns, hTw, hP, hD0.self (sz := s.heap.size), hGs⟩
  clear hts B
  subst hsz
  have hl := lv_entry vs (n := y.2.2.1) (by rw [hb_sl_len hargs]; exact hlen)
  rw [lg_entry_eq]
  generalize (lg_sl vs ++ List.replicate (y.2.2.1 - (lg_sl vs).length) Slot.unset).toArray = ls at hl ⊢
  exact body l D U S ρ wd vs p e s m below meth c ls hAt hwd hV h0 hargs hC0 hl
/-- an end that writes nothing: the answer, by one of the posts -/
theorem hb_hpost {G : hbG} {D : va_G} {U S : Nat → Nat} {ρ ρ' : Nat → Int} {n0 : Nat} {wd : va_W} {s : State} {fp mods : List Nat} {posts : List (hbS × List (Nat × Nat × Int))} {args : Array Value} {v : Option Value} {z : hbS × List (Nat × Nat × Int)} (hP : va_P D G.1.2 wd s.heap) (hwd : hb_wd G.1.1 s U wd fp) (hz : z ∈ posts) (ha : hb_ag n0 ρ ρ') (hn : n0 ≤ z.1.1.1.length) (hV : hb_V ρ' z.1.1) (hs : hb_stk z.1.1.1.length U S ρ' z.1.2.2.1 v.toList) (hC : hb_cch z.1.1.1.length U S ρ' z.1.2.2.2 wd) :
    (∀ t : State, t.heap = s.heap → s.WarmedH t.vm → hb_Post G D U S ρ n0 wd s.heap.size fp mods posts args s (.returned v) t) ∧ ∀ q ∈ ([] : List Loc), va_A wd s.heap.size q.base :=
  ⟨fun t ht hW => ⟨⟨v, wd, ρ', z, hz, rfl, ha, hn, hV, hs, hC, by rw [ht]; exact hP, hwd.moved hW.alike, fun c => ⟨rfl, fun _ => rfl⟩⟩, va_S.rf.F ht⟩, fun _ h => by cases h⟩
