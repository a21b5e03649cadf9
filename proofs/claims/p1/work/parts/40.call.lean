/-! hb_: contracts of methods in the abstract interpreter's words, and calls by them -/
abbrev hbY : Type := MethodName × ByteArray × Nat × Option FieldType
/-- a method's number; numbers, arguments and known places at its start; its ends (a state each, and where its new numbers come from); footprint and written cells; frames and locals -/
abbrev hbQ : Type := Nat × (hbV × List hbA × List (Nat × hbA × hbA)) × List (hbS × List (Nat × Nat × Int)) × (List Nat × List Nat) × (Nat × Nat)
/-- kinds, classes, words, words of nest mates, what else is given of a state, methods -/
abbrev hbG : Type := (List hbK × List vw_C) × (List Cond × List Cond) × ((Nat → Prop) → (Nat → Nat) → State → Prop) × List hbY
def hb_Gok (G : hbG) : Prop := (∀ w ∈ G.2.1.2, w.onTables = true ∧ ∀ (s U : State), s.WarmedH U.vm → va_Nw w s → va_Nw w U) ∧
  (∀ (A : Nat → Prop) (S : Nat → Nat) (s U : State), s.WarmedH U.vm → (∀ q : Nat, q < s.heap.size → ¬ A q → U.heap[q]? = s.heap[q]?) → G.2.2.1 A S s → G.2.2.1 A S U) ∧
  (∀ (A : Nat → Prop) (S : Nat → Nat) (s U : State), s.vm = U.vm → s.heap = U.heap → G.2.2.1 A S s → G.2.2.1 A S U) ∧
  (∀ (A B : Nat → Prop) (S : Nat → Nat) (s : State), (∀ q, B q → A q) → G.2.2.1 A S s → G.2.2.1 B S s)
def hb_Gs (G : hbG) (D : va_G) (A : Nat → Prop) (S : Nat → Nat) (St : State) : Prop := va_K D G.1.2 [] St ∧ (∀ w ∈ G.2.1.2, va_Nw w St) ∧ G.2.2.1 A S St
def hb_Pre (G : hbG) (D : va_G) (U S : Nat → Nat) (wd : va_W) (sz : Nat) (fp : List Nat) (St : State) : Prop := St.heap.size = sz ∧ va_P D G.1.2 wd St.heap ∧ va_D (fun _ => True) wd ∧ hb_wd G.1.1 St U wd fp ∧ hb_Gs G D (va_A wd sz) S St
def hb_Post (G : hbG) (D : va_G) (U S : Nat → Nat) (ρ : Nat → Int) (n0 : Nat) (wd : va_W) (sz : Nat) (fp mods : List Nat) (posts : List (hbS × List (Nat × Nat × Int))) : Array Value → State → Outcome → State → Prop := fun _ st oc t =>
  (∃ (v : Option Value) (wd' : va_W) (ρ' : Nat → Int) (q : hbS × List (Nat × Nat × Int)), q ∈ posts ∧ oc = .returned v ∧ hb_ag n0 ρ ρ' ∧ n0 ≤ q.1.1.1.length ∧ hb_V ρ' q.1.1 ∧ hb_stk q.1.1.1.length U S ρ' q.1.2.2.1 v.toList ∧ hb_cch q.1.1.1.length U S ρ' q.1.2.2.2 wd' ∧ va_P D G.1.2 wd' t.heap ∧ hb_wd G.1.1 t U wd' fp ∧ hb_fr mods wd wd') ∧ va_F (va_A wd sz) st t
def hb_rm (q : hbQ) : Room := { frames := q.2.2.2.2.1, cells := 0, slots := 0, locals := q.2.2.2.2.2 }
def hb_Met (G : hbG) (q : hbQ) : Prop := ∀ y, G.2.2.2[q.1]? = some y → ∀ (l : Launch) (D : va_G) (U S : Nat → Nat) (ρ : Nat → Int) (wd : va_W) (sz : Nat) (vs : List Value), hb_V ρ q.2.1.1 → 0 < q.2.1.1.1.length → hb_stk q.2.1.1.1.length U S ρ q.2.1.2.1 vs → hb_cch q.2.1.1.1.length U S ρ q.2.1.2.2 wd →
  Met l y.1 (.code y.1 y.2.1 y.2.2.1 y.2.2.2 :: G.2.1.1) (hb_rm q) (va_Pc vs (hb_Pre G D U S wd sz q.2.2.2.1.1)) (hb_Post G D U S ρ q.2.1.1.1.length wd sz q.2.2.2.1.1 q.2.2.2.1.2 q.2.2.1) 0 0 (va_A wd sz)
theorem hb_shape.moved {s t : State} {kd : hbK} {e : va_E} (hvm : s.vm.Alike t.vm) (h : hb_shape s kd e) : hb_shape t kd e := by
  obtain ⟨f, r⟩ := kd
  match f, h with
  | 0, h => exact h
  | 1, ⟨cA, g, h1, h2, h3⟩ => exact ⟨cA, g, h1, arrOfT_moved hvm h2, h3.moved hvm⟩
  | 2, ⟨cA, g, h1, h2, h3⟩ => exact ⟨cA, g, h1, arrOfT_moved hvm h2, h3.moved hvm⟩
  | 3, ⟨cA, g, h1, h2, h3⟩ => exact ⟨cA, g, h1, arrOfT_moved hvm h2, h3.moved hvm⟩
  | 4, ⟨cA, g, h1, h2, h3⟩ => exact ⟨cA, g, h1, arrOfT_moved hvm h2, h3.moved hvm⟩
  | f + 5, ⟨cA, g, ty, h1, h2, h3, h4⟩ => exact ⟨cA, g, ty, h1, h2, arrOfT_moved hvm h3, h4.moved hvm⟩
theorem hb_wd.moved {KT : List hbK} {s t : State} {U : Nat → Nat} {wd : va_W} {fp : List Nat} (hvm : s.vm.Alike t.vm) (h : hb_wd KT s U wd fp) : hb_wd KT t U wd fp := fun c hc => by
  obtain ⟨kd, e, h1, h2, h3, h4⟩ := h c hc
  exact ⟨kd, e, h1, h2, ⟨h3.1.moved hvm, h3.2⟩, h4⟩
theorem hb_wd.less {KT : List hbK} {s : State} {U : Nat → Nat} {wd : va_W} {fp fp' : List Nat} (h : hb_wd KT s U wd fp) (hf : ∀ c ∈ fp', c ∈ fp) : hb_wd KT s U wd fp' := fun c hc => h c (hf c hc)
theorem hb_Gs.move {G : hbG} (hG : hb_Gok G) {D : va_G} {A B : Nat → Prop} {S : Nat → Nat} {s U : State} (hW : s.WarmedH U.vm) (hh : ∀ q : Nat, q < s.heap.size → ¬ A q → U.heap[q]? = s.heap[q]?) (hB : ∀ q, B q → A q) (h : hb_Gs G D A S s) : hb_Gs G D B S U :=
  ⟨va_K.moved hW.alike h.1, fun w hw => (hG.1 w hw).2 s U hW (h.2.1 w hw), hG.2.2.2 A B S U hB (hG.2.1 A S s U hW hh h.2.2)⟩
theorem hb_blind {G : hbG} (hG : hb_Gok G) (D : va_G) (U S : Nat → Nat) (wd : va_W) (sz : Nat) (fp : List Nat) (vs : List Value) : FrameBlind (va_Pc vs (hb_Pre G D U S wd sz fp)) := by
  intro a St g mk h
  obtain ⟨h1, h2, h3, h4, h5, h6, h7, h8⟩ := h
  exact ⟨h1, h2, h3, h4, h5.moved (Vm.Alike.refl St.vm), va_K.moved (u := St) (U := St.calling g mk a) (Vm.Alike.refl St.vm) h6, fun w hw => va_Nw.same (u := St) (U := St.calling g mk a) (hG.1 w hw).1 rfl (h7 w hw), hG.2.2.1 _ _ St (St.calling g mk a) rfl rfl h8⟩
/-- the world behind a call lies at the same addresses -/
theorem hb_fr.A {mods : List Nat} {wd wd' : va_W} (h : hb_fr mods wd wd') {sz q : Nat} (hq : va_A wd' sz q) : va_A wd sz q := by
  rcases hq with ⟨k, e, hk⟩ | hq
  · have h1 := (h k).1
    rw [hk] at h1
    cases hw : wd[k]? with
    | none => rw [hw] at h1; cases h1
    | some x =>
      obtain ⟨a, e'⟩ := x
      rw [hw] at h1
      have h1 : some q = some a := h1
      cases h1
      exact Or.inl ⟨k, e', hw⟩
  · exact Or.inr hq
theorem hb_fr.symA {mods : List Nat} {wd wd' : va_W} (h : hb_fr mods wd wd') {sz q : Nat} (hq : va_A wd sz q) : va_A wd' sz q := by
  rcases hq with ⟨k, e, hk⟩ | hq
  · have h1 := (h k).1
    rw [hk] at h1
    cases hw : wd'[k]? with
    | none => rw [hw] at h1; cases h1
    | some x =>
      obtain ⟨a, e'⟩ := x
      rw [hw] at h1
      have h1 : some a = some q := h1
      cases h1
      exact Or.inl ⟨k, e', hw⟩
  · exact Or.inr hq
theorem hb_fr.D {mods : List Nat} {wd wd' : va_W} {A : Nat → Prop} (h : hb_fr mods wd wd') (hD : va_D A wd) : va_D A wd' := by
  have key : ∀ (k : Nat) (x : Nat × va_E), wd'[k]? = some x → ∃ e, wd[k]? = some (x.1, e) := by
    intro k x hk
    have h1 := (h k).1
    rw [hk] at h1
    cases hw : wd[k]? with
    | none => rw [hw] at h1; cases h1
    | some y =>
      obtain ⟨a, e'⟩ := y
      rw [hw] at h1
      have h1 : some x.1 = some a := h1
      cases h1
      exact ⟨e', rfl⟩
  refine ⟨fun i j x y hi hj hxy => ?_, fun k x hk => ?_⟩
  · obtain ⟨e1, h1⟩ := key i x hi
    obtain ⟨e2, h2⟩ := key j y hj
    exact hD.1 i j _ _ h1 h2 hxy
  · obtain ⟨e1, h1⟩ := key k x hk
    exact hD.2 k (x.1, e1) h1
theorem hb_fr.trans {m1 m2 : List Nat} {w0 w1 w2 : va_W} (h1 : hb_fr m1 w0 w1) (h2 : hb_fr m2 w1 w2) (hm : ∀ c ∈ m2, c ∈ m1) : hb_fr m1 w0 w2 := fun c =>
  ⟨(h2 c).1.trans (h1 c).1, fun hc => ((h2 c).2 (fun q => hc (hm c q))).trans ((h1 c).2 hc)⟩
/-- cells that stay: outside the callee's footprint they are as they were -/
theorem hb_wd.back {KT : List hbK} {s t : State} {U : Nat → Nat} {wd wd' : va_W} {fp fp' mods : List Nat} (hvm : t.vm.Alike s.vm) (h : hb_wd KT s U wd fp) (h' : hb_wd KT t U wd' fp') (hf : hb_fr mods wd wd') (hm : ∀ c ∈ mods, c ∈ fp') : hb_wd KT s U wd' fp := by
  intro c hc
  by_cases q : c ∈ mods
  · exact (h'.moved hvm) c (hm c q)
  · obtain ⟨kd, e, h1, h2, h3⟩ := h c hc
    exact ⟨kd, e, h1, by rw [(hf c).2 q]; exact h2, h3⟩
section HBCL
variable {p : Program} {l : Launch} {e : Env} {R : Room} {s : State} {m : MethodId} {args : Array Value} {below : List Frame} {meth : Method} {c : Code} {H : Heap} {locs : List Loc} {Q : State → Prop} {pc : Nat} {ls : Array Slot} {rest st0 : List Value} {A0 A1 : Nat → Prop} {H0 : Heap} {free : Addr → Prop}
theorem hb_callW {P : Option Value → State → Prop} (hr : va_Run p l e R s m args below meth c H locs 0 0 0 0 (F0 m pc ls st0) rest (fun st oc t => (∃ v, oc = .returned v ∧ P v t) ∧ va_F A1 st t) free) (hS : va_S A0 H0 H locs) (hA : ∀ q, q < H.size → A1 q → A0 q) (hf : ∀ q, free q → A0 q)
    (kk : ∀ (v : Option Value) (t : State) (H1 : Heap) (locs1 : List Loc), t.heap = H1 → s.vm.Alike t.vm → P v t → va_S A0 H0 H1 locs1 → W p l e R s m args below meth c H1 locs1 0 0 Q (F0 m (pc + 3) ls (v.toList ++ rest))) : W p l e R s m args below meth c H locs 0 0 Q (F0 m pc ls st0) := by
  intro T hT X
  obtain ⟨v, st₀, t, T', L, h0, X', hL, e1, e2, ⟨⟨v', hv, hp⟩, hz, hk⟩, st⟩ := hr T hT X
  cases hv
  rw [h0] at hz hk
  obtain ⟨t2, a1, b1⟩ := kk v t T'.heap (locs ++ L) e1.symm (by rw [← e2]; exact X'.warmed.alike) hp
    ⟨Nat.le_trans hS.1 (by rw [e1]; exact hz), fun q h1 h2 => by rw [e1, hk q (Nat.lt_of_lt_of_le h1 hS.1) (fun z => h2 (hA q (Nat.lt_of_lt_of_le h1 hS.1) z))]; exact hS.2.1 q h1 h2, fun q hq => by
      rcases List.mem_append.mp hq with h | h
      · exact hS.2.2 q h
      · exact hf _ (hL q h)⟩ T' rfl X'
  exact ⟨t2, st t2 a1, b1⟩
end HBCL
