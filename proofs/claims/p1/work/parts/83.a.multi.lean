/-! hx_: four rows of sixty longs in one row: the machine's own instruction for it -/
def hx_c (cp : ClassId) : Cell := { cls := cp, slots := Array.replicate 60 (.long 0), vm := .none }
/-- the outer row of which the first j places hold their rows -/
def hx_o (c : ClassId) (h j : Nat) : Cell := { cls := c, slots := #[if 0 < j then .ref (h + 1) else .null, if 1 < j then .ref (h + 2) else .null, if 2 < j then .ref (h + 3) else .null, if 3 < j then .ref (h + 4) else .null], vm := .none }
theorem hx_o0 (c : ClassId) (h : Nat) : hx_o c h 0 = { cls := c, slots := Array.replicate 4 .null, vm := .none } := rfl
theorem hx_oS (c : ClassId) (h j : Nat) (hj : j < 4) : (hx_o c h j).setSlot j (.ref (h + 1 + j)) = hx_o c h (j + 1) := by
  rcases (show j = 0 ∨ j = 1 ∨ j = 2 ∨ j = 3 by omega) with e | e | e | e <;> subst e <;> rfl
def hx_s (T : State) (c cp : ClassId) : Nat → State
  | 0 => T.pushCell (hx_o c T.heap.size 0)
  | j + 1 => ((hx_s T c cp j).pushCell (hx_c cp)).setCell T.heap.size (hx_o c T.heap.size (j + 1))
theorem hx_cs (cp : ClassId) : (hx_c cp).slots.size = 60 := by simp [hx_c]
theorem hx_f (T : State) (c cp : ClassId) : ∀ j, (hx_s T c cp j).heap.size = T.heap.size + 1 + j ∧ (hx_s T c cp j).heap[T.heap.size]? = some (hx_o c T.heap.size j) ∧ (hx_s T c cp j).vm = T.vm ∧ (hx_s T c cp j).slotsUsed = T.slotsUsed + 4 + j * 60
  | 0 => ⟨by simp [hx_s], by simp [hx_s], rfl, by simp [hx_s, hx_o]⟩
  | j + 1 => by
    obtain ⟨a1, a2, a3, a4⟩ := hx_f T c cp j
    have hlt : T.heap.size < (hx_s T c cp j).heap.size := by rw [a1]; omega
    have h2 : ((hx_s T c cp j).pushCell (hx_c cp)).heap[T.heap.size]? = some (hx_o c T.heap.size j) := (State.heap_pushCell_of_lt _ _ hlt).trans a2
    refine ⟨?_, State.heap_setCell_self h2, by simp [hx_s, a3], ?_⟩
    · simp [hx_s, State.setCell, a1]
      omega
    · simp [hx_s, a4, hx_cs]
      omega
theorem hx_old (T : State) (c cp : ClassId) {a : Nat} (ha : a < T.heap.size) : ∀ j, (hx_s T c cp j).heap[a]? = T.heap[a]?
  | 0 => State.heap_pushCell_of_lt _ _ ha
  | j + 1 => by
    have a1 := (hx_f T c cp j).1
    have hlt : a < (hx_s T c cp j).heap.size := by rw [a1]; omega
    have h1 : (hx_s T c cp (j + 1)).heap[a]? = ((hx_s T c cp j).pushCell (hx_c cp)).heap[a]? := State.heap_setCell_other (Nat.ne_of_gt ha)
    rw [h1, State.heap_pushCell_of_lt _ _ hlt]
    exact hx_old T c cp ha j
theorem hx_inn (T : State) (c cp : ClassId) : ∀ j i, i < j → (hx_s T c cp j).heap[T.heap.size + 1 + i]? = some (hx_c cp)
  | 0, _, h => absurd h (by omega)
  | j + 1, i, h => by
    have a1 := (hx_f T c cp j).1
    have h1 : (hx_s T c cp (j + 1)).heap[T.heap.size + 1 + i]? = ((hx_s T c cp j).pushCell (hx_c cp)).heap[T.heap.size + 1 + i]? := State.heap_setCell_other (show T.heap.size ≠ T.heap.size + 1 + i by omega)
    rw [h1]
    rcases (show i = j ∨ i < j by omega) with e | e
    · subst e
      rw [← a1]
      simp
    · have hlt : T.heap.size + 1 + i < (hx_s T c cp j).heap.size := by rw [a1]; omega
      rw [State.heap_pushCell_of_lt _ _ hlt]
      exact hx_inn T c cp j i e
theorem hx_top (T : State) (g : JFrame) (c cp : ClassId) : ∀ j, hx_s (T.setTop g) c cp j = (hx_s T c cp j).setTop g
  | 0 => rfl
  | j + 1 => by simp only [hx_s, hx_top T g c cp j, State.heap_setTop, State.pushCell_setTop, State.setCell_setTop]
section HX
variable {E : CtlPost} {e : Env} {d : Bool} {acts : List Action} {s : State}
theorem hx_new {c comp : ClassId} {k : Class} {type : FieldType} {len : Nat} {init : Value} (hk : s.vm.classes[c]? = some k) (hkind : k.kind = .array comp type) (hli : ¬ len > e.platform.arrayLengthLimit) (hhe : ¬ len * componentBytes type > e.platform.maxHeapBytes) (hfit : fits type init = true) (hdef : init.isDefault = true) (h1 : s.heap.size < e.platform.maxCells) (h2 : s.slotsUsed + len ≤ e.platform.maxSlots) {Q : Addr → Pre} (hq : Q s.heap.size d acts (s.pushCell { cls := c, slots := Array.replicate len init, vm := .none })) : wp (Jvm.newArray c len init) Q E e d acts s := by
  have f1 : ∀ i v, (Array.replicate len init)[i]? = some v → s.fitsSlot c .none i v = true := by
    intro i v hv
    rw [Array.getElem?_replicate] at hv
    by_cases hi : i < len
    · rw [if_pos hi] at hv
      cases hv
      simp [State.fitsSlot, State.slotType?, hk, hkind, hfit]
    · rw [if_neg hi] at hv
      cases hv
  have f2 : allocActs (Array.replicate len init) s.heap.size acts = acts := by
    unfold allocActs
    rw [if_pos]
    rw [Array.all_replicate]
    split <;> simp [hdef]
  simp only [Jvm.newArray, Jvm.arrayFits, wp_bind', Jvm.W.ask, Jvm.W.ite, hli, if_false, wp_pure', Jvm.W.theClass, hk, hkind, hhe, Jvm.W.alloc, Jvm.W.stop, Option.some.injEq, exists_eq_left', Array.size_replicate, f2]
  rw [if_neg (by omega)]
  exact ⟨h1, h2, f1, hq⟩
/-- four rows of sixty -/
theorem hx_make {c cp cj : ClassId} {k kc : Class} (hk : s.vm.classes[c]? = some k) (hkind : k.kind = .array cp (.array .long)) (hkc : s.vm.classes[cp]? = some kc) (hkindc : kc.kind = .array cj .long) (hl1 : ¬ 4 > e.platform.arrayLengthLimit) (hl2 : ¬ 60 > e.platform.arrayLengthLimit) (hh1 : ¬ 4 * componentBytes (.array .long) > e.platform.maxHeapBytes) (hh2 : ¬ 60 * componentBytes .long > e.platform.maxHeapBytes) (hc : s.heap.size + 5 ≤ e.platform.maxCells) (hs : s.slotsUsed + 244 ≤ e.platform.maxSlots) {Q : Addr → Pre} (hq : ∀ d' acts', Q s.heap.size d' acts' (hx_s s c cp 4)) : wp (Op.multianewarray.make c [nI 4, nI 60]) Q E e d acts s := by
  have n4 : ¬ nI 4 < 0 := by decide
  have n60 : ¬ nI 60 < 0 := by decide
  have c4 : (nI 4).toNatClampNeg = 4 := by decide
  have c60 : (nI 60).toNatClampNeg = 60 := by decide
  have hf : ([nI 60].find? (· < 0)) = none := by simp [n60]
  have one : ∀ (U : State) (d1 : Bool) (a1 : List Action) (Q1 : Addr → Pre), U.vm = s.vm → U.heap.size < e.platform.maxCells → U.slotsUsed + 60 ≤ e.platform.maxSlots → Q1 U.heap.size d1 a1 (U.pushCell (hx_c cp)) → wp (Op.multianewarray.make cp [nI 60]) Q1 E e d1 a1 U := by
    intro U d1 a1 Q1 hv h1 h2 h3
    rw [Op.multianewarray.make]
    simp only [wp_bind', Jvm.W.ite, n60, if_false, wp_pure', Jvm.W.theClass, hv, hkc, hkindc, Option.some.injEq, exists_eq_left', c60]
    exact hx_new (by rw [hv]; exact hkc) hkindc hl2 hh2 rfl rfl h1 h2 h3
  rw [Op.multianewarray.make]
  simp only [wp_bind', Jvm.W.ite, n4, if_false, wp_pure', Jvm.W.theClass, hk, hkind, Option.some.injEq, exists_eq_left', c4]
  refine hx_new hk hkind hl1 hh1 rfl rfl (by omega) (by omega) ?_
  simp only [hf]
  rw [ite_self, wp_bind', Std.Legacy.Range.forIn_eq_forIn_range']
  show wp (forIn (List.range' 0 4 1) PUnit.unit _) _ E e d acts _
  refine wp_forIn_inv (fun rest s' => ∃ j, j ≤ 4 ∧ rest = List.range' j (4 - j) ∧ s' = hx_s s c cp j) _ _ ⟨0, by omega, rfl, rfl⟩ ?_ ?_
  · rintro x rest s' d' acts' Q' ⟨j, hj, hr, rfl⟩ hnext
    have hj4 : j < 4 := by
      rcases (show j = 4 ∨ j < 4 by omega) with e4 | e4
      · subst e4
        cases hr
      · exact e4
    have hr2 : x = j ∧ rest = List.range' (j + 1) (4 - (j + 1)) := by
      rw [show 4 - j = (4 - (j + 1)) + 1 by omega, List.range'_succ] at hr
      exact ⟨(List.cons.inj hr).1, (List.cons.inj hr).2⟩
    obtain ⟨rfl, hrest⟩ := hr2
    obtain ⟨a1, a2, a3, a4⟩ := hx_f s c cp x
    have hlt : s.heap.size < (hx_s s c cp x).heap.size := by rw [a1]; omega
    simp only [wp_bind']
    refine one _ _ _ _ a3 (by rw [a1]; omega) (by rw [a4]; omega) ?_
    simp only [wp_bind', Jvm.W.writeLoc, wp_pure']
    refine ⟨hx_o c s.heap.size x, (State.heap_pushCell_of_lt _ _ hlt).trans a2, by simp [hx_o], by simpa [hx_o] using hj4, ?_, hnext _ _ _ ⟨x + 1, hj4, hrest, ?_⟩⟩
    · simp [State.fitsSlot, State.slotType?, a3, hk, hkind, hx_o, fits]
    · rw [a1, hx_oS c s.heap.size x hj4]
      rfl
  · rintro s' d' acts' ⟨j, hj, hr, rfl⟩
    have e4 : j = 4 := by
      rcases (show j = 4 ∨ j < 4 by omega) with e4 | e4
      · exact e4
      · rw [show 4 - j = (4 - (j + 1)) + 1 by omega, List.range'_succ] at hr
        cases hr
    subst e4
    simp only [wp_pure']
    exact hq _ _
end HX
section HXS
variable {p : Program} {l : Launch} {e : Env} {R : Room} {s : State} {m : MethodId} {args : Array Value} {below : List Frame} {meth : Method} {c : Code} {T : State} {locs : List Loc} {cells slots : Nat}
theorem hx_std (X : Stand p l e R s m args below meth c T locs cells slots) (cA cp : ClassId) : ∀ j, j ≤ 4 → Stand p l e R s m args below meth c (hx_s T cA cp j) (locs ++ (List.range j).map fun i => (⟨T.heap.size, i⟩ : Loc)) (cells + 1 + j) (slots + 4 + j * 60)
  | 0, _ => by
    have h := X.pushed (hx_o cA T.heap.size 0)
    simpa [hx_s, hx_o] using h
  | j + 1, hj => by
    have ih := hx_std X cA cp j (by omega)
    obtain ⟨a1, a2, a3, a4⟩ := hx_f T cA cp j
    have hlt : T.heap.size < (hx_s T cA cp j).heap.size := by rw [a1]; omega
    have h2 : ((hx_s T cA cp j).pushCell (hx_c cp)).heap[T.heap.size]? = some (hx_o cA T.heap.size j) := (State.heap_pushCell_of_lt _ _ hlt).trans a2
    have h3 := (ih.pushed (hx_c cp)).stored h2 j (.ref (T.heap.size + 1 + j))
    rw [hx_oS cA T.heap.size j (by omega), hx_cs] at h3
    have e1 : (locs ++ (List.range (j + 1)).map fun i => (⟨T.heap.size, i⟩ : Loc)) = (locs ++ (List.range j).map fun i => (⟨T.heap.size, i⟩ : Loc)) ++ [⟨T.heap.size, j⟩] := by simp [List.range_succ, List.append_assoc]
    have e2 : slots + 4 + (j + 1) * 60 = slots + 4 + j * 60 + 60 := by omega
    rw [e1, e2]
    exact h3
end HXS
theorem hx_oV (c : ClassId) (h : Nat) : hx_o c h 4 = arrV c 4 (fun j => va_rf (some (h + 1 + j))) := by
  have e : (hx_o c h 4).slots = Array.ofFn (n := 4) (fun j => va_rf (some (h + 1 + j.val))) := by
    apply Array.ext
    · simp [hx_o]
    · intro i h1 h2
      have h3 : i < 4 := by simpa [hx_o] using h1
      rcases (show i = 0 ∨ i = 1 ∨ i = 2 ∨ i = 3 by omega) with e | e | e | e <;> subst e <;> simp [hx_o, va_rf]
  show ({ cls := c, slots := (hx_o c h 4).slots, vm := .none } : Cell) = _
  rw [e]
  rfl
def hx_w (cQ cJ : ClassId) (q : Nat) : va_W := [(q, .inl (cQ, 4, .inr (.inr (.inr (.inr (fun j => some (q + 1 + j))))))), (q + 1, .inl (cJ, 60, .inr (.inl (fun _ => 0)))), (q + 2, .inl (cJ, 60, .inr (.inl (fun _ => 0)))), (q + 3, .inl (cJ, 60, .inr (.inl (fun _ => 0)))), (q + 4, .inl (cJ, 60, .inr (.inl (fun _ => 0))))]
theorem hx_cV (cp : ClassId) : hx_c cp = vp_cell cp (60, .inr (.inl (fun _ => 0))) := by
  rw [vp_cell_l]
  exact arrV_new cp 60 (.long 0)
section HXW
variable {p : Program} {l : Launch} {e : Env} {R : Room} {s : State} {m : MethodId} {args : Array Value} {below : List Frame} {meth : Method} {c : Code} {Q : State → Prop} {cc : ByteArray} {pc cells slots : Nat} {D : va_G} {wd0 w : va_W} {ls : Array Slot} {rest : List Value} {H : Heap} {locs : List Loc} {own : String} {idx : Nat}
set_option maxHeartbeats 2000000 in
theorem hc_multi {cJ : ClassId} (hx : p.tables.exec = Jvm.exec) (hb : c.code = cc) (hown : s.vm.findClass own = some m.cls) (hTw : ∀ w ∈ hb_G.2.1.1, w.before args s = true) (hX : hc_X s) (hh : hc_H D s wd0 w H locs) (w1 : Cond.classLink own idx "[[J" ∈ hb_G.2.1.1) (w2 : Cond.arrayClass .long ∈ hb_G.2.1.1) (hJ : va_RA s cJ .long) (hcl : cells + 5 ≤ R.cells) (hsl : slots + 244 ≤ R.slots) (hdg : decode cc pc = .ok (.multianewarray idx 2, 4))
    (kk : ∀ (q : Nat) (cQ : ClassId) (H1 : Heap) (locs1 : List Loc), ArrOfT s cQ (.array .long) → va_RA s cQ (.array .long) → hc_H D s wd0 (w ++ hx_w cQ cJ q) H1 locs1 → W p l e R s m args below meth c H1 locs1 (cells + 5) (slots + 244) Q (F0 m (pc + 4) ls (.ref q :: rest))) : W p l e R s m args below meth c H locs cells slots Q (F0 m pc ls (.int (nI 60) :: .int (nI 4) :: rest)) := by
  intro T hT X
  subst hT
  subst hb
  have hpl : e.platform.magicAccessors = ({} : Platform).magicAccessors := by rw [X.admits.platform]
  obtain ⟨comp, cA, kA, hcomp, -, hkA, hkindA, hnameA⟩ := arrayOverA_spec hX.2.1
  obtain ⟨cp, kC, cj, hcp, hkC, hkindC⟩ := Cond.arrayClass_spec (hTw _ w2)
  have ecp : cp = comp := Option.some.inj (hcp.symm.trans hcomp)
  subst ecp
  have eJ : cp = cJ := Option.some.inj (hcp.symm.trans hJ)
  subst eJ
  obtain ⟨c0, hfc0, hcl0⟩ := Cond.classLink_spec hown (hTw _ w1) e.platform hpl
  have e0 : c0 = cA := Option.some.inj (hfc0.symm.trans hnameA)
  subst e0
  obtain ⟨hg₁, hwarm₁, hready₁⟩ := State.classEntry (e := e) X.warmed hcl0
  generalize hvm : T.vm.noted m.cls idx (.cls c0) = vm₁ at hg₁ hwarm₁ hready₁
  have hal : s.vm.Alike vm₁ := hwarm₁.alike
  obtain ⟨kA₁, hkA₁, heA⟩ := hal.2.2 _ _ hkA
  obtain ⟨kC₁, hkC₁, heC⟩ := hal.2.2 _ _ hkC
  have hkindA₁ : kA₁.kind = .array cp (.array .long) := by rw [heA]; exact hkindA
  have hkindC₁ : kC₁.kind = .array cj .long := by rw [heC]; exact hkindC
  have X₁ := X.noted hwarm₁
  have X₄ := hx_std X₁ c0 cp 4 (Nat.le_refl _)
  obtain ⟨hr1, hr2⟩ := X.roomAbove hcl hsl
  obtain ⟨a1, a2, a3, a4⟩ := hx_f (T.setVm vm₁) c0 cp 4
  have hold : ∀ q : Nat, q < T.heap.size → (hx_s (T.setVm vm₁) c0 cp 4).heap[q]? = T.heap[q]? := fun q hq => hx_old (T.setVm vm₁) c0 cp hq 4
  have hinn : ∀ i, i < 4 → (hx_s (T.setVm vm₁) c0 cp 4).heap[T.heap.size + 1 + i]? = some (hx_c cp) := fun i hi => hx_inn (T.setVm vm₁) c0 cp 4 i hi
  have hP1 : va_P D vwCl (w ++ hx_w c0 cp T.heap.size) (hx_s (T.setVm vm₁) c0 cp 4).heap := by
    refine (hh.1.kept (fun k q hk => hold q.1 ((hh.1 k q hk).lt))).app (fun k q hk => ?_)
    match k, hk with
    | 0, hk =>
      cases hk
      show (hx_s (T.setVm vm₁) c0 cp 4).heap[T.heap.size]? = some (vp_cell _ _)
      rw [vp_cell_q, ← hx_oV]
      exact a2
    | 1, hk => cases hk; exact (hinn 0 (by decide)).trans (by rw [hx_cV])
    | 2, hk => cases hk; exact (hinn 1 (by decide)).trans (by rw [hx_cV])
    | 3, hk => cases hk; exact (hinn 2 (by decide)).trans (by rw [hx_cV])
    | 4, hk => cases hk; exact (hinn 3 (by decide)).trans (by rw [hx_cV])
    | k + 5, hk => simp [hx_w] at hk
  have hsz0 : s.heap.size ≤ T.heap.size := hh.2.2.1
  have hadr : ∀ (k : Nat) (q : Nat × va_E), (hx_w c0 cp T.heap.size)[k]? = some q → q.1 = T.heap.size + k := by
    intro k q hk
    match k, hk with
    | 0, hk => cases hk; rfl
    | 1, hk => cases hk; rfl
    | 2, hk => cases hk; rfl
    | 3, hk => cases hk; rfl
    | 4, hk => cases hk; rfl
    | k + 5, hk => simp [hx_w] at hk
  have hD1 : va_D (va_A wd0 s.heap.size) (w ++ hx_w c0 cp T.heap.size) := by
    refine hh.2.1.app ⟨fun i j x y hi hj hxy => ?_, fun k q hk => Or.inr (by rw [hadr k q hk]; omega)⟩ (fun i j x y hi hj hxy => ?_)
    · have h1 := hadr i x hi
      have h2 := hadr j y hj
      omega
    · have h1 := (hh.1 i x hi).lt
      have h2 := hadr j y hj
      omega
  have hS1 : va_S (va_A wd0 s.heap.size) s.heap (hx_s (T.setVm vm₁) c0 cp 4).heap (locs ++ (List.range 4).map fun i => (⟨(T.setVm vm₁).heap.size, i⟩ : Loc)) := by
    refine ⟨?_, fun q h1 h2 => (hold q (by omega)).trans (hh.2.2.2.1 q h1 h2), fun q hq => ?_⟩
    · rw [a1]
      show s.heap.size ≤ T.heap.size + 1 + 4
      omega
    · rcases List.mem_append.mp hq with h | h
      · exact hh.2.2.2.2 q h
      · obtain ⟨i, -, rfl⟩ := List.mem_map.mp h
        exact Or.inr hsz0
  have hAr : ArrOfT s c0 (.array .long) := fun N z => ⟨(fun k h => by cases h), kA, hkA, cp, hkindA⟩
  obtain ⟨t', b1, b2⟩ := kk T.heap.size c0 _ _ hAr hnameA ⟨hP1, hD1, hS1⟩ (hx_s (T.setVm vm₁) c0 cp 4) rfl X₄
  refine ⟨t', ?_, b2⟩
  have hl1 : ¬ 4 > e.platform.arrayLengthLimit := by rw [Launch.admits_arrayLengthLimit X.admits]; decide
  have hl2 : ¬ 60 > e.platform.arrayLengthLimit := by rw [Launch.admits_arrayLengthLimit X.admits]; decide
  have hh1 : ¬ 4 * componentBytes (.array .long) > e.platform.maxHeapBytes := by rw [Launch.admits_maxHeapBytes X.admits]; decide
  have hh2 : ¬ 60 * componentBytes .long > e.platform.maxHeapBytes := by rw [Launch.admits_maxHeapBytes X.admits]; decide
  jvm_step X.here [hx, hdg]
  simp only [Op.multianewarray.sem, wp_bind', Jvm.W.resolveClassAt_links (State.method?_setTop (F0 m pc ls (.int (nI 60) :: .int (nI 4) :: rest)) X.here.top) hg₁]
  rw [Jvm.W.popN, if_neg (by decide)]
  refine ⟨F0 m pc ls (.int (nI 60) :: .int (nI 4) :: rest), State.topJava?_setTop' (s := T.setVm vm₁) (F0 m pc ls (.int (nI 60) :: .int (nI 4) :: rest)) X.here.top, [.int (nI 4), .int (nI 60)], rest, rfl, rfl, ?_⟩
  simp only [List.mapM_cons, List.mapM_nil, wp_bind', wp_pure']
  refine hx_make (k := kA₁) (kc := kC₁) hkA₁ hkindA₁ hkC₁ hkindC₁ hl1 hl2 hh1 hh2 (by show T.heap.size + 5 ≤ _; exact hr1) (by show T.slotsUsed + 244 ≤ _; exact hr2) (fun d' acts' => ?_)
  have eS : ((T.setTop (F0 m pc ls (.int (nI 60) :: .int (nI 4) :: rest))).setVm vm₁).setTop { F0 m pc ls (.int (nI 60) :: .int (nI 4) :: rest) with stack := rest } = (T.setVm vm₁).setTop { F0 m pc ls (.int (nI 60) :: .int (nI 4) :: rest) with stack := rest } := by
    show ((T.setVm vm₁).setTop _).setTop _ = _
    rw [State.setTop_setTop]
  rw [eS, hx_top]
  simp only [wp_bind', Jvm.W.mark, Jvm.W.pushRef, State.topJava?_setTop' _ X₄.here.top, Option.some.injEq, exists_eq_left', State.setTop_setTop, State.heap_setTop]
  intro acts
  simp [jvm, X₄.here.top]
  exact b1
end HXW
