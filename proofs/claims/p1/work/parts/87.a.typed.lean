/-! hc_: cells that are made are as their kinds say -/
def hc_ad (w : va_W) (c : Nat) : Nat := ((w[c]?).map Prod.fst).getD 0
/-- do the references of these cells point below n? -/
def hc_cl (fp : List Nat) (n : Nat) : Bool := fp.all (fun c => Nat.blt c n && (match hb_KT[c]? with
  | some kd => kd.2.2.2.all (fun t => !(Nat.beq t.1 2) || Nat.blt t.2.1.toNat n)
  | none => false))
theorem hc_tyU {U U' : Nat → Nat} {n : Nat} {ty : hbT} {v : Value} (hU : ∀ c, c < n → U' c = U c) (ht : (!(Nat.beq ty.1 2) || Nat.blt ty.2.1.toNat n) = true) (h : hb_ty U ty v) : hb_ty U' ty v := by
  obtain ⟨t, lo, hi⟩ := ty
  match t, h with
  | 0, h => exact h
  | 1, h => exact h
  | 2, h =>
    have h1 : Nat.blt lo.toNat n = true := ht
    have h2 : v = .ref (U lo.toNat) := h
    show v = .ref (U' lo.toNat)
    rw [hU _ (hb_blt h1)]
    exact h2
  | t + 3, h => exact h
theorem hc_wdU {s : State} {U U' : Nat → Nat} {w w' : va_W} {fp : List Nat} {n : Nat} (h : hb_wd hb_KT s U w fp) (hcl : hc_cl fp n = true) (hU : ∀ c, c < n → U' c = U c) (hw : ∀ c ∈ fp, w'[c]? = w[c]?) : hb_wd hb_KT s U' w' fp := by
  intro c hc
  obtain ⟨kd, e, h1, h2, h3, h4⟩ := h c hc
  obtain ⟨c1, c2⟩ := hb_and2 (List.all_eq_true.mp hcl c hc)
  rw [h1] at c2
  refine ⟨kd, e, h1, by rw [hw c hc, hU c (hb_blt c1)]; exact h2, ⟨h3.1, fun k hk => ?_⟩, h4⟩
  obtain ⟨v, ty, g1, g2, g3⟩ := h3.2 k hk
  refine ⟨v, ty, g1, g2, hc_tyU hU (List.all_eq_true.mp c2 ty ?_) g3⟩
  exact List.mem_of_getElem? g2
def hc_all (U : Nat → Nat) : List hbT → List Value → Prop
  | [], [] => True
  | t :: ts, v :: vs => hb_ty U t v ∧ hc_all U ts vs
  | _, _ => False
theorem hc_all_at {U : Nat → Nat} : ∀ {ts : List hbT} {vs : List Value}, hc_all U ts vs → ts.length = vs.length ∧ ∀ k, k < ts.length → ∃ v ty, vs[k]? = some v ∧ ts[k]? = some ty ∧ hb_ty U ty v
  | [], [], _ => ⟨rfl, fun k h => absurd h (by simp)⟩
  | t :: ts, v :: vs, h => by
    obtain ⟨h1, h2⟩ := hc_all_at h.2
    refine ⟨by simp [h1], fun k hk => ?_⟩
    cases k with
    | zero => exact ⟨v, t, rfl, rfl, h.1⟩
    | succ k =>
      obtain ⟨a, b, g1, g2, g3⟩ := h2 k (by simp at hk; omega)
      exact ⟨a, b, g1, g2, g3⟩
  | [], _ :: _, h => h.elim
  | _ :: _, [], h => h.elim
theorem hc_cellO {s : State} {U : Nat → Nat} {ci n : Nat} {tys : List hbT} {fs : List Value} (hn : tys.length = n) (h : hc_all U tys fs) : hb_cell s U (0, ci, n, tys) (.inr (ci, fs)) := by
  obtain ⟨h1, h2⟩ := hc_all_at h
  refine ⟨⟨fs, rfl, by show fs.length = n; omega⟩, fun k hk => ?_⟩
  have hk : k < n := hk
  obtain ⟨v, ty, g1, g2, g3⟩ := h2 k (by omega)
  exact ⟨v, ty, g1, by unfold hb_tyAt; dsimp only; rw [Nat.mod_eq_of_lt (by omega)]; exact g2, g3⟩
theorem hc_cellI {s : State} {U : Nat → Nat} {n : Nat} {lo hi : Int} {cA : ClassId} {f : Nat → Int32} (hA : ArrOfT s cA .int ∧ va_RA s cA .int) (hf : ∀ k, k < n → lo ≤ (f k).toInt ∧ (f k).toInt ≤ hi) : hb_cell s U (1, 0, n, [(0, lo, hi)]) (.inl (cA, n, .inl f)) := by
  refine ⟨⟨cA, f, rfl, hA⟩, fun k hk => ⟨.int (f k), (0, lo, hi), hb_getI hk, ?_, f k, rfl, hf k hk⟩⟩
  unfold hb_tyAt
  simp [Nat.mod_one]
theorem hc_cellB {s : State} {U : Nat → Nat} {n : Nat} {lo hi : Int} {cA : ClassId} {f : Nat → Int32} (hA : ArrOfT s cA .byte ∧ va_RA s cA .byte) (hf : ∀ k, k < n → lo ≤ (f k).toInt ∧ (f k).toInt ≤ hi) : hb_cell s U (2, 0, n, [(0, lo, hi)]) (.inl (cA, n, .inl f)) := by
  refine ⟨⟨cA, f, rfl, hA⟩, fun k hk => ⟨.int (f k), (0, lo, hi), hb_getI hk, ?_, f k, rfl, hf k hk⟩⟩
  unfold hb_tyAt
  simp [Nat.mod_one]
theorem hc_cellZ {s : State} {U : Nat → Nat} {n : Nat} {lo hi : Int} {cA : ClassId} {f : Nat → Int32} (hA : ArrOfT s cA .boolean ∧ va_RA s cA .boolean) (hf : ∀ k, k < n → lo ≤ (f k).toInt ∧ (f k).toInt ≤ hi) : hb_cell s U (3, 0, n, [(0, lo, hi)]) (.inl (cA, n, .inl f)) := by
  refine ⟨⟨cA, f, rfl, hA⟩, fun k hk => ⟨.int (f k), (0, lo, hi), hb_getI hk, ?_, f k, rfl, hf k hk⟩⟩
  unfold hb_tyAt
  simp [Nat.mod_one]
theorem hc_cellJ {s : State} {U : Nat → Nat} {n : Nat} {lo hi : Int} {cA : ClassId} {f : Nat → Int64} (hA : ArrOfT s cA .long ∧ va_RA s cA .long) (hf : ∀ k, k < n → lo ≤ (f k).toInt ∧ (f k).toInt ≤ hi) : hb_cell s U (4, 0, n, [(1, lo, hi)]) (.inl (cA, n, .inr (.inl f))) := by
  refine ⟨⟨cA, f, rfl, hA⟩, fun k hk => ⟨.long (f k), (1, lo, hi), hb_getL hk, ?_, f k, rfl, hf k hk⟩⟩
  unfold hb_tyAt
  simp [Nat.mod_one]
/-- an array whose places differ in kind, all nought -/
def hc_t0 (t : hbT) : Bool := match t with
  | (0, lo, hi) => hb_le lo 0 && hb_le 0 hi
  | (1, _, _) => false
  | (2, _, _) => false
  | _ => true
theorem hc_act0 : (0 : Int) ∈ hb_acts := by decide +kernel
theorem hc_cellW {s : State} {U : Nat → Nat} {n : Nat} {tys : List hbT} {cA : ClassId} (hA : ArrOfT s cA .int ∧ va_RA s cA .int) (ht : (Nat.blt 0 tys.length && tys.all hc_t0) = true) : hb_cell s U (1, 0, n, tys) (.inl (cA, n, .inl (fun _ => 0))) := by
  obtain ⟨h0, h1⟩ := hb_and2 ht
  refine ⟨⟨cA, _, rfl, hA⟩, fun k hk => ?_⟩
  have hlt : k % tys.length < tys.length := Nat.mod_lt _ (hb_blt h0)
  refine ⟨.int 0, tys[k % tys.length], hb_getI hk, List.getElem?_eq_getElem hlt, ?_⟩
  have h2 := List.all_eq_true.mp h1 _ (List.getElem_mem hlt)
  generalize tys[k % tys.length] = ty at h2
  obtain ⟨t, lo, hi⟩ := ty
  match t, h2 with
  | 0, h2 =>
    obtain ⟨a1, a2⟩ := hb_and2 h2
    exact ⟨0, rfl, hb_le_t a1, hb_le_t a2⟩
  | 1, h2 => cases h2
  | 2, h2 => cases h2
  | t + 3, h2 => exact ⟨0, rfl, hc_act0⟩
theorem hc_cellQ {s : State} {U : Nat → Nat} {n : Nat} {tys : List hbT} {cA : ClassId} {ty : FieldType} {g : Nat → Option Nat} (hr : ty.isReference = true) (hA : ArrOfT s cA ty ∧ va_RA s cA ty) (hn : tys.length = n) (h : ∀ k, k < n → ∃ c u, tys[k]? = some (2, c, u) ∧ g k = some (U c.toNat)) : hb_cell s U (5, 0, n, tys) (.inl (cA, n, .inr (.inr (.inr (.inr g))))) := by
  refine ⟨⟨cA, g, ty, rfl, hr, hA⟩, fun k hk => ?_⟩
  have hk : k < n := hk
  obtain ⟨c, u, g1, g2⟩ := h k hk
  refine ⟨va_rf (g k), (2, c, u), hb_getQ hk, by unfold hb_tyAt; dsimp only; rw [Nat.mod_eq_of_lt (by omega)]; exact g1, ?_⟩
  rw [g2]
  rfl
theorem hc_adr {k n i : Nat} {x : Nat × va_E} {wd L : va_W} (hn : wd.length = n) : hc_ad (wd.set k x ++ L) (n + i) = ((L[i]?).map Prod.fst).getD 0 := by
  unfold hc_ad
  rw [hc_getr hn]
theorem hc_ado {k n j a : Nat} {e e' : va_E} {wd L : va_W} (hn : wd.length = n) (hj : j < n) (hk : wd[k]? = some (a, e)) : hc_ad (wd.set k (a, e') ++ L) j = hc_ad wd j := by
  unfold hc_ad
  rw [List.getElem?_append_left (by rw [List.length_set]; omega)]
  by_cases h : k = j
  · subst h
    rw [List.getElem?_set_self (by omega), hk]
    rfl
  · rw [List.getElem?_set_ne h]
/-- what a constructor leaves, in kinds: ki the object, N how many cells there are then -/
def hc_PT (wd : va_W) (ki N : Nat) (fp : List Nat) (t : State) (wd' : va_W) : Prop := wd'.length = N ∧ (∀ j, j < wd.length → hc_ad wd' j = hc_ad wd j) ∧ (∀ j, j < wd.length → j ≠ ki → wd'[j]? = wd[j]?) ∧ hb_wd hb_KT t (hc_ad wd') wd' fp
theorem hc_frl {mods : List Nat} {w w' : va_W} (h : hb_fr mods w w') : w'.length = w.length := by
  have key : ∀ (a b : va_W), hb_fr mods a b → a.length ≤ b.length := by
    intro a b hf
    rcases (show a.length ≤ b.length ∨ b.length < a.length by omega) with q | q
    · exact q
    · have h1 := (hf b.length).1
      rw [List.getElem?_eq_none (Nat.le_refl _), List.getElem?_eq_getElem q] at h1
      cases h1
  have h2 : hb_fr mods w' w := fun c => ⟨(h c).1.symm, fun hc => ((h c).2 hc).symm⟩
  have := key _ _ h
  have := key _ _ h2
  omega
theorem hc_fra {mods : List Nat} {w w' : va_W} (h : hb_fr mods w w') (c : Nat) : hc_ad w' c = hc_ad w c := by
  unfold hc_ad
  rw [(h c).1]
section HCQ
variable {p : Program} {l : Launch} {e : Env} {R : Room} {s : State} {m : MethodId} {args : Array Value} {below : List Frame} {meth : Method} {c : Code} {Q : State → Prop} {pc cells slots : Nat} {D : va_G} {U S : Nat → Nat} {wd0 w : va_W} {y y0 : hbY} {ls : Array Slot} {rest : List Value} {H : Heap} {locs : List Loc} {q : hbQ}
/-- what a contract of the interpreter's says, for a method that answers nothing and takes no numbers of its own -/
theorem hc_conv (hq : hb_Met hb_G q) (hy : hb_MT[q.1]? = some y) (hV0 : q.2.1.1 = ([(0, 0)], [], [])) (hC0 : q.2.1.2.2 = []) (hvd : q.2.2.1.all (fun z => z.1.2.2.1.isEmpty) = true) {vs : List Value} (hst : hb_stk 1 U S (fun _ => 0) q.2.1.2.1 vs) (sz : Nat) :
    Met l y.1 (.code y.1 y.2.1 y.2.2.1 y.2.2.2 :: hb_G.2.1.1) (hb_rm q) (va_Pc vs (hb_Pre hb_G D U S w sz q.2.2.2.1.1)) (fun _ st oc t => (∃ v, oc = .returned v ∧ v = none ∧ ∃ wd', va_P D vwCl wd' t.heap ∧ hb_wd hb_KT t U wd' q.2.2.2.1.1 ∧ hb_fr q.2.2.2.1.2 w wd') ∧ va_F (va_A w sz) st t) 0 0 (va_A w sz) := by
  have hM := hq y hy l D U S (fun _ => 0) w sz vs (by rw [hV0]; exact ⟨fun k lo hi h => by
    cases k with
    | zero => cases h; exact ⟨Int.le_refl _, Int.le_refl _⟩
    | succ k => simp at h, (fun _ h => (by cases h)), (fun _ h => (by cases h))⟩) (by rw [hV0]; decide) (by rw [hV0]; exact hst) (by rw [hC0]; exact fun _ h => (by cases h))
  intro p' e' ha' hc' hk' s' m' args' below' hf' hfit hP' hK'
  obtain ⟨k', o', w1, w2, w3, ⟨⟨v, wd', ρ', z, p1, p2, p3, p4, p5, p6, p7, p8, p9, p10⟩, p11⟩, w5⟩ := hM p' e' ha' hc' hk' s' m' args' below' hf' hfit hP' hK'
  have hz := List.all_eq_true.mp hvd z p1
  have hv : v = none := by
    cases hs : z.1.2.2.1 with
    | cons a r => rw [hs] at hz; cases hz
    | nil =>
      rw [hs] at p6
      have := hb_stk.nil p6
      cases v with
      | none => rfl
      | some x => cases this
  exact ⟨k', o', w1, w2, w3, ⟨⟨v, p2, hv, wd', p8, p9, p10⟩, p11⟩, w5⟩
theorem hc_cQ {idx ci b root : Nat} {As st : List Value} {fs : List Value} {T : u_T} {N : Nat} (hBd : hb_Bd hb_G y0 p s m args meth c) (hGs : hb_Gs hb_G D (va_A wd0 s.heap.size) S s) (hh : hc_H D s wd0 w H locs) (hq : hb_Met hb_G q) (hy : hb_MT[q.1]? = some y) (hV0 : q.2.1.1 = ([(0, 0)], [], [])) (hC0 : q.2.1.2.2 = []) (hvd : (q.2.2.1.all (fun z => z.1.2.2.1.isEmpty) && hb_subl q.2.2.2.1.2 q.2.2.2.1.1) = true) (hst1 : hb_stk 1 U S (fun _ => 0) q.2.1.2.1 (.ref b :: As)) (hwd : hb_wd hb_KT s U w q.2.2.2.1.1) (hroot : w[root]? = some (b, .inr (ci, fs))) (hcl : vwCl[ci]? = some (y.1.cls, T, N)) (hini : Cond.initialized y.1.cls ∈ hb_G.2.1.1) (hlink : Cond.methodLink y0.1.cls idx y.1 ∈ hb_G.2.1.1) (hins : Cond.instanceMethod y.1 ∈ hb_G.2.1.1) (hsel : Cond.selects y.1.cls y.1 y.1 ∈ hb_G.2.1.1) (hnm : y.1.cls ≠ "java/lang/invoke/MethodHandle" ∧ y.1.cls ≠ "java/lang/invoke/VarHandle") (hR : q.2.2.2.2.1 + 1 ≤ R.frames ∧ 8 + (y.2.2.1 + 11) + q.2.2.2.2.2 ≤ R.locals) (hnp : ∀ sig, parseMethodDescriptor y.1.desc = some sig → As.length = sig.parameters.length) (hsz : ls.size = y0.2.2.1) (hst : st = As.reverse ++ .ref b :: rest) (hcat : (rest.map fun v => v.category).sum ≤ 8) (hcs : cells ≤ R.cells ∧ slots ≤ R.slots) (hdg : decode y0.2.1 pc = .ok (.invokevirtual idx, 3))
    (kk : ∀ (w1 : va_W) (H1 : Heap) (locs1 : List Loc), hc_H D s wd0 w1 H1 locs1 → hb_wd hb_KT s U w1 q.2.2.2.1.1 → hb_fr q.2.2.2.1.2 w w1 → W p l e R s m args below meth c H1 locs1 cells slots Q (F0 m (pc + 3) ls rest)) : W p l e R s m args below meth c H locs cells slots Q (F0 m pc ls st) := by
  obtain ⟨hx, hb, hml, hown, hlocks, hret, hTw⟩ := hBd
  obtain ⟨hvd, hmf⟩ := hb_and2 hvd
  have hcd : Cond.code y.1 y.2.1 y.2.2.1 y.2.2.2 ∈ hb_G.2.1.1 := hb_codeG y (List.mem_of_getElem? hy)
  have hA1 := hc_A hh
  have hrec := va_recv hGs.1 hh.1 hcl hroot
  refine hc_callW (mc := 0) (ms := 0) (P := fun v t => v = none ∧ ∃ wd', va_P D vwCl wd' t.heap ∧ hb_wd hb_KT t U wd' q.2.2.2.1.1 ∧ hb_fr q.2.2.2.1.2 w wd') (A1 := va_A w H.size) (free := va_A w H.size) (va_runV (C := y.1.cls) (b := b) (As := As) (n := As.length) (index := idx) (rest := rest) ⟨hx, hb, hml, hown, hTw⟩ (hc_conv hq hy hV0 hC0 hvd hst1 H.size) ⟨⟨rfl, rfl, hR.1, hR.2, hb_wsW hb_goodG hTw hcd, List.mem_cons_self, hTw _ hcd, hTw _ hini, hnm, hnp, hTw _ hlink⟩, hTw _ hins, hTw _ hsel⟩ ⟨hb_blind hb_GokG _ _ _ _ _ _ _, hrec, fun V hV hW => ⟨rfl, by rw [hV], by rw [hV]; exact hh.1, hh.2.1.weaken (fun _ _ _ _ => trivial), hwd.moved hW.alike, hb_Gs.move hb_GokG hW (fun q' h1 h2 => by rw [hV]; exact hh.2.2.2.1 q' h1 h2) hA1 hGs⟩⟩ rfl rfl hsz hst (lv_room hcat) hdg ⟨by omega, by omega⟩) hh.2.2 (fun q _ hq => hA1 q hq) hA1 ?_
  intro v t H1 locs1 ht hvm hP hS
  obtain ⟨rfl, wd', p8, p9, p10⟩ := hP
  exact kk wd' H1 locs1 ⟨by rw [← ht]; exact p8, p10.D hh.2.1, hS⟩ (p9.moved hvm.symm) p10
theorem hc_cQS {idx : Nat} {As st : List Value} (hBd : hb_Bd hb_G y0 p s m args meth c) (hGs : hb_Gs hb_G D (va_A wd0 s.heap.size) S s) (hh : hc_H D s wd0 w H locs) (hq : hb_Met hb_G q) (hy : hb_MT[q.1]? = some y) (hV0 : q.2.1.1 = ([(0, 0)], [], [])) (hC0 : q.2.1.2.2 = []) (hvd : (q.2.2.1.all (fun z => z.1.2.2.1.isEmpty) && hb_subl q.2.2.2.1.2 q.2.2.2.1.1) = true) (hst1 : hb_stk 1 U S (fun _ => 0) q.2.1.2.1 As) (hwd : hb_wd hb_KT s U w q.2.2.2.1.1) (hini : Cond.initialized y.1.cls ∈ hb_G.2.1.1) (hlink : Cond.methodLink y0.1.cls idx y.1 ∈ hb_G.2.1.1) (hsta : Cond.static y.1 ∈ hb_G.2.1.1) (hnm : y.1.cls ≠ "java/lang/invoke/MethodHandle" ∧ y.1.cls ≠ "java/lang/invoke/VarHandle") (hR : q.2.2.2.2.1 + 1 ≤ R.frames ∧ 8 + (y.2.2.1 + 11) + q.2.2.2.2.2 ≤ R.locals) (hnp : ∀ sig, parseMethodDescriptor y.1.desc = some sig → As.length = sig.parameters.length) (hsz : ls.size = y0.2.2.1) (hst : st = As.reverse ++ rest) (hcat : (rest.map fun v => v.category).sum ≤ 8) (hcs : cells ≤ R.cells ∧ slots ≤ R.slots) (hdg : decode y0.2.1 pc = .ok (.invokestatic idx, 3))
    (kk : ∀ (w1 : va_W) (H1 : Heap) (locs1 : List Loc), hc_H D s wd0 w1 H1 locs1 → hb_wd hb_KT s U w1 q.2.2.2.1.1 → hb_fr q.2.2.2.1.2 w w1 → W p l e R s m args below meth c H1 locs1 cells slots Q (F0 m (pc + 3) ls rest)) : W p l e R s m args below meth c H locs cells slots Q (F0 m pc ls st) := by
  obtain ⟨hx, hb, hml, hown, hlocks, hret, hTw⟩ := hBd
  obtain ⟨hvd, hmf⟩ := hb_and2 hvd
  have hcd : Cond.code y.1 y.2.1 y.2.2.1 y.2.2.2 ∈ hb_G.2.1.1 := hb_codeG y (List.mem_of_getElem? hy)
  have hA1 := hc_A hh
  refine hc_callW (mc := 0) (ms := 0) (P := fun v t => v = none ∧ ∃ wd', va_P D vwCl wd' t.heap ∧ hb_wd hb_KT t U wd' q.2.2.2.1.1 ∧ hb_fr q.2.2.2.1.2 w wd') (A1 := va_A w H.size) (free := va_A w H.size) (va_runS (As := As) (n := As.length) (index := idx) (rest := rest) ⟨hx, hb, hml, hown, hTw⟩ (hc_conv hq hy hV0 hC0 hvd hst1 H.size) ⟨⟨rfl, rfl, hR.1, hR.2, hb_wsW hb_goodG hTw hcd, List.mem_cons_self, hTw _ hcd, hTw _ hini, hnm, hnp, hTw _ hlink⟩, hTw _ hsta⟩ ⟨hb_blind hb_GokG _ _ _ _ _ _ _, fun V hV hW => ⟨rfl, by rw [hV], by rw [hV]; exact hh.1, hh.2.1.weaken (fun _ _ _ _ => trivial), hwd.moved hW.alike, hb_Gs.move hb_GokG hW (fun q' h1 h2 => by rw [hV]; exact hh.2.2.2.1 q' h1 h2) hA1 hGs⟩⟩ rfl rfl hsz hst (lv_room hcat) hdg ⟨by omega, by omega⟩) hh.2.2 (fun q _ hq => hA1 q hq) hA1 ?_
  intro v t H1 locs1 ht hvm hP hS
  obtain ⟨rfl, wd', p8, p9, p10⟩ := hP
  exact kk wd' H1 locs1 ⟨by rw [← ht]; exact p8, p10.D hh.2.1, hS⟩ (p9.moved hvm.symm) p10
end HCQ
