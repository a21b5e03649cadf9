/-! hb_: a method's contract out of its test -/
def hb_args : Nat → List hbA → List (Nat × hbA)
  | _, [] => []
  | i, a :: r => (i, a) :: hb_args (i + hb_cat a) r
theorem hb_args_ok {n : Nat} {U S : Nat → Nat} {ρ : Nat → Int} : ∀ {as : List hbA} {vs : List Value} {i : Nat}, hb_stk n U S ρ as vs → ∀ q ∈ hb_args i as, ∃ v, (q.1, v) ∈ lv_args i vs ∧ hb_v n U S ρ q.2 v
  | [], _, _, _, q, hq => by cases hq
  | _ :: _, [], _, h, _, _ => h.elim
  | a :: as, v :: vs, i, h, q, hq => by
    rcases List.mem_cons.mp hq with rfl | hq
    · exact ⟨v, List.mem_cons_self, h.1⟩
    · have e : (if v.category = 2 then i + 2 else i + 1) = i + hb_cat a := by
        rw [← h.1.cat]
        rcases lv_cat v with z | z
        · rw [z]; rfl
        · rw [z]; rfl
      obtain ⟨w, g1, g2⟩ := hb_args_ok (i := i + hb_cat a) h.2 q hq
      refine ⟨w, List.mem_cons_of_mem _ ?_, g2⟩
      rw [e]
      exact g1
theorem hb_sl_len {n : Nat} {U S : Nat → Nat} {ρ : Nat → Int} : ∀ {as : List hbA} {vs : List Value}, hb_stk n U S ρ as vs → (lg_sl vs).length = hb_cats as
  | [], [], _ => rfl
  | [], _ :: _, h => h.elim
  | _ :: _, [], h => h.elim
  | a :: as, v :: vs, h => by
    have ih := hb_sl_len h.2
    unfold lg_sl at ih ⊢
    rw [List.flatMap_cons, List.length_append, ih]
    show _ = hb_cat a + hb_cats as
    rw [← h.1.cat]
    rcases lv_cat v with z | z
    · rw [z]; rfl
    · rw [z]; rfl
def hb_il (IN : List (Nat × Instr × Nat)) (pc : Nat) : Option (Instr × Nat) := match IN with
  | [] => none
  | (q, z) :: r => cond (Nat.beq q pc) (some z) (hb_il r pc)
theorem hb_il_mem {pc : Nat} {z : Instr × Nat} : ∀ {IN : List (Nat × Instr × Nat)}, hb_il IN pc = some z → (pc, z) ∈ IN
  | [], h => by cases h
  | (q, z') :: r, h => by
    unfold hb_il at h
    cases hj : Nat.beq q pc with
    | true =>
      rw [hj] at h
      cases h
      rw [hb_lenE hj]
      exact List.mem_cons_self
    | false =>
      rw [hj] at h
      exact List.mem_cons_of_mem _ (hb_il_mem h)
def hb_cl (calls : List (Nat × List Nat)) (pc : Nat) : List Nat := match calls with
  | [] => []
  | (q, z) :: r => cond (Nat.beq q pc) z (hb_cl r pc)
/-- a class's links: fields, methods, constants, Math, arraycopy -/
abbrev hbL : Type := List (Nat × Nat × Nat × Nat) × hbMP × List (Nat × Nat × Int) × List (Nat × Nat) × List Nat
/-- what goes with a contract for its test: heads, splits, calls, fuel, the end's code -/
abbrev hbZ : Type := hbH × List (Nat × Nat) × List (Nat × List Nat) × Nat × Nat
def hb_stp (KT : List hbK) (MT : List hbY) (QT : List hbQ) (j0 RF RL nL acw : Nat) (fp mods : List Nat) (PL : hbL) (ins : Nat → Option (Instr × Nat)) (calls : List (Nat × List Nat)) : Instr → Nat → Nat → hbS → hbR := fun i len pc A => match A with
  | (V, L, S, C) => hb_orE (hb_step1 i len pc nL V L S C) (hb_orE (hb_step2 ins i len pc V L S C) (hb_orE (hb_step3 (!(hb_cl calls pc).isEmpty) KT fp mods PL.1 i len pc V L S C) (hb_orE (hb_step5 RF RL PL.2.2.1 PL.2.2.2.1 i len pc V L S C) (hb_orE (hb_step6 KT fp mods PL.2.2.2.2 RF RL acw i len pc V L S C) (hb_step4 KT MT QT j0 RF RL fp mods PL.2.1 (hb_cl calls pc) i len pc V L S C)))))
def hb_chk (KT : List hbK) (MT : List hbY) (QT : List hbQ) (acw nL : Nat) (PL : hbL) (IN : List (Nat × Instr × Nat)) (j : Nat) (q : hbQ) (z : hbZ) : Bool :=
  Nat.blt 0 q.2.1.1.1.length && Nat.ble (hb_cats q.2.1.2.1) nL &&
  z.1.all (fun h => Nat.ble q.2.1.1.1.length h.2.1.1.1.length && h.2.2.2.all (fun a => Nat.blt a.2.2.1 h.2.1.1.1.length) && hb_run q.2.1.1.1.length z.2.2.2.2 q.2.2.1 z.1 z.2.1 (hb_il IN) (hb_stp KT MT QT j q.2.2.2.2.1 q.2.2.2.2.2 nL acw q.2.2.2.1.1 q.2.2.2.1.2 PL (hb_il IN) z.2.2.1) (some h.2.2.2) z.2.2.2.1 true h.1 h.2.1) &&
  hb_run q.2.1.1.1.length z.2.2.2.2 q.2.2.1 z.1 z.2.1 (hb_il IN) (hb_stp KT MT QT j q.2.2.2.2.1 q.2.2.2.2.2 nL acw q.2.2.2.1.1 q.2.2.2.1.2 PL (hb_il IN) z.2.2.1) none z.2.2.2.1 true 0 (q.2.1.1, hb_args 0 q.2.1.2.1, [], q.2.1.2.2)
/-- what holds of a class's links in every state in which the words hold -/
def hb_PLok (G : hbG) (own : String) (PL : hbL) : Prop := ∀ (args : Array Value) (s : State) (A : Nat → Prop) (S : Nat → Nat), (∀ w ∈ G.2.1.1, w.before args s = true) → (∀ w ∈ G.2.1.2, va_Nw w s) → G.2.2.1 A S s →
  hb_pool own G.1.2 PL.1 args s ∧ hb_mp own G.1.2 G.2.2.2 PL.2.1 args s ∧ hb_kp own S PL.2.2.1 args s ∧ hb_xp own PL.2.2.2.1 args s ∧ hb_cp own PL.2.2.2.2 args s ∧ hb_tr A S PL.2.1 s
def hb_rcok (rc : Nat) (ret : Option FieldType) : Prop := (rc = 0 → ret = none) ∧ (rc = 1 → ret = some .int) ∧ (rc = 2 → ret = some .boolean) ∧ (rc = 3 → ret = some .long) ∧ (rc = 4 → ∃ n, ret = some (.object n))
section HBMT
variable {p : Program} {l : Launch} {e : Env} {R : Room} {s : State} {m : MethodId} {args : Array Value} {below : List Frame} {meth : Method} {c : Code} {cc : ByteArray} {own : String} {nL j : Nat} {X X' : hbX} {G : hbG} {QT : List hbQ} {PL : hbL} {fp mods : List Nat} {Q : State → Prop} {calls : List (Nat × List Nat)} {ins : Nat → Option (Instr × Nat)}
theorem hb_stp_ok (hx : p.tables.exec = Jvm.exec) (hb : c.code = cc) (hml : c.maxLocals = nL) (hown : s.vm.findClass own = some m.cls) (hG : hb_Gok G) (hTw : ∀ w ∈ G.2.1.1, w.before args s = true) (hgood : ∀ w ∈ G.2.1.1, (w.onTables && w.keeps) = true ∨ ∃ ty, w = .arrayClass ty) (hcode : ∀ y ∈ G.2.2.2, Cond.code y.1 y.2.1 y.2.2.1 y.2.2.2 ∈ G.2.1.1) (htb : hb_tabs G.1.2 G.2.1.1)
    (xs : X.1.1 = s) (xc : X.1.2.2 = G.1.2) (xk : X.2.1 = (G.1.1, fp, mods)) (xn : X.2.2.2.2.2.1 = nL) (xa : X.2.2.2.2.2.2 = va_A X.2.2.2.2.1 s.heap.size) (xG : hb_Gs G X.1.2.1 X.2.2.2.2.2.2 X.2.2.1.2 s) (hQ : ∀ j' q', j' < j → QT[j']? = some q' → hb_Met G q') (hins : ∀ a b, ins a = some b → decode cc a = .ok b)
    (pl1 : hb_pool own G.1.2 PL.1 args s) (pl2 : hb_mp own G.1.2 G.2.2.2 PL.2.1 args s) (pl3 : hb_kp own X.2.2.1.2 PL.2.2.1 args s) (pl4 : hb_xp own PL.2.2.2.1 args s) (pl5 : hb_cp own PL.2.2.2.2 args s) (pl6 : hb_tr X.2.2.2.2.2.2 X.2.2.1.2 PL.2.1 s)
    {i : Instr} {len pc : Nat} {A : hbS} {lst : List (Nat × hbS)} (hdg : decode cc pc = .ok (i, len)) (hst : hb_stp G.1.1 G.2.2.2 QT j R.frames R.locals nL hb_acw fp mods PL ins calls i len pc A = some lst) (hJ : ∀ w ∈ lst, hb_J X (hb_w p l e R s m args below meth c Q) m w.2 w.1) : hb_J X (hb_w p l e R s m args below meth c Q) m A pc := by
  obtain ⟨V, L, S', C⟩ := A
  unfold hb_stp at hst
  dsimp only at hst
  have xK : va_K X.1.2.1 X.1.2.2 [] s := by rw [xc]; exact xG.1
  rcases hb_orE_inv hst with hst | hst
  · exact hb_step1_ok hx hb hdg xn hst hJ
  rcases hb_orE_inv hst with hst | hst
  · exact hb_step2_ok hx hb hins hdg hst hJ
  rcases hb_orE_inv hst with hst | hst
  · exact hb_step3_ok hx hb hdg xs xk hown hTw xK (by rw [xc]; exact pl1) (by rw [xc]; exact htb) hst hJ
  rcases hb_orE_inv hst with hst | hst
  · exact hb_step5_ok hx hb hml hown hdg xn pl3 pl4 hst hJ
  rcases hb_orE_inv hst with hst | hst
  · exact hb_step6_ok hx hb hml hown hdg xs xk xn xK pl5 hst hJ
  · exact hb_step4_ok hx hb hml hown hdg hG hTw hgood hcode xs xc xk xn xa xG hQ pl2 pl6 hst hJ
theorem hb_like.facts (h : hb_like X X') (xs : X.1.1 = s) (xc : X.1.2.2 = G.1.2) (xk : X.2.1 = (G.1.1, fp, mods)) (xn : X.2.2.2.2.2.1 = nL) (xa : X.2.2.2.2.2.2 = va_A X.2.2.2.2.1 s.heap.size) (xG : hb_Gs G X.1.2.1 X.2.2.2.2.2.2 X.2.2.1.2 s) : X'.1.1 = s ∧ X'.1.2.2 = G.1.2 ∧ X'.2.1 = (G.1.1, fp, mods) ∧ X'.2.2.2.2.2.1 = nL ∧ X'.2.2.2.2.2.2 = va_A X'.2.2.2.2.1 s.heap.size ∧ hb_Gs G X'.1.2.1 X'.2.2.2.2.2.2 X'.2.2.1.2 s ∧ X'.2.2.1.2 = X.2.2.1.2 ∧ X'.2.2.2.2.2.2 = X.2.2.2.2.2.2 := by
  obtain ⟨e1, e2, e3, e4, -, -⟩ := h
  rw [e1, e2, e3, e4]
  exact ⟨xs, xc, xk, xn, xa, xG, rfl, rfl⟩
theorem hb_body {rc fuel : Nat} {posts : List (hbS × List (Nat × Nat × Int))} {hd : hbH} {sp : List (Nat × Nat)} {stp : Instr → Nat → Nat → hbS → hbR} {A0 : hbS} (hx : p.tables.exec = Jvm.exec) (hb : c.code = cc) (hlocks : meth.locks = false) (hins : ∀ q z, ins q = some z → decode cc q = .ok z) (hrc : (rc = 0 → meth.sig.returnType = none) ∧ (rc = 1 → meth.sig.returnType = some .int) ∧ (rc = 2 → meth.sig.returnType = some .boolean) ∧ (rc = 3 → meth.sig.returnType = some .long) ∧ (rc = 4 → ∃ n, meth.sig.returnType = some (.object n)))
    (hXs : X.1.1 = s) (hXc : X.1.2.2 = G.1.2) (hXk : X.2.1 = (G.1.1, fp, mods)) (hAd : X.2.2.2.2.2.2 = va_A X.2.2.2.2.1 s.heap.size) (hn0 : 0 < X.2.2.2.1.2)
    (step : ∀ (X' : hbX), hb_like X X' → ∀ (i : Instr) (len pc : Nat) (A : hbS) (lst : List (Nat × hbS)), decode cc pc = .ok (i, len) → stp i len pc A = some lst → (∀ z ∈ lst, hb_J X' (hb_w p l e R s m args below meth c (hb_QX below args s G X fp mods posts)) m z.2 z.1) → hb_J X' (hb_w p l e R s m args below meth c (hb_QX below args s G X fp mods posts)) m A pc)
    (hheads : hd.all (fun h => Nat.ble X.2.2.2.1.2 h.2.1.1.1.length && h.2.2.2.all (fun a => Nat.blt a.2.2.1 h.2.1.1.1.length) && hb_run X.2.2.2.1.2 rc posts hd sp ins stp (some h.2.2.2) fuel true h.1 h.2.1) = true) (hrun : hb_run X.2.2.2.1.2 rc posts hd sp ins stp none fuel true 0 A0 = true) : hb_J X (hb_w p l e R s m args below meth c (hb_QX below args s G X fp mods posts)) m A0 0 := by
  have hHJ : ∀ (M : Nat), ∀ h ∈ hd, ∀ (ρ' : Nat → Int) (wd' : va_W) (H : Heap) (locs : List Loc) (ls : Array Slot) (st : List Value), hb_sat X h.2.1 ρ' wd' ls st → hb_hp X wd' H locs → hb_msA ρ' 0 h.2.2.2 < M → W p l e R s m args below meth c H locs 0 0 (hb_QX below args s G X fp mods posts) (F0 m h.1 ls st) := by
    intro M
    induction M with
    | zero => intro h _ ρ' wd' H locs ls st _ _ hlt; exact absurd hlt (Nat.not_lt_zero _)
    | succ M ih =>
      intro h hm ρ' wd' H locs ls st hs hh hlt
      have hch := List.all_eq_true.mp hheads h hm
      obtain ⟨hch, r3⟩ := hb_and2 hch
      obtain ⟨r1, r2⟩ := hb_and2 hch
      have hlike : hb_like X (X.1, X.2.1, X.2.2.1, (ρ', h.2.1.1.1.length), X.2.2.2.2) := ⟨rfl, rfl, rfl, rfl, Nat.le_of_ble_eq_true r1, hs.2.1.2.2⟩
      have hs' : hb_sat (X.1, X.2.1, X.2.2.1, (ρ', h.2.1.1.1.length), X.2.2.2.2) h.2.1 ρ' wd' ls st := ⟨hs.1, ⟨hs.2.1.1, Nat.le_refl _, hb_ag.rf⟩, hs.2.2.1, hs.2.2.2.1, hs.2.2.2.2⟩
      have key := hb_run_ok (l := l) (e := e) (R := R) (m := m) (args := args) (below := below) (sp := sp) (hd := hd) (ms0 := some h.2.2.2) hx hb hlocks hins hrc hXs hXc hXk hAd hn0 hlike (step _ hlike) (fun ms hms a ha => by cases hms; exact hb_blt (List.all_eq_true.mp r2 a ha))
        (fun h2 hm2 ρ2 wd2 H2 locs2 ls2 st2 hs2 hh2 hlt2 => ih h2 hm2 ρ2 wd2 H2 locs2 ls2 st2 hs2 hh2 (by have := hlt2 _ rfl; exact Nat.lt_of_lt_of_le this (Nat.le_of_lt_succ hlt)))
      exact key fuel true h.1 h.2.1 r3 ρ' wd' H locs ls st hs' hh
  have hlike : hb_like X X := ⟨rfl, rfl, rfl, rfl, Nat.le_refl _, hb_ag.rf⟩
  have key := hb_run_ok (l := l) (e := e) (R := R) (m := m) (args := args) (below := below) (sp := sp) (hd := hd) (ms0 := none) hx hb hlocks hins hrc hXs hXc hXk hAd hn0 hlike (step _ hlike) (fun ms hms => by cases hms)
    (fun h2 hm2 ρ2 wd2 H2 locs2 ls2 st2 hs2 hh2 _ => hHJ (hb_msA ρ2 0 h2.2.2.2 + 1) h2 hm2 ρ2 wd2 H2 locs2 ls2 st2 hs2 hh2 (Nat.lt_succ_self _))
  exact key fuel true 0 A0 hrun
end HBMT
