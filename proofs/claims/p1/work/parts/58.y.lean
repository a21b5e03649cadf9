/-! hb_: a contract out of its test, each head of a loop tested by itself, against its own followers -/
/-- one head's test -/
def hb_hd1 (KT : List hbK) (MT : List hbY) (QT : List hbQ) (acw nL : Nat) (PL : hbL) (IN : List (Nat × Instr × Nat)) (j : Nat) (q : hbQ) (sp : List (Nat × Nat)) (calls : List (Nat × List Nat)) (fuel rc : Nat) (hd : hbH) (h : Nat × hbS × List (Nat × Nat × Int) × List hbA) : Bool :=
  Nat.ble q.2.1.1.1.length h.2.1.1.1.length && h.2.2.2.all (fun a => Nat.blt a.2.2.1 h.2.1.1.1.length) && hb_run q.2.1.1.1.length rc q.2.2.1 hd sp (hb_il IN) (hb_stp KT MT QT j q.2.2.2.2.1 q.2.2.2.2.2 nL acw q.2.2.2.1.1 q.2.2.2.1.2 PL (hb_il IN) calls) (some h.2.2.2) fuel true h.1 h.2.1
def hb_en1 (KT : List hbK) (MT : List hbY) (QT : List hbQ) (acw nL : Nat) (PL : hbL) (IN : List (Nat × Instr × Nat)) (j : Nat) (q : hbQ) (sp : List (Nat × Nat)) (calls : List (Nat × List Nat)) (fuel rc : Nat) (hd : hbH) : Bool :=
  Nat.blt 0 q.2.1.1.1.length && Nat.ble (hb_cats q.2.1.2.1) nL && hb_run q.2.1.1.1.length rc q.2.2.1 hd sp (hb_il IN) (hb_stp KT MT QT j q.2.2.2.2.1 q.2.2.2.2.2 nL acw q.2.2.2.1.1 q.2.2.2.1.2 PL (hb_il IN) calls) none fuel true 0 (q.2.1.1, hb_args 0 q.2.1.2.1, [], q.2.1.2.2)
section HBMT2
variable {p : Program} {l : Launch} {e : Env} {R : Room} {s : State} {m : MethodId} {args : Array Value} {below : List Frame} {meth : Method} {c : Code} {cc : ByteArray} {X : hbX} {G : hbG} {fp mods : List Nat} {ins : Nat → Option (Instr × Nat)}
theorem hb_body2 {rc fuel : Nat} {posts : List (hbS × List (Nat × Nat × Int))} {hd : hbH} {sp : List (Nat × Nat)} {stp : Instr → Nat → Nat → hbS → hbR} {A0 : hbS} (hx : p.tables.exec = Jvm.exec) (hb : c.code = cc) (hlocks : meth.locks = false) (hins : ∀ q z, ins q = some z → decode cc q = .ok z) (hrc : (rc = 0 → meth.sig.returnType = none) ∧ (rc = 1 → meth.sig.returnType = some .int) ∧ (rc = 2 → meth.sig.returnType = some .boolean) ∧ (rc = 3 → meth.sig.returnType = some .long) ∧ (rc = 4 → ∃ n, meth.sig.returnType = some (.object n)))
    (hXs : X.1.1 = s) (hXc : X.1.2.2 = G.1.2) (hXk : X.2.1 = (G.1.1, fp, mods)) (hAd : X.2.2.2.2.2.2 = va_A X.2.2.2.2.1 s.heap.size) (hn0 : 0 < X.2.2.2.1.2)
    (step : ∀ (X' : hbX), hb_like X X' → ∀ (i : Instr) (len pc : Nat) (A : hbS) (lst : List (Nat × hbS)), decode cc pc = .ok (i, len) → stp i len pc A = some lst → (∀ z ∈ lst, hb_J X' (hb_w p l e R s m args below meth c (hb_QX below args s G X fp mods posts)) m z.2 z.1) → hb_J X' (hb_w p l e R s m args below meth c (hb_QX below args s G X fp mods posts)) m A pc)
    (hheads : ∀ h ∈ hd, ∃ hd' : hbH, (∀ x ∈ hd', x ∈ hd) ∧ (Nat.ble X.2.2.2.1.2 h.2.1.1.1.length && h.2.2.2.all (fun a => Nat.blt a.2.2.1 h.2.1.1.1.length) && hb_run X.2.2.2.1.2 rc posts hd' sp ins stp (some h.2.2.2) fuel true h.1 h.2.1) = true) (hrun : ∃ hd' : hbH, (∀ x ∈ hd', x ∈ hd) ∧ hb_run X.2.2.2.1.2 rc posts hd' sp ins stp none fuel true 0 A0 = true) : hb_J X (hb_w p l e R s m args below meth c (hb_QX below args s G X fp mods posts)) m A0 0 := by
  have hHJ : ∀ (M : Nat), ∀ h ∈ hd, ∀ (ρ' : Nat → Int) (wd' : va_W) (H : Heap) (locs : List Loc) (ls : Array Slot) (st : List Value), hb_sat X h.2.1 ρ' wd' ls st → hb_hp X wd' H locs → hb_msA ρ' 0 h.2.2.2 < M → W p l e R s m args below meth c H locs 0 0 (hb_QX below args s G X fp mods posts) (F0 m h.1 ls st) := by
    intro M
    induction M with
    | zero => intro h _ ρ' wd' H locs ls st _ _ hlt; exact absurd hlt (Nat.not_lt_zero _)
    | succ M ih =>
      intro h hm ρ' wd' H locs ls st hs hh hlt
      obtain ⟨hd', hsub, hch⟩ := hheads h hm
      obtain ⟨hch, r3⟩ := hb_and2 hch
      obtain ⟨r1, r2⟩ := hb_and2 hch
      have hlike : hb_like X (X.1, X.2.1, X.2.2.1, (ρ', h.2.1.1.1.length), X.2.2.2.2) := ⟨rfl, rfl, rfl, rfl, Nat.le_of_ble_eq_true r1, hs.2.1.2.2⟩
      have hs' : hb_sat (X.1, X.2.1, X.2.2.1, (ρ', h.2.1.1.1.length), X.2.2.2.2) h.2.1 ρ' wd' ls st := ⟨hs.1, ⟨hs.2.1.1, Nat.le_refl _, hb_ag.rf⟩, hs.2.2.1, hs.2.2.2.1, hs.2.2.2.2⟩
      have key := hb_run_ok (l := l) (e := e) (R := R) (m := m) (args := args) (below := below) (sp := sp) (hd := hd') (ms0 := some h.2.2.2) hx hb hlocks hins hrc hXs hXc hXk hAd hn0 hlike (step _ hlike) (fun ms hms a ha => by cases hms; exact hb_blt (List.all_eq_true.mp r2 a ha))
        (fun h2 hm2 ρ2 wd2 H2 locs2 ls2 st2 hs2 hh2 hlt2 => ih h2 (hsub h2 hm2) ρ2 wd2 H2 locs2 ls2 st2 hs2 hh2 (by have := hlt2 _ rfl; exact Nat.lt_of_lt_of_le this (Nat.le_of_lt_succ hlt)))
      exact key fuel true h.1 h.2.1 r3 ρ' wd' H locs ls st hs' hh
  obtain ⟨hd', hsub, hrun⟩ := hrun
  have hlike : hb_like X X := ⟨rfl, rfl, rfl, rfl, Nat.le_refl _, hb_ag.rf⟩
  have key := hb_run_ok (l := l) (e := e) (R := R) (m := m) (args := args) (below := below) (sp := sp) (hd := hd') (ms0 := none) hx hb hlocks hins hrc hXs hXc hXk hAd hn0 hlike (step _ hlike) (fun ms hms => by cases hms)
    (fun h2 hm2 ρ2 wd2 H2 locs2 ls2 st2 hs2 hh2 _ => hHJ (hb_msA ρ2 0 h2.2.2.2 + 1) h2 (hsub h2 hm2) ρ2 wd2 H2 locs2 ls2 st2 hs2 hh2 (Nat.lt_succ_self _))
  exact key fuel true 0 A0 hrun
end HBMT2
theorem hb_meth2 {hd : hbH} {sp : List (Nat × Nat)} {calls : List (Nat × List Nat)} {fuel rc : Nat} {G : hbG} {QT : List hbQ} {PL : hbL} {IN : List (Nat × Instr × Nat)} {j : Nat} {q : hbQ} {y : hbY} (hG : hb_Gok G) (hgood : ∀ w ∈ G.2.1.1, (w.onTables && w.keeps) = true ∨ ∃ ty, w = .arrayClass ty) (hcode : ∀ y ∈ G.2.2.2, Cond.code y.1 y.2.1 y.2.2.1 y.2.2.2 ∈ G.2.1.1) (htb : hb_tabs G.1.2 G.2.1.1)
    (hy : G.2.2.2[q.1]? = some y) (hpl : hb_PLok G y.1.cls PL) (hIN : ∀ w ∈ IN, decode y.2.1 w.1 = .ok w.2) (hrc : hb_rcok rc y.2.2.2) (hpn : plainName y.1.cls = true)
    (hQ : ∀ j' q', j' < j → QT[j']? = some q' → hb_Met G q') (hh : ∀ h ∈ hd, ∃ hd' : hbH, (∀ x ∈ hd', x ∈ hd) ∧ hb_hd1 G.1.1 G.2.2.2 QT hb_acw y.2.2.1 PL IN j q sp calls fuel rc hd' h = true) (hc : ∃ hd' : hbH, (∀ x ∈ hd', x ∈ hd) ∧ hb_en1 G.1.1 G.2.2.2 QT hb_acw y.2.2.1 PL IN j q sp calls fuel rc hd' = true) : hb_Met G q := by
  intro y' hy' l D U S ρ wd sz vs hV h0 hargs hC0
  rw [hy] at hy'
  cases hy'
  obtain ⟨hd0, hsub0, hc⟩ := hc
  unfold hb_en1 at hc
  obtain ⟨hc, hrun⟩ := hb_and2 hc
  obtain ⟨hc1, hc2⟩ := hb_and2 hc
  refine Met.ofW (cc := y.2.1) (maxL := y.2.2.1) (ret := y.2.2.2) hpn rfl ?_
  intro p e s m args below meth c s₁ B hml hv
  obtain ⟨rfl, hsz, hP, hD0, hwd, hGs⟩ := hv
  have hx := B.exec
  have hb := B.bytes
  have hr := B.returns
  have hts := atoms_spec (ws := (.code y.1 y.2.1 y.2.2.1 y.2.2.2 :: G.2.1.1)) B.pre
  have hown : s.vm.findClass y.1.cls = some m.cls := findClass_of_methodNamed B.named
  have hlocks := B.notSynchronized
  have hTw : ∀ w ∈ G.2.1.1, w.before vs.toArray s = true := fun w hw => hts w (List.mem_cons_of_mem _ hw)
  clear hts B
  subst hsz
  obtain ⟨pl1, pl2, pl3, pl4, pl5, pl6⟩ := hpl vs.toArray s (va_A wd s.heap.size) S hTw hGs.2.1 hGs.2.2
  have hD := hD0.self (sz := s.heap.size)
  have hrcm : (rc = 0 → meth.sig.returnType = none) ∧ (rc = 1 → meth.sig.returnType = some .int) ∧ (rc = 2 → meth.sig.returnType = some .boolean) ∧ (rc = 3 → meth.sig.returnType = some .long) ∧ (rc = 4 → ∃ n, meth.sig.returnType = some (.object n)) := by
    rw [hr]; exact hrc
  have hinsD : ∀ a b, hb_il IN a = some b → decode y.2.1 a = .ok b := fun a b h => hIN (a, b) (hb_il_mem h)
  have hlen : (lg_sl vs).length ≤ y.2.2.1 := by
    rw [hb_sl_len hargs]
    exact Nat.le_of_ble_eq_true hc2
  have hl := lv_entry vs (n := y.2.2.1) hlen
  rw [lg_entry_eq]
  generalize (lg_sl vs ++ List.replicate (y.2.2.1 - (lg_sl vs).length) Slot.unset).toArray = ls at hl ⊢
  show W p l e (hb_rm q) s m vs.toArray below meth c s.heap [] 0 0 _ (F0 m 0 ls [])
  obtain ⟨X, hX⟩ : ∃ X : hbX, X = ((s, D, G.1.2), (G.1.1, q.2.2.2.1.1, q.2.2.2.1.2), (U, S), (ρ, q.2.1.1.1.length), (wd, y.2.2.1, va_A wd s.heap.size)) := ⟨_, rfl⟩
  have x1 : X.1.1 = s := by rw [hX]
  have x2 : X.1.2.2 = G.1.2 := by rw [hX]
  have x3 : X.2.1 = (G.1.1, q.2.2.2.1.1, q.2.2.2.1.2) := by rw [hX]
  have x4 : X.2.2.2.2.2.1 = y.2.2.1 := by rw [hX]
  have x5 : X.2.2.2.2.2.2 = va_A X.2.2.2.2.1 s.heap.size := by rw [hX]
  have x6 : hb_Gs G X.1.2.1 X.2.2.2.2.2.2 X.2.2.1.2 s := by rw [hX]; exact hGs
  have x7 : X.2.2.2.1.2 = q.2.1.1.1.length := by rw [hX]
  have x8 : X.2.2.1.2 = S := by rw [hX]
  have hsat : hb_sat X (q.2.1.1, hb_args 0 q.2.1.2.1, [], q.2.1.2.2) ρ wd ls [] := by
    rw [hX]
    refine ⟨hV, ⟨h0, Nat.le_refl _, hb_ag.rf⟩, ⟨hl.1, hl.2.1, fun w hw => ?_⟩, trivial, hC0⟩
    obtain ⟨v, g1, g2⟩ := hb_args_ok hargs w hw
    exact ⟨v, hl.2.2 _ g1, g2⟩
  have hhp : hb_hp X wd s.heap [] := by
    rw [hX]
    exact ⟨hP, hD, va_S.rf, hwd, fun c => ⟨rfl, fun _ => rfl⟩⟩
  have hq : hb_QX below vs.toArray s G X q.2.2.2.1.1 q.2.2.2.1.2 q.2.2.1 = MQ below (hb_Post G D U S ρ q.2.1.1.1.length wd s.heap.size q.2.2.2.1.1 q.2.2.2.1.2 q.2.2.1) vs.toArray s 0 0 (va_A wd s.heap.size) := by rw [hX]
  rw [← hq]
  rw [← x7] at hrun
  have key := hb_body2 (hd := hd) (fuel := fuel) (sp := sp) (l := l) (e := e) (R := hb_rm q) (m := m) (args := vs.toArray) (below := below) (A0 := (q.2.1.1, hb_args 0 q.2.1.2.1, [], q.2.1.2.2)) hx hb hlocks hinsD hrcm x1 x2 x3 x5 (by rw [x7]; exact hb_blt hc1)
    (fun X' hX' i len pc A lst hdg hst hJ => by
      obtain ⟨e1, e2, e3, e4, e5, e6, e7, e8⟩ := hX'.facts x1 x2 x3 x4 x5 x6
      exact hb_stp_ok (R := hb_rm q) hx hb hml hown hG hTw hgood hcode htb e1 e2 e3 e4 e5 e6 hQ hinsD pl1 pl2 (by rw [e7, x8]; exact pl3) pl4 pl5 (by rw [e7, x8, e8, hX]; exact pl6) hdg hst hJ)
    (fun h hm => by
      obtain ⟨hd', hs1, hs2⟩ := hh h hm
      unfold hb_hd1 at hs2
      rw [← x7] at hs2
      exact ⟨hd', hs1, hs2⟩) ⟨hd0, hsub0, hrun⟩
  exact key ρ wd s.heap [] ls [] hsat hhp
