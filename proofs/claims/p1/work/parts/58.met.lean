theorem hb_meth {G : hbG} {QT : List hbQ} {PL : hbL} {IN : List (Nat × Instr × Nat)} {j : Nat} {q : hbQ} {z : hbZ} {y : hbY} (hG : hb_Gok G) (hgood : ∀ w ∈ G.2.1.1, (w.onTables && w.keeps) = true ∨ ∃ ty, w = .arrayClass ty) (hcode : ∀ y ∈ G.2.2.2, Cond.code y.1 y.2.1 y.2.2.1 y.2.2.2 ∈ G.2.1.1) (htb : hb_tabs G.1.2 G.2.1.1)
    (hy : G.2.2.2[q.1]? = some y) (hpl : hb_PLok G y.1.cls PL) (hIN : ∀ w ∈ IN, decode y.2.1 w.1 = .ok w.2) (hrc : hb_rcok z.2.2.2.2 y.2.2.2) (hpn : plainName y.1.cls = true)
    (hQ : ∀ j' q', j' < j → QT[j']? = some q' → hb_Met G q') (hc : hb_chk G.1.1 G.2.2.2 QT hb_acw y.2.2.1 PL IN j q z = true) : hb_Met G q := by
  intro y' hy' l D U S ρ wd sz vs hV h0 hargs hC0
  rw [hy] at hy'
  cases hy'
  unfold hb_chk at hc
  obtain ⟨hc, hrun⟩ := hb_and2 hc
  obtain ⟨hc, hheads⟩ := hb_and2 hc
  obtain ⟨hc1, hc2⟩ := hb_and2 hc
  refine Met.ofW (cc := y.2.1) (maxL := y.2.2.1) (ret := y.2.2.2) hpn rfl ?_
  intro p e s m args below meth c s₁ B hml hv
  obtain ⟨rfl, hsz, hP, hD0, hwd, hGs⟩ := hv
  have hx := B.exec
  have hb := B.bytes
  have hr := B.returns
  have hts := atoms_spec (ws := (.code y.1 y.2.1 y.2.2.1 y.2.2.2 :: G.2.1.1)) B.pre
  have hown : s.vm.findClass y.1.cls = some m.cls := findClass_of_methodNamed B.named
  have hlocks := B.notSynchronized
  have hTw : ∀ w ∈ G.2.1.1, w.before vs.toArray s = true := fun w hw => hts w (List.mem_cons_of_mem _ hw)
  clear hts B
  subst hsz
  obtain ⟨pl1, pl2, pl3, pl4, pl5, pl6⟩ := hpl vs.toArray s (va_A wd s.heap.size) S hTw hGs.2.1 hGs.2.2
  have hD := hD0.self (sz := s.heap.size)
  have hrcm : (z.2.2.2.2 = 0 → meth.sig.returnType = none) ∧ (z.2.2.2.2 = 1 → meth.sig.returnType = some .int) ∧ (z.2.2.2.2 = 2 → meth.sig.returnType = some .boolean) ∧ (z.2.2.2.2 = 3 → meth.sig.returnType = some .long) ∧ (z.2.2.2.2 = 4 → ∃ n, meth.sig.returnType = some (.object n)) := by
    rw [hr]; exact hrc
  have hinsD : ∀ a b, hb_il IN a = some b → decode y.2.1 a = .ok b := fun a b h => hIN (a, b) (hb_il_mem h)
  have hlen : (lg_sl vs).length ≤ y.2.2.1 := by
    rw [hb_sl_len hargs]
    exact Nat.le_of_ble_eq_true hc2
  have hl := lv_entry vs (n := y.2.2.1) hlen
  rw [lg_entry_eq]
  generalize (lg_sl vs ++ List.replicate (y.2.2.1 - (lg_sl vs).length) Slot.unset).toArray = ls at hl ⊢
  show W p l e (hb_rm q) s m vs.toArray below meth c s.heap [] 0 0 _ (F0 m 0 ls [])
  obtain ⟨X, hX⟩ : ∃ X : hbX, X = ((s, D, G.1.2), (G.1.1, q.2.2.2.1.1, q.2.2.2.1.2), (U, S), (ρ, q.2.1.1.1.length), (wd, y.2.2.1, va_A wd s.heap.size)) := ⟨_, rfl⟩
  have x1 : X.1.1 = s := by rw [hX]
  have x2 : X.1.2.2 = G.1.2 := by rw [hX]
  have x3 : X.2.1 = (G.1.1, q.2.2.2.1.1, q.2.2.2.1.2) := by rw [hX]
  have x4 : X.2.2.2.2.2.1 = y.2.2.1 := by rw [hX]
  have x5 : X.2.2.2.2.2.2 = va_A X.2.2.2.2.1 s.heap.size := by rw [hX]
  have x6 : hb_Gs G X.1.2.1 X.2.2.2.2.2.2 X.2.2.1.2 s := by rw [hX]; exact hGs
  have x7 : X.2.2.2.1.2 = q.2.1.1.1.length := by rw [hX]
  have x8 : X.2.2.1.2 = S := by rw [hX]
  have hsat : hb_sat X (q.2.1.1, hb_args 0 q.2.1.2.1, [], q.2.1.2.2) ρ wd ls [] := by
    rw [hX]
    refine ⟨hV, ⟨h0, Nat.le_refl _, hb_ag.rf⟩, ⟨hl.1, hl.2.1, fun w hw => ?_⟩, trivial, hC0⟩
    obtain ⟨v, g1, g2⟩ := hb_args_ok hargs w hw
    exact ⟨v, hl.2.2 _ g1, g2⟩
  have hhp : hb_hp X wd s.heap [] := by
    rw [hX]
    exact ⟨hP, hD, va_S.rf, hwd, fun c => ⟨rfl, fun _ => rfl⟩⟩
  have hq : hb_QX below vs.toArray s G X q.2.2.2.1.1 q.2.2.2.1.2 q.2.2.1 = MQ below (hb_Post G D U S ρ q.2.1.1.1.length wd s.heap.size q.2.2.2.1.1 q.2.2.2.1.2 q.2.2.1) vs.toArray s 0 0 (va_A wd s.heap.size) := by rw [hX]
  rw [← hq]
  rw [← x7] at hheads hrun
  have key := hb_body (l := l) (e := e) (R := hb_rm q) (m := m) (args := vs.toArray) (below := below) (A0 := (q.2.1.1, hb_args 0 q.2.1.2.1, [], q.2.1.2.2)) hx hb hlocks hinsD hrcm x1 x2 x3 x5 (by rw [x7]; exact hb_blt hc1)
    (fun X' hX' i len pc A lst hdg hst hJ => by
      obtain ⟨e1, e2, e3, e4, e5, e6, e7, e8⟩ := hX'.facts x1 x2 x3 x4 x5 x6
      exact hb_stp_ok (R := hb_rm q) hx hb hml hown hG hTw hgood hcode htb e1 e2 e3 e4 e5 e6 hQ hinsD pl1 pl2 (by rw [e7, x8]; exact pl3) pl4 pl5 (by rw [e7, x8, e8, hX]; exact pl6) hdg hst hJ)
    hheads hrun
  exact key ρ wd s.heap [] ls [] hsat hhp
