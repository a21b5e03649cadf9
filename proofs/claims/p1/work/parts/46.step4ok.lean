section HBS4
variable {p : Program} {l : Launch} {e : Env} {R : Room} {s : State} {m : MethodId} {args : Array Value} {below : List Frame} {meth : Method} {c : Code} {Q : State → Prop} {cc : ByteArray} {pc nL : Nat} {X : hbX} {V : hbV} {L : List (Nat × hbA)} {S : List hbA} {C : List (Nat × hbA × hbA)} {own : String} {G : hbG} {QT : List hbQ} {j0 : Nat} {fp mods : List Nat} {mpo : hbMP} {cs : List Nat}
set_option maxHeartbeats 2000000 in
theorem hb_step4_ok {i : Instr} {len : Nat} {lst : List (Nat × hbS)} (hx : p.tables.exec = Jvm.exec) (hb : c.code = cc) (hml : c.maxLocals = nL) (hown : s.vm.findClass own = some m.cls) (hdg : decode cc pc = .ok (i, len)) (hG : hb_Gok G) (hTw : ∀ w ∈ G.2.1.1, w.before args s = true) (hgood : ∀ w ∈ G.2.1.1, (w.onTables && w.keeps) = true ∨ ∃ ty, w = .arrayClass ty) (hcode : ∀ y ∈ G.2.2.2, Cond.code y.1 y.2.1 y.2.2.1 y.2.2.2 ∈ G.2.1.1)
    (hXs : X.1.1 = s) (hXc : X.1.2.2 = G.1.2) (hXk : X.2.1 = (G.1.1, fp, mods)) (hXn : X.2.2.2.2.2.1 = nL) (hAd : X.2.2.2.2.2.2 = va_A X.2.2.2.2.1 s.heap.size) (hGs : hb_Gs G X.1.2.1 X.2.2.2.2.2.2 X.2.2.1.2 s) (hQ : ∀ j q, j < j0 → QT[j]? = some q → hb_Met G q) (hmp : hb_mp own G.1.2 G.2.2.2 mpo args s) (htr : hb_tr X.2.2.2.2.2.2 X.2.2.1.2 mpo s)
    (h : hb_step4 G.1.1 G.2.2.2 QT j0 R.frames R.locals fp mods mpo cs i len pc V L S C = some lst) (hJ : ∀ z ∈ lst, hb_J X (hb_w p l e R s m args below meth c Q) m z.2 z.1) : hb_J X (hb_w p l e R s m args below meth c Q) m (V, L, S, C) pc := by
  unfold hb_step4 at h
  split at h
  next x =>
    cases hq : hb_ml mpo x with
    | none => rw [hq] at h; cases h
    | some q =>
      obtain ⟨yi, kd, n, ci⟩ := q
      rw [hq] at h
      obtain ⟨hc, hR⟩ := hb_gd_inv h
      obtain ⟨h1, h2⟩ := hb_and2 hc
      have e1 := hb_lenE h1; subst e1
      obtain ⟨j, hj⟩ := hb_invs_inv hR
      intro ρ wd H locs ls st hs hh
      obtain ⟨ok, qq, y, vs, rest, P, k1, k2, k3, k4, k5, k6, k7, k8, k9, k10, k11, k12, k13⟩ := hb_inv1_ok hG hTw hgood hcode hXs hXc hXk hAd hGs hQ hj hJ hs hh
      obtain ⟨y', m1, m2, m3, m4, m5, m6, -, -, m9⟩ := hmp _ (hb_ml_mem hq)
      have htr1 := htr _ (hb_ml_mem hq)
      dsimp only at m1 m2 m3 m4 m5 m6 m9 htr1
      rw [k1] at m1
      cases m1
      have hcells : (hb_rm qq).cells = 0 := rfl
      have hslots : (hb_rm qq).slots = 0 := rfl
      cases hk4 : Nat.beq kd 4 with
      | true =>
        rw [hk4, cond_true] at ok
        have e4 := hb_lenE hk4
        obtain ⟨l1, l2, l3, l4⟩ := m9 e4
        cases hS' : (S.take (n + 1)).reverse with
        | nil => rw [hS'] at ok; cases ok
        | cons a0 as0 =>
          rw [hS'] at ok k5
          obtain ⟨v0, As, rfl, g1, g2⟩ := hb_stk.cons k5
          obtain ⟨o1, o2⟩ := hb_and2 ok
          have ev := g1.txt o1
          subst ev
          have hlenAs : As.length = n := by simpa using k3
          have hstack : (F0 m pc ls st).stack = As.reverse ++ Value.ref (X.2.2.1.2 a0.2.2.1) :: rest := by
            show st = _
            rw [k2]
            simp
          have hSs := hh.2.2.1
          rw [hXs] at hSs
          have hrec := htr1 e4 _ (hb_blt o2) H locs hSs
          rw [← l4] at hrec
          exact hb_callW (va_runV (C := y.1.cls) (b := X.2.2.1.2 a0.2.2.1) (As := As) (n := n) (index := x) ⟨hx, hb, hml, hown, hTw⟩ k6 ⟨⟨hcells, hslots, k7, k8, k9, List.mem_cons_self, k10, m2, m3, m4, l1⟩, l2, l3⟩ ⟨hb_blind hG _ _ _ _ _ _ _, hrec, k11⟩ rfl hlenAs (by rw [← hXn]; exact hs.2.2.1.1) hstack (lv_room k4) hdg ⟨Nat.zero_le _, Nat.zero_le _⟩) hh.2.2.1 (fun q _ hq => k12 q hq) k12 k13
      | false =>
      rw [hk4, cond_false] at ok
      have h2 : Nat.ble kd 1 = true := by
        rw [hk4, Bool.or_false] at h2
        exact h2
      cases hS' : (S.take (n + 1)).reverse with
      | nil => rw [hS'] at ok; cases ok
      | cons a0 as0 =>
        rw [hS'] at ok k5
        obtain ⟨v0, As, rfl, g1, g2⟩ := hb_stk.cons k5
        obtain ⟨o1, o3⟩ := hb_and2 ok
        obtain ⟨o1, o2⟩ := hb_and2 o1
        have ev := g1.ref o1
        subst ev
        obtain ⟨kd', ec, w1, w2, w3, w4⟩ := hh.2.2.2.1 a0.2.2.1 (by rw [hXk]; exact hb_mem_ok o2)
        rw [hXk] at w1
        have w1 : G.1.1[a0.2.2.1]? = some kd' := w1
        rw [w1] at o3
        obtain ⟨o3, o4⟩ := hb_and2 o3
        obtain ⟨fs, e3, e4⟩ := hb_sh0 w3.1 o3
        subst e3
        have e5 := hb_lenE o4
        rw [e5] at w2
        have hlenAs : As.length = n := by simpa using k3
        have hstack : (F0 m pc ls st).stack = As.reverse ++ Value.ref (X.2.2.1.1 a0.2.2.1) :: rest := by
          show st = _
          rw [k2]
          simp
        have hKs : va_K X.1.2.1 G.1.2 [] s := hGs.1
        have hP := hh.1
        rw [hXc] at hP
        have hrun : va_Run p l e R s m args below meth c H locs 0 0 0 0 (F0 m pc ls st) rest (fun st oc t => (∃ v, oc = .returned v ∧ P v t) ∧ va_F (va_A wd H.size) st t) (va_A wd H.size) := by
          rcases (show kd = 0 ∨ kd = 1 by have := Nat.le_of_ble_eq_true h2; omega) with z | z
          · obtain ⟨l1, l2, l3, T, N, l4⟩ := m5 z
            have hrec := va_recv hKs hP l4 w2
            exact va_runV (C := y.1.cls) (b := X.2.2.1.1 a0.2.2.1) (As := As) (n := n) (index := x) ⟨hx, hb, hml, hown, hTw⟩ k6 ⟨⟨hcells, hslots, k7, k8, k9, List.mem_cons_self, k10, m2, m3, m4, l1⟩, l2, l3⟩ ⟨hb_blind hG _ _ _ _ _ _ _, hrec, k11⟩ rfl hlenAs (by rw [← hXn]; exact hs.2.2.1.1) hstack (lv_room k4) hdg ⟨Nat.zero_le _, Nat.zero_le _⟩
          · obtain ⟨⟨host, l1⟩, l2, l3, T, N, l4⟩ := m6 z
            have hrec := va_recv hKs hP l4 w2
            exact va_runVN (C := y.1.cls) (b := X.2.2.1.1 a0.2.2.1) (As := As) (n := n) (index := x) (host := host) ⟨hx, hb, hml, hown, hTw⟩ k6 ⟨⟨⟨hcells, hslots, k7, k8, k9, List.mem_cons_self⟩, k10, m2, m3, m4, l1⟩, l2, l3⟩ ⟨hb_blind hG _ _ _ _ _ _ _, hrec, k11⟩ rfl hlenAs (by rw [← hXn]; exact hs.2.2.1.1) hstack (lv_room k4) hdg ⟨Nat.zero_le _, Nat.zero_le _⟩
        exact hb_callW hrun hh.2.2.1 (fun q _ hq => k12 q hq) k12 k13
  next x =>
    cases hq : hb_ml mpo x with
    | none => rw [hq] at h; cases h
    | some q =>
      obtain ⟨yi, kd, n, ci⟩ := q
      rw [hq] at h
      obtain ⟨hc, hR⟩ := hb_gd_inv h
      obtain ⟨h1, h2⟩ := hb_and2 hc
      have e1 := hb_lenE h1; subst e1
      obtain ⟨j, hj⟩ := hb_invs_inv hR
      intro ρ wd H locs ls st hs hh
      obtain ⟨ok, qq, y, vs, rest, P, k1, k2, k3, k4, k5, k6, k7, k8, k9, k10, k11, k12, k13⟩ := hb_inv1_ok hG hTw hgood hcode hXs hXc hXk hAd hGs hQ hj hJ hs hh
      obtain ⟨y', m1, m2, m3, m4, -, -, m7, m8, -⟩ := hmp _ (hb_ml_mem hq)
      dsimp only at m1 m2 m3 m4 m7 m8
      rw [k1] at m1
      cases m1
      have hcells : (hb_rm qq).cells = 0 := rfl
      have hslots : (hb_rm qq).slots = 0 := rfl
      have hstack : (F0 m pc ls st).stack = vs.reverse ++ rest := k2
      have hrun : va_Run p l e R s m args below meth c H locs 0 0 0 0 (F0 m pc ls st) rest (fun st oc t => (∃ v, oc = .returned v ∧ P v t) ∧ va_F (va_A wd H.size) st t) (va_A wd H.size) := by
        rw [Bool.or_eq_true] at h2
        rcases h2 with z | z
        · obtain ⟨l1, l2⟩ := m7 (hb_lenE z)
          exact va_runS (As := vs) (n := n) (index := x) ⟨hx, hb, hml, hown, hTw⟩ k6 ⟨⟨hcells, hslots, k7, k8, k9, List.mem_cons_self, k10, m2, m3, m4, l1⟩, l2⟩ ⟨hb_blind hG _ _ _ _ _ _ _, k11⟩ rfl k3 (by rw [← hXn]; exact hs.2.2.1.1) hstack (lv_room k4) hdg ⟨Nat.zero_le _, Nat.zero_le _⟩
        · obtain ⟨⟨host, l1⟩, l2⟩ := m8 (hb_lenE z)
          exact va_runSN (As := vs) (n := n) (index := x) (host := host) ⟨hx, hb, hml, hown, hTw⟩ k6 ⟨⟨⟨hcells, hslots, k7, k8, k9, List.mem_cons_self⟩, k10, m2, m3, m4, l1⟩, l2, trivial⟩ ⟨hb_blind hG _ _ _ _ _ _ _, k11⟩ rfl k3 (by rw [← hXn]; exact hs.2.2.1.1) hstack (lv_room k4) hdg ⟨Nat.zero_le _, Nat.zero_le _⟩
      exact hb_callW hrun hh.2.2.1 (fun q _ hq => k12 q hq) k12 k13
  next => cases h
end HBS4
