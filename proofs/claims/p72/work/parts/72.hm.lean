/-! hm_: methods of the reference that write, exactly: the rows -/
def hw_ar (U : Nat → Nat) (wd : va_W) (c n : Nat) (g : Nat → Int32) : Prop := ∃ cA : ClassId, wd[c]? = some (U c, .inl (cA, n, .inl g))
def hw_H (D : va_G) (U : Nat → Nat) (s : State) (wd0 : va_W) (fp mods : List Nat) (wd : va_W) (H : Heap) (locs : List Loc) : Prop := va_P D vwCl wd H ∧ va_D (va_A wd0 s.heap.size) wd ∧ va_S (va_A wd0 s.heap.size) s.heap H locs ∧ hb_wd hb_KT s U wd fp ∧ hb_fr mods wd0 wd
theorem hm_fld {U : Nat → Nat} {wd : va_W} {s : State} {fp : List Nat} (h : hb_wd hb_KT s U wd fp) (hm : 124 ∈ fp) : ∃ fs : List Value, wd[124]? = some (U 124, .inr (12, fs)) ∧ ∀ k c u, (hb_tyAt (hb_KT.getD 124 (0, 0, 0, [])) k = some (2, c, u)) → k < 46 → fs[k]? = some (.ref (U c.toNat)) := by
  obtain ⟨kd, e, k1, k2, k3, k4⟩ := h 124 hm
  have ek : kd = hb_KT.getD 124 (0, 0, 0, []) := by
    have : hb_KT[124]? = some (hb_KT.getD 124 (0, 0, 0, [])) := rfl
    rw [this] at k1
    cases k1
    rfl
  have e1 : kd.1 = 0 ∧ kd.2.1 = 12 ∧ kd.2.2.1 = 46 := by
    rw [ek]
    decide +kernel
  obtain ⟨fs, e2, e3⟩ := hb_sh0 k3.1 (by rw [e1.1]; rfl)
  subst e2
  refine ⟨fs, by rw [k2, e1.2.1], fun k c u hk hlt => ?_⟩
  obtain ⟨v, ty, g1, g2, g3⟩ := k3.2 k (by rw [e1.2.2]; exact hlt)
  rw [ek, hk] at g2
  cases g2
  have g1 : fs[k]? = some v := g1
  rw [g1]
  have g3 : v = .ref (U c.toNat) := g3
  rw [g3]
theorem hm_ar1 {U : Nat → Nat} {wd : va_W} {s : State} {fp : List Nat} {cN n : Nat} {tys : List hbT} {g : Nat → Int32} (h : hb_wd hb_KT s U wd fp) (hm : cN ∈ fp) (hkd : hb_KT[cN]? = some (1, 0, n, tys)) (har : hw_ar U wd cN n g) : ∃ cA : ClassId, wd[cN]? = some (U cN, .inl (cA, n, .inl g)) ∧ ArrOfT s cA .int ∧ va_RA s cA .int ∧ hb_cell s U (1, 0, n, tys) (.inl (cA, n, .inl g)) := by
  obtain ⟨kd, e, k1, k2, k3, k4⟩ := h cN hm
  rw [hkd] at k1
  cases k1
  obtain ⟨cA, e1⟩ := har
  rw [e1] at k2
  cases k2
  obtain ⟨cA', f', q1, q2, q3⟩ := hb_sh1 k3.1 rfl
  cases q1
  exact ⟨cA, e1, q2, q3, k3⟩
theorem hm_ar3 {U : Nat → Nat} {wd : va_W} {s : State} {fp : List Nat} {cN n : Nat} {tys : List hbT} {g : Nat → Int32} (h : hb_wd hb_KT s U wd fp) (hm : cN ∈ fp) (hkd : hb_KT[cN]? = some (3, 0, n, tys)) (har : hw_ar U wd cN n g) : ∃ cA : ClassId, wd[cN]? = some (U cN, .inl (cA, n, .inl g)) ∧ ArrOfT s cA .boolean ∧ va_RA s cA .boolean ∧ hb_cell s U (3, 0, n, tys) (.inl (cA, n, .inl g)) := by
  obtain ⟨kd, e, k1, k2, k3, k4⟩ := h cN hm
  rw [hkd] at k1
  cases k1
  obtain ⟨cA, e1⟩ := har
  rw [e1] at k2
  cases k2
  obtain ⟨cA', f', q1, q2, q3⟩ := hb_sh3 k3.1 rfl
  cases q1
  exact ⟨cA, e1, q2, q3, k3⟩
/-- what an array holds, whatever it is -/
theorem hm_has1 {U : Nat → Nat} {wd : va_W} {s : State} {fp : List Nat} {cN n : Nat} {tys : List hbT} (h : hb_wd hb_KT s U wd fp) (hm : cN ∈ fp) (hkd : hb_KT[cN]? = some (1, 0, n, tys)) : ∃ g, hw_ar U wd cN n g ∧ ∀ k, k < n → ∃ ty, hb_tyAt (1, 0, n, tys) k = some ty ∧ hb_ty U ty (.int (g k)) := by
  obtain ⟨kd, e, k1, k2, k3, k4⟩ := h cN hm
  rw [hkd] at k1
  cases k1
  obtain ⟨cA, f, q1, q2, q3⟩ := hb_sh1 k3.1 rfl
  subst q1
  refine ⟨f, ⟨cA, k2⟩, fun k hk => ?_⟩
  obtain ⟨v, ty, g1, g2, g3⟩ := k3.2 k hk
  rw [hb_getI hk] at g1
  cases g1
  exact ⟨ty, g2, g3⟩
theorem hm_has3 {U : Nat → Nat} {wd : va_W} {s : State} {fp : List Nat} {cN n : Nat} {tys : List hbT} (h : hb_wd hb_KT s U wd fp) (hm : cN ∈ fp) (hkd : hb_KT[cN]? = some (3, 0, n, tys)) : ∃ g, hw_ar U wd cN n g := by
  obtain ⟨kd, e, k1, k2, k3, k4⟩ := h cN hm
  rw [hkd] at k1
  cases k1
  obtain ⟨cA, f, q1, q2, q3⟩ := hb_sh3 k3.1 rfl
  subst q1
  exact ⟨f, ⟨cA, k2⟩⟩
theorem hm_fr_ar {U : Nat → Nat} {mods : List Nat} {wd wd' : va_W} {c n : Nat} {g : Nat → Int32} (h : hb_fr mods wd wd') (hc : c ∉ mods) (ha : hw_ar U wd c n g) : hw_ar U wd' c n g := by
  obtain ⟨cA, e⟩ := ha
  exact ⟨cA, by rw [(h c).2 hc]; exact e⟩
section HM
variable {p : Program} {l : Launch} {e : Env} {R : Room} {s : State} {m : MethodId} {args : Array Value} {below : List Frame} {meth : Method} {c : Code} {Q : State → Prop} {cc : ByteArray} {pc : Nat} {D : va_G} {U : Nat → Nat} {wd wd0 : va_W} {f g : Nat → Int32} {y y0 : hbY} {ls : Array Slot} {rest : List Value} {fp mods : List Nat} {H : Heap} {locs : List Loc} {cN n k : Nat} {tys : List hbT} {lo hi : Int} {x : Int32}
/-- getfield of one of the model's cells -/
theorem hm_getf {ix j : Nat} (hx : p.tables.exec = Jvm.exec) (hb : c.code = cc) (hown : s.vm.findClass "HopeBankModel" = some m.cls) (hTw : ∀ w ∈ hb_G.2.1.1, w.before args s = true) (hK : va_K D vwCl [] s) (hh : hw_H D U s wd0 fp mods wd H locs) (h4 : 124 ∈ fp) (hpo : hb_pool "HopeBankModel" vwCl hb_PL12.1 args s) (hq : (ix, 12, j, 9) ∈ hb_PL12.1) (hk : j < 46) (ht : hb_tyAt (hb_KT.getD 124 (0, 0, 0, [])) j = some (2, .ofNat cN, 0)) (hdg : decode cc pc = .ok (.getfield ix, 3))
    (kk : W p l e R s m args below meth c H locs 0 0 Q (F0 m (pc + 3) ls (.ref (U cN) :: rest))) : W p l e R s m args below meth c H locs 0 0 Q (F0 m pc ls (.ref (U 124) :: rest)) := by
  obtain ⟨fs, f1, f2⟩ := hm_fld hh.2.2.2.1 h4
  exact hb_row_get hx hb hown hTw hK hpo hb_tabsG hq hh.1 f1 (f2 j (.ofNat cN) 0 ht hk) hdg kk
theorem hm_ld (hx : p.tables.exec = Jvm.exec) (hb : c.code = cc) (hK : va_K D vwCl [] s) (hh : hw_H D U s wd0 fp mods wd H locs) (hm : cN ∈ fp) (hkd : hb_KT[cN]? = some (1, 0, n, tys)) (har : hw_ar U wd cN n g) (hk : k < n) (hn : n < 2 ^ 31) (hdg : decode cc pc = .ok (.iaload, 1))
    (kk : W p l e R s m args below meth c H locs 0 0 Q (F0 m (pc + 1) ls (.int (g k) :: rest))) : W p l e R s m args below meth c H locs 0 0 Q (F0 m pc ls (.int (nI k) :: .ref (U cN) :: rest)) := by
  obtain ⟨cA, e1, e2, e3, -⟩ := hm_ar1 hh.2.2.2.1 hm hkd har
  refine va_iald hx hb (hb_Karr hK e2 e3) hh.1 cN 0 e1 rfl (nI_in hk hn) hdg ?_
  rw [nI_clamp (by omega)]
  exact kk
theorem hm_ldz (hx : p.tables.exec = Jvm.exec) (hb : c.code = cc) (hK : va_K D vwCl [] s) (hh : hw_H D U s wd0 fp mods wd H locs) (hm : cN ∈ fp) (hkd : hb_KT[cN]? = some (3, 0, n, tys)) (har : hw_ar U wd cN n g) (hk : k < n) (hn : n < 2 ^ 31) (hdg : decode cc pc = .ok (.baload, 1))
    (kk : W p l e R s m args below meth c H locs 0 0 Q (F0 m (pc + 1) ls (.int (g k) :: rest))) : W p l e R s m args below meth c H locs 0 0 Q (F0 m pc ls (.int (nI k) :: .ref (U cN) :: rest)) := by
  obtain ⟨cA, e1, e2, e3, -⟩ := hm_ar3 hh.2.2.2.1 hm hkd har
  refine va_zald hx hb (hb_Karr hK e2 e3) hh.1 cN 0 e1 rfl (nI_in hk hn) hdg ?_
  rw [nI_clamp (by omega)]
  exact kk
theorem hm_st (hx : p.tables.exec = Jvm.exec) (hb : c.code = cc) (hK : va_K D vwCl [] s) (hh : hw_H D U s wd0 fp mods wd H locs) (hm : cN ∈ fp) (hmm : cN ∈ mods) (hkd : hb_KT[cN]? = some (1, 0, n, [(0, lo, hi)])) (har : hw_ar U wd cN n g) (hk : k < n) (hn : n < 2 ^ 31) (hlo : lo ≤ x.toInt) (hhi : x.toInt ≤ hi) (hdg : decode cc pc = .ok (.iastore, 1))
    (kk : ∀ (wd1 : va_W) (H1 : Heap) (locs1 : List Loc), hw_H D U s wd0 fp mods wd1 H1 locs1 → hw_ar U wd1 cN n (upd g k x) → (∀ d n' g', d ≠ cN → hw_ar U wd d n' g' → hw_ar U wd1 d n' g') → W p l e R s m args below meth c H1 locs1 0 0 Q (F0 m (pc + 1) ls rest)) : W p l e R s m args below meth c H locs 0 0 Q (F0 m pc ls (.int x :: .int (nI k) :: .ref (U cN) :: rest)) := by
  obtain ⟨cA, e1, e2, e3, k3⟩ := hm_ar1 hh.2.2.2.1 hm hkd har
  refine va_iast hx hb (hb_Karr hK e2 e3) hh.1 hh.2.1 hh.2.2.1 cN 0 e1 rfl (nI_in hk hn) hdg (fun H1 locs1 hP hD hS => ?_)
  rw [nI_clamp (by omega)] at hP hD
  obtain ⟨w1, w2⟩ := hb_get_ints (cA := cA) (f := g) (x := x) hk
  refine kk _ H1 locs1 ⟨hP, hD, hS, hh.2.2.2.1.upd hkd e1 (k3.upd (show hb_shape s (1, 0, n, [(0, lo, hi)]) _ from ⟨cA, _, rfl, e2, e3⟩) w2 w1 (fun ty ht => ?_)), hh.2.2.2.2.upd hmm e1⟩ ⟨cA, hb_setS e1⟩ (fun d n' g' hd h => ?_)
  · unfold hb_tyAt at ht
    simp [Nat.mod_one] at ht
    rw [← ht]
    exact ⟨x, rfl, hlo, hhi⟩
  · obtain ⟨cB, h⟩ := h
    exact ⟨cB, by rw [hb_setN (Ne.symm hd)]; exact h⟩
theorem hm_stz (hx : p.tables.exec = Jvm.exec) (hb : c.code = cc) (hK : va_K D vwCl [] s) (hh : hw_H D U s wd0 fp mods wd H locs) (hm : cN ∈ fp) (hmm : cN ∈ mods) (hkd : hb_KT[cN]? = some (3, 0, n, [(0, 0, 1)])) (har : hw_ar U wd cN n g) (hk : k < n) (hn : n < 2 ^ 31) (hlo : 0 ≤ x.toInt) (hhi : x.toInt ≤ 1) (hdg : decode cc pc = .ok (.bastore, 1))
    (kk : ∀ (wd1 : va_W) (H1 : Heap) (locs1 : List Loc), hw_H D U s wd0 fp mods wd1 H1 locs1 → hw_ar U wd1 cN n (upd g k x) → (∀ d n' g', d ≠ cN → hw_ar U wd d n' g' → hw_ar U wd1 d n' g') → W p l e R s m args below meth c H1 locs1 0 0 Q (F0 m (pc + 1) ls rest)) : W p l e R s m args below meth c H locs 0 0 Q (F0 m pc ls (.int x :: .int (nI k) :: .ref (U cN) :: rest)) := by
  obtain ⟨cA, e1, e2, e3, k3⟩ := hm_ar3 hh.2.2.2.1 hm hkd har
  refine va_zast hx hb (hb_Karr hK e2 e3) hh.1 hh.2.1 hh.2.2.1 cN 0 e1 rfl (nI_in hk hn) hdg (fun H1 locs1 hP hD hS => ?_)
  rw [nI_clamp (by omega), (hb_nar_bool hlo hhi).1] at hP hD
  obtain ⟨w1, w2⟩ := hb_get_ints (cA := cA) (f := g) (x := x) hk
  refine kk _ H1 locs1 ⟨hP, hD, hS, hh.2.2.2.1.upd hkd e1 (k3.upd (show hb_shape s (3, 0, n, [(0, 0, 1)]) _ from ⟨cA, _, rfl, e2, e3⟩) w2 w1 (fun ty ht => ?_)), hh.2.2.2.2.upd hmm e1⟩ ⟨cA, hb_setS e1⟩ (fun d n' g' hd h => ?_)
  · unfold hb_tyAt at ht
    simp [Nat.mod_one] at ht
    rw [← ht]
    exact ⟨x, rfl, hlo, hhi⟩
  · obtain ⟨cB, h⟩ := h
    exact ⟨cB, by rw [hb_setN (Ne.symm hd)]; exact h⟩
/-- what a reading callee wants, at the heap as it is now -/
theorem hm_P (hK : va_K D vwCl [] s) (hh : hw_H D U s wd0 fp mods wd H locs) (h4 : 124 ∈ fp) (h5 : 125 ∈ fp) (hF : hw_ar U wd 125 122 f) {V : State} (hV : V.heap = H) (hW : s.vm.Alike V.vm) : hw_P D U wd f V := by
  obtain ⟨cA, e1, e2, e3, -⟩ := hm_ar1 (tys := (hb_KT.getD 125 (0, 0, 0, [])).2.2.2) hh.2.2.2.1 h5 rfl hF
  exact ⟨by rw [hV]; exact hh.1, (hh.2.2.2.1.moved hW).less (fun q hq => by rcases List.mem_cons.mp hq with rfl | hq; exact h4; rw [List.mem_singleton.mp hq]; exact h5), va_K.moved hW hK, cA, e1, arrOfT_moved hW e2, e3.moved hW⟩
theorem hm_cV {fr lo idx i0 i1 i2 i3 : Nat} {As st : List Value} {r : Option Value} (hBd : hb_Bd hb_G y0 p s m args meth c) (hc0 : y0.1.cls = "HopeBankModel") (hK : va_K D vwCl [] s) (hh : hw_H D U s wd0 fp mods wd H locs) (h4 : 124 ∈ fp) (h5 : 125 ∈ fp) (hF : hw_ar U wd 125 122 f) (hM : hb_MR hb_G l y fr lo H (hw_P D U wd f) (.ref (U 124) :: As) r) (hcd : Cond.code y.1 y.2.1 y.2.2.1 y.2.2.2 ∈ hb_G.2.1.1) (hcy : y.1.cls = "HopeBankModel") (hw : hw_wV idx i0 i1 i2 i3 y = true) (hR : fr + 1 ≤ R.frames ∧ 8 + (y.2.2.1 + 11) + lo ≤ R.locals) (hnp : ∀ sig, parseMethodDescriptor y.1.desc = some sig → As.length = sig.parameters.length) (hsz : ls.size = y0.2.2.1) (hst : st = As.reverse ++ .ref (U 124) :: rest) (hcat : (rest.map fun v => v.category).sum ≤ 8) (hdg : decode y0.2.1 pc = .ok (.invokevirtual idx, 3))
    (kk : ∀ locs1, hw_H D U s wd0 fp mods wd H locs1 → W p l e R s m args below meth c H locs1 0 0 Q (F0 m (pc + 3) ls (r.toList ++ rest))) : W p l e R s m args below meth c H locs 0 0 Q (F0 m pc ls st) := by
  obtain ⟨hx, hb, hml, hown, hlocks, hret, hTw⟩ := hBd
  obtain ⟨hw, w4⟩ := hb_and2 hw
  obtain ⟨hw, w3⟩ := hb_and2 hw
  obtain ⟨w1, w2⟩ := hb_and2 hw
  obtain ⟨fs, f1, -⟩ := hm_fld hh.2.2.2.1 h4
  have hrec := va_recv hK hh.1 (show vwCl[12]? = some (y.1.cls, TX12, 46) by rw [hcy]; rfl) f1
  rw [hc0] at hown
  exact hb_RcV (y := y) (b := U 124) (As := As) (rest := rest) (own := "HopeBankModel") (index := idx) hx hb hml hown hTw hb_goodG hM hcd hR (hb_wm w1) (by rw [hcy]; decide) hnp (hb_wm w2) (hb_wm w3) (hb_wm w4) hrec hw_bl (fun V hV hW => hm_P hK hh h4 h5 hF hV hW.alike) hsz hst hcat hdg hh.2.2.1 (fun locs1 h1 => kk locs1 ⟨hh.1, hh.2.1, h1, hh.2.2.2⟩)
theorem hm_cS {fr lo idx i0 i1 i2 : Nat} {As st : List Value} {r : Option Value} (hBd : hb_Bd hb_G y0 p s m args meth c) (hc0 : y0.1.cls = "HopeBankModel") (hK : va_K D vwCl [] s) (hh : hw_H D U s wd0 fp mods wd H locs) (h4 : 124 ∈ fp) (h5 : 125 ∈ fp) (hF : hw_ar U wd 125 122 f) (hM : hb_MR hb_G l y fr lo H (hw_P D U wd f) As r) (hcd : Cond.code y.1 y.2.1 y.2.2.1 y.2.2.2 ∈ hb_G.2.1.1) (hcy : y.1.cls = "HopeBankModel") (hw : hw_wS idx i0 i1 i2 y = true) (hR : fr + 1 ≤ R.frames ∧ 8 + (y.2.2.1 + 11) + lo ≤ R.locals) (hnp : ∀ sig, parseMethodDescriptor y.1.desc = some sig → As.length = sig.parameters.length) (hsz : ls.size = y0.2.2.1) (hst : st = As.reverse ++ rest) (hcat : (rest.map fun v => v.category).sum ≤ 8) (hdg : decode y0.2.1 pc = .ok (.invokestatic idx, 3))
    (kk : ∀ locs1, hw_H D U s wd0 fp mods wd H locs1 → W p l e R s m args below meth c H locs1 0 0 Q (F0 m (pc + 3) ls (r.toList ++ rest))) : W p l e R s m args below meth c H locs 0 0 Q (F0 m pc ls st) := by
  obtain ⟨hx, hb, hml, hown, hlocks, hret, hTw⟩ := hBd
  obtain ⟨hw, w3⟩ := hb_and2 hw
  obtain ⟨w1, w2⟩ := hb_and2 hw
  rw [hc0] at hown
  exact hb_RcS (y := y) (As := As) (rest := rest) (own := "HopeBankModel") (index := idx) hx hb hml hown hTw hb_goodG hM hcd hR (hb_wm w1) (by rw [hcy]; decide) hnp (hb_wm w2) (hb_wm w3) hw_bl (fun V hV hW => hm_P hK hh h4 h5 hF hV hW.alike) hsz hst hcat hdg hh.2.2.1 (fun locs1 h1 => kk locs1 ⟨hh.1, hh.2.1, h1, hh.2.2.2⟩)
end HM
/-- a contract of a method that writes: PS says of the answer and of the world behind it -/
def hm_Post (D : va_G) (U : Nat → Nat) (wd : va_W) (sz : Nat) (fp mods : List Nat) (PS : Option Value → va_W → Prop) : Array Value → State → Outcome → State → Prop := fun _ st oc t => (∃ v, oc = .returned v ∧ ∃ wd', PS v wd' ∧ va_P D vwCl wd' t.heap ∧ hb_wd hb_KT t U wd' fp ∧ hb_fr mods wd wd') ∧ va_F (va_A wd sz) st t
def hm_Met (l : Launch) (y : hbY) (fr lo : Nat) (D : va_G) (U S : Nat → Nat) (wd : va_W) (fp mods : List Nat) (vs : List Value) (PS : Option Value → va_W → Prop) : Prop := ∀ sz, Met l y.1 (.code y.1 y.2.1 y.2.2.1 y.2.2.2 :: hb_G.2.1.1) (hb_rmF fr lo) (va_Pc vs (hb_Pre hb_G D U S wd sz fp)) (hm_Post D U wd sz fp mods PS) 0 0 (va_A wd sz)
theorem hm_enter {l : Launch} {y : hbY} {fr lo : Nat} {D : va_G} {U S : Nat → Nat} {wd : va_W} {fp mods : List Nat} {vs : List Value} {PS : Option Value → va_W → Prop} (hpn : plainName y.1.cls = true) (hlen : (lg_sl vs).length ≤ y.2.2.1)
    (body : ∀ (p : Program) (e : Env) (s : State) (m : MethodId) (below : List Frame) (meth : Method) (c : Code) (ls : Array Slot), hb_Bd hb_G y p s m vs.toArray meth c → hw_H D U s wd fp mods wd s.heap [] → hb_Gs hb_G D (va_A wd s.heap.size) S s → lv_has ls y.2.2.1 (lv_args 0 vs) →
      W p l e (hb_rmF fr lo) s m vs.toArray below meth c s.heap [] 0 0 (MQ below (hm_Post D U wd s.heap.size fp mods PS) vs.toArray s 0 0 (va_A wd s.heap.size)) (F0 m 0 ls [])) : hm_Met l y fr lo D U S wd fp mods vs PS := by
  intro sz
  refine Met.ofW (cc := y.2.1) (maxL := y.2.2.1) (ret := y.2.2.2) hpn rfl ?_
  intro p e s m args below meth c s₁ B hml hv
  obtain ⟨rfl, hsz, hP, hD0, hwd, hGs⟩ := hv
  have hts := atoms_spec (ws := (.code y.1 y.2.1 y.2.2.1 y.2.2.2 :: hb_G.2.1.1)) B.pre
  have hBd : hb_Bd hb_G y p s m vs.toArray meth c := ⟨B.exec, B.bytes, hml, findClass_of_methodNamed B.named, B.notSynchronized, B.returns, fun w hw => hts w (List.mem_cons_of_mem _ hw)⟩
  clear hts B
  subst hsz
  have hl := lv_entry vs (n := y.2.2.1) hlen
  rw [lg_entry_eq]
  generalize (lg_sl vs ++ List.replicate (y.2.2.1 - (lg_sl vs).length) Slot.unset).toArray = ls at hl ⊢
  exact body p e s m below meth c ls hBd ⟨hP, hD0.self (sz := s.heap.size), va_S.rf, hwd, fun c => ⟨rfl, fun _ => rfl⟩⟩ hGs hl
theorem hm_end {D : va_G} {U : Nat → Nat} {s : State} {wd wd' : va_W} {fp mods : List Nat} {H : Heap} {locs : List Loc} {PS : Option Value → va_W → Prop} {args : Array Value} {v : Option Value} (hh : hw_H D U s wd fp mods wd' H locs) (hps : PS v wd') :
    (∀ t : State, t.heap = H → s.WarmedH t.vm → hm_Post D U wd s.heap.size fp mods PS args s (.returned v) t) ∧ ∀ q ∈ locs, va_A wd s.heap.size q.base :=
  ⟨fun t ht hW => ⟨⟨v, rfl, wd', hps, by rw [ht]; exact hh.1, hh.2.2.2.1.moved hW.alike, hh.2.2.2.2⟩, hh.2.2.1.F ht⟩, hh.2.2.1.2.2⟩
section HMC
variable {p : Program} {l : Launch} {e : Env} {R : Room} {s : State} {m : MethodId} {args : Array Value} {below : List Frame} {meth : Method} {c : Code} {Q : State → Prop} {pc : Nat} {D : va_G} {U S : Nat → Nat} {wd wd0 : va_W} {y y0 : hbY} {ls : Array Slot} {rest : List Value} {fp mods fp1 mods1 : List Nat} {H : Heap} {locs : List Loc}
/-- a call of a method that writes -/
theorem hm_cM {fr lo idx i0 i1 i2 i3 : Nat} {As st : List Value} {PS : Option Value → va_W → Prop} (hBd : hb_Bd hb_G y0 p s m args meth c) (hc0 : y0.1.cls = "HopeBankModel") (hGs : hb_Gs hb_G D (va_A wd0 s.heap.size) S s) (hh : hw_H D U s wd0 fp mods wd H locs) (h4 : 124 ∈ fp) (hM : hm_Met l y fr lo D U S wd fp1 mods1 (.ref (U 124) :: As) PS) (hfp : ∀ q ∈ fp1, q ∈ fp) (hmd : ∀ q ∈ mods1, q ∈ mods) (hmf : ∀ q ∈ mods1, q ∈ fp1) (hcd : Cond.code y.1 y.2.1 y.2.2.1 y.2.2.2 ∈ hb_G.2.1.1) (hcy : y.1.cls = "HopeBankModel") (hw : hw_wV idx i0 i1 i2 i3 y = true) (hR : fr + 1 ≤ R.frames ∧ 8 + (y.2.2.1 + 11) + lo ≤ R.locals) (hnp : ∀ sig, parseMethodDescriptor y.1.desc = some sig → As.length = sig.parameters.length) (hsz : ls.size = y0.2.2.1) (hst : st = As.reverse ++ .ref (U 124) :: rest) (hcat : (rest.map fun v => v.category).sum ≤ 8) (hdg : decode y0.2.1 pc = .ok (.invokevirtual idx, 3))
    (kk : ∀ (v : Option Value) (wd1 : va_W) (H1 : Heap) (locs1 : List Loc), PS v wd1 → hb_fr mods1 wd wd1 → hw_H D U s wd0 fp mods wd1 H1 locs1 → W p l e R s m args below meth c H1 locs1 0 0 Q (F0 m (pc + 3) ls (v.toList ++ rest))) : W p l e R s m args below meth c H locs 0 0 Q (F0 m pc ls st) := by
  obtain ⟨hx, hb, hml, hown, hlocks, hret, hTw⟩ := hBd
  obtain ⟨hw, w4⟩ := hb_and2 hw
  obtain ⟨hw, w3⟩ := hb_and2 hw
  obtain ⟨w1, w2⟩ := hb_and2 hw
  obtain ⟨fs, f1, -⟩ := hm_fld hh.2.2.2.1 h4
  have hrec := va_recv hGs.1 hh.1 (show vwCl[12]? = some (y.1.cls, TX12, 46) by rw [hcy]; rfl) f1
  rw [hc0] at hown
  have hA1 : ∀ q', va_A wd H.size q' → va_A wd0 s.heap.size q' := by
    intro q' hq'
    rcases hb_fr.A hh.2.2.2.2 hq' with z | z
    · exact Or.inl z
    · exact Or.inr (Nat.le_trans hh.2.2.1.1 z)
  refine hb_callW (P := fun v t => ∃ wd', PS v wd' ∧ va_P D vwCl wd' t.heap ∧ hb_wd hb_KT t U wd' fp1 ∧ hb_fr mods1 wd wd') (A1 := va_A wd H.size) (free := va_A wd H.size) (va_runV (C := y.1.cls) (b := U 124) (As := As) (n := As.length) (index := idx) (rest := rest) ⟨hx, hb, hml, hown, hTw⟩ (hM H.size) ⟨⟨rfl, rfl, hR.1, hR.2, hb_wsW hb_goodG hTw hcd, List.mem_cons_self, hTw _ hcd, hTw _ (hb_wm w1), by rw [hcy]; decide, hnp, hTw _ (hb_wm w2)⟩, hTw _ (hb_wm w3), hTw _ (hb_wm w4)⟩ ⟨hb_blind hb_GokG _ _ _ _ _ _ _, hrec, fun V hV hW => ⟨rfl, by rw [hV], by rw [hV]; exact hh.1, hh.2.1.weaken (fun _ _ _ _ => trivial), (hh.2.2.2.1.moved hW.alike).less hfp, hb_Gs.move hb_GokG hW (fun q' h1 h2 => by rw [hV]; exact hh.2.2.1.2.1 q' h1 h2) hA1 hGs⟩⟩ rfl rfl hsz hst (lv_room hcat) hdg ⟨Nat.zero_le _, Nat.zero_le _⟩) hh.2.2.1 (fun q _ hq => hA1 q hq) hA1 ?_
  intro v t H1 locs1 ht hvm hP hS
  obtain ⟨wd', p1, p2, p3, p4⟩ := hP
  exact kk v wd' H1 locs1 p1 p4 ⟨by rw [← ht]; exact p2, p4.D hh.2.1, hS, hh.2.2.2.1.back hvm.symm p3 p4 hmf, hh.2.2.2.2.trans p4 hmd⟩
end HMC
