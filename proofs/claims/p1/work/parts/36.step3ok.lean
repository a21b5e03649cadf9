section HBN2
variable {p : Program} {l : Launch} {e : Env} {R : Room} {s : State} {m : MethodId} {args : Array Value} {below : List Frame} {meth : Method} {c : Code} {Q : State → Prop} {cc : ByteArray} {pc : Nat} {X : hbX} {V : hbV} {L : List (Nat × hbA)} {S : List hbA} {C : List (Nat × hbA × hbA)} {own : String} {Ts : List Cond} {po : List (Nat × Nat × Nat × Nat)} {KT : List hbK} {fp mods : List Nat}
theorem hb_sh0 {s : State} {kd : hbK} {ec : va_E} (h : hb_shape s kd ec) (hf : Nat.beq kd.1 0 = true) : ∃ fs : List Value, ec = .inr (kd.2.1, fs) ∧ fs.length = kd.2.2.1 := by
  obtain ⟨f, r⟩ := kd
  have e : f = 0 := hb_lenE hf
  subst e
  exact h
theorem hb_sh1 {s : State} {kd : hbK} {ec : va_E} (h : hb_shape s kd ec) (hf : Nat.beq kd.1 1 = true) : ∃ (cA : ClassId) (f : Nat → Int32), ec = .inl (cA, kd.2.2.1, .inl f) ∧ ArrOfT s cA .int ∧ va_RA s cA .int := by
  obtain ⟨f, r⟩ := kd
  have e : f = 1 := hb_lenE hf
  subst e
  exact h
theorem hb_sh2 {s : State} {kd : hbK} {ec : va_E} (h : hb_shape s kd ec) (hf : Nat.beq kd.1 2 = true) : ∃ (cA : ClassId) (f : Nat → Int32), ec = .inl (cA, kd.2.2.1, .inl f) ∧ ArrOfT s cA .byte ∧ va_RA s cA .byte := by
  obtain ⟨f, r⟩ := kd
  have e : f = 2 := hb_lenE hf
  subst e
  exact h
theorem hb_sh3 {s : State} {kd : hbK} {ec : va_E} (h : hb_shape s kd ec) (hf : Nat.beq kd.1 3 = true) : ∃ (cA : ClassId) (f : Nat → Int32), ec = .inl (cA, kd.2.2.1, .inl f) ∧ ArrOfT s cA .boolean ∧ va_RA s cA .boolean := by
  obtain ⟨f, r⟩ := kd
  have e : f = 3 := hb_lenE hf
  subst e
  exact h
theorem hb_sh4 {s : State} {kd : hbK} {ec : va_E} (h : hb_shape s kd ec) (hf : Nat.beq kd.1 4 = true) : ∃ (cA : ClassId) (f : Nat → Int64), ec = .inl (cA, kd.2.2.1, .inr (.inl f)) ∧ ArrOfT s cA .long ∧ va_RA s cA .long := by
  obtain ⟨f, r⟩ := kd
  have e : f = 4 := hb_lenE hf
  subst e
  exact h
theorem hb_sh5 {s : State} {kd : hbK} {ec : va_E} (h : hb_shape s kd ec) (hf : Nat.beq kd.1 5 = true) : ∃ (cA : ClassId) (g : Nat → Option Nat) (ty : FieldType), ec = .inl (cA, kd.2.2.1, .inr (.inr (.inr (.inr g)))) ∧ ty.isReference = true ∧ ArrOfT s cA ty ∧ va_RA s cA ty := by
  obtain ⟨f, r⟩ := kd
  have e : f = 5 := hb_lenE hf
  subst e
  exact h
/-- an array's length -/
theorem hb_shA {s : State} {kd : hbK} {ec : va_E} (h : hb_shape s kd ec) (hf : Nat.ble 1 kd.1 = true) : ∃ (cA : ClassId) (x : vp_A) (ty : FieldType), ec = .inl (cA, x) ∧ x.1 = kd.2.2.1 ∧ ArrOfT s cA ty ∧ va_RA s cA ty := by
  obtain ⟨f, r⟩ := kd
  match f, h, hf with
  | 0, _, hf => cases hf
  | 1, ⟨cA, f, h1, h2, h3⟩, _ => exact ⟨cA, _, _, h1, rfl, h2, h3⟩
  | 2, ⟨cA, f, h1, h2, h3⟩, _ => exact ⟨cA, _, _, h1, rfl, h2, h3⟩
  | 3, ⟨cA, f, h1, h2, h3⟩, _ => exact ⟨cA, _, _, h1, rfl, h2, h3⟩
  | 4, ⟨cA, f, h1, h2, h3⟩, _ => exact ⟨cA, _, _, h1, rfl, h2, h3⟩
  | f + 5, ⟨cA, g, ty, h1, h2, h3, h4⟩, _ => exact ⟨cA, _, ty, h1, rfl, h3, h4⟩
theorem hb_getI {cA n k : Nat} {f : Nat → Int32} (h : k < n) : hb_get (.inl (cA, n, .inl f)) k = some (.int (f k)) := by
  show (if k < n then some (Value.int (f k)) else none) = _
  rw [if_pos h]
theorem hb_getL {cA n k : Nat} {f : Nat → Int64} (h : k < n) : hb_get (.inl (cA, n, .inr (.inl f))) k = some (.long (f k)) := by
  show (if k < n then some (Value.long (f k)) else none) = _
  rw [if_pos h]
theorem hb_getQ {cA n k : Nat} {g : Nat → Option Nat} (h : k < n) : hb_get (.inl (cA, n, .inr (.inr (.inr (.inr g))))) k = some (va_rf (g k)) := by
  show (if k < n then some (va_rf (g k)) else none) = _
  rw [if_pos h]
set_option maxHeartbeats 4000000 in
theorem hb_step3_ok {fk : Bool} {i : Instr} {len : Nat} {lst : List (Nat × hbS)} (hx : p.tables.exec = Jvm.exec) (hb : c.code = cc) (hdg : decode cc pc = .ok (i, len)) (hXs : X.1.1 = s) (hXk : X.2.1 = (KT, fp, mods)) (hown : s.vm.findClass own = some m.cls) (hts : ∀ w ∈ Ts, w.before args s = true) (hK : va_K X.1.2.1 X.1.2.2 [] s) (hpo : hb_pool own X.1.2.2 po args s) (htb : hb_tabs X.1.2.2 Ts)
    (h : hb_step3 fk KT fp mods po i len pc V L S C = some lst) (hJ : ∀ q ∈ lst, hb_J X (hb_w p l e R s m args below meth c Q) m q.2 q.1) : hb_J X (hb_w p l e R s m args below meth c Q) m (V, L, S, C) pc := by
  unfold hb_step3 at h
  split at h
  next x a r =>
    cases hp : hb_pl po x with
    | none => rw [hp] at h; cases h
    | some q =>
      obtain ⟨ci, k, fc⟩ := q
      rw [hp] at h
      obtain ⟨t1, t2, kd, t3, h⟩ := hb_kd_inv h
      obtain ⟨hc, hR⟩ := hb_gd_inv h
      obtain ⟨hc, h4⟩ := hb_and2 hc
      obtain ⟨hc, h3⟩ := hb_and2 hc
      obtain ⟨h1, h2⟩ := hb_and2 hc
      have e1 := hb_lenE h1; subst e1
      intro ρ wd H locs ls st hs hh
      obtain ⟨v, st1, rfl, g1, hs1⟩ := hs.pop
      have ev := g1.ref t1
      subst ev
      obtain ⟨kd', ec, k1, k2, k3, k4⟩ := hh.2.2.2.1 a.2.2.1 (by rw [hXk]; exact t2)
      rw [hXk, t3] at k1
      cases k1
      obtain ⟨fs, e3, e4⟩ := hb_sh0 k3.1 h2
      subst e3
      have hkl : k < fs.length := by rw [e4]; exact hb_blt h4
      have hgk : fs[k]? = some fs[k] := List.getElem?_eq_getElem hkl
      have e5 := hb_lenE h3
      have hkk := hb_see_ok (z := (k : Int)) hR hJ hs1 hh k2 k3 hs1.2.1.1 (show (k : Int) = 0 * ρ 0 + Int.ofNat k by show (k : Int) = 0 * ρ 0 + (k : Int); omega) (by omega) (by rw [← e4]; omega) (v := fs[k]) (by rw [Int.toNat_natCast]; exact hgk)
      rw [e5] at k2
      exact hb_row_get hx hb hown hts hK hpo htb (hb_pl_mem hp) hh.1 k2 hgk hdg hkk
  next x v a r =>
    cases hp : hb_pl po x with
    | none => rw [hp] at h; cases h
    | some q =>
      obtain ⟨ci, k, fc⟩ := q
      rw [hp] at h
      obtain ⟨t1, t2, kd, t3, h⟩ := hb_kd_inv h
      obtain ⟨hc, hR⟩ := hb_gd_inv h
      cases hR
      obtain ⟨hc, h7⟩ := hb_and2 hc
      obtain ⟨hc, h6⟩ := hb_and2 hc
      obtain ⟨hc, h5⟩ := hb_and2 hc
      obtain ⟨hc, h4⟩ := hb_and2 hc
      obtain ⟨hc, h3⟩ := hb_and2 hc
      obtain ⟨h1, h2⟩ := hb_and2 hc
      have e1 := hb_lenE h1; subst e1
      have hJ := hJ _ (List.mem_singleton.mpr rfl)
      intro ρ wd H locs ls st hs hh
      obtain ⟨vv, st1, rfl, g1, hs1⟩ := hs.pop
      obtain ⟨va, st2, rfl, g2, hs2⟩ := hs1.pop
      have ev := g2.ref t1
      subst ev
      obtain ⟨kd', ec, k1, k2, k3, k4⟩ := hh.2.2.2.1 a.2.2.1 (by rw [hXk]; exact t2)
      have k1' := k1
      rw [hXk, t3] at k1
      cases k1
      obtain ⟨fs, e3, e4⟩ := hb_sh0 k3.1 h2
      subst e3
      have hkl : k < fs.length := by rw [e4]; exact hb_blt h4
      have e5 := hb_lenE h3
      have hty : ∃ ty : FieldType, ((fc = 0 ∧ ty = .int) ∨ (fc = 1 ∧ ty = .boolean) ∨ (fc = 2 ∧ ty = .long)) ∧ narrow ty vv = vv ∧ fits ty vv = true := by
        rw [Bool.or_eq_true, Bool.or_eq_true] at h7
        rcases h7 with (h7 | h7) | h7
        · obtain ⟨q1, q2⟩ := hb_and2 h7
          obtain ⟨-, y, rfl, -⟩ := g1.int q2
          exact ⟨.int, Or.inl ⟨hb_lenE q1, rfl⟩, rfl, rfl⟩
        · obtain ⟨q1, q2⟩ := hb_and2 h7
          obtain ⟨y, rfl, b1, b2⟩ := hb_fit_ok hs2.1 g1 q2
          have := hb_nar_bool b1 b2
          exact ⟨.boolean, Or.inr (Or.inl ⟨hb_lenE q1, rfl⟩), this.2.1, this.2.2⟩
        · obtain ⟨q1, q2⟩ := hb_and2 h7
          obtain ⟨-, y, rfl, -⟩ := g1.long q2
          exact ⟨.long, Or.inr (Or.inr ⟨hb_lenE q1, rfl⟩), rfl, rfl⟩
      obtain ⟨ty, f1, f2, f3⟩ := hty
      have k2c := k2
      rw [e5] at k2c
      refine hb_row_put (H0 := X.1.1.heap) hx hb hown hts hK hpo htb (hb_pl_mem hp) hh.1 hh.2.1 hh.2.2.1 k2c f1 f2 f3 hkl hdg (fun H1 locs1 hP hD hS => ?_)
      rw [← e5] at hP hD
      obtain ⟨w1, w2⟩ := hb_get_obj (ci := kd.2.1) (v := vv) hkl
      refine hb_wrote (z := (k : Int)) hJ (fun _ h _ => h) (by rcases (show v.1 = 0 ∨ v.1 = 1 by rw [Bool.or_eq_true, Bool.or_eq_true] at h7; rcases h7 with (h7 | h7) | h7; exact Or.inl (hb_lenE (hb_and2 h7).2); exact Or.inl (hb_lenE (hb_and2 (hb_and2 h7).2).1); exact Or.inr (hb_lenE (hb_and2 h7).2)) with q | q <;> rw [q] <;> decide) hs2 hh k1' k2 k3 (by rw [hXk]; exact hb_mem_ok h5) hs2.2.1.1 (show (k : Int) = 0 * ρ 0 + Int.ofNat k by show (k : Int) = 0 * ρ 0 + (k : Int); omega) (by omega) g1 (fun ty ht => hb_fits_ok hs2.1 (show (k : Int) = 0 * ρ 0 + Int.ofNat k by show (k : Int) = 0 * ρ 0 + (k : Int); omega) (by omega) h6 g1 ht) ?_ (by rw [Int.toNat_natCast]; exact w1) (by rw [Int.toNat_natCast]; exact w2) hP hD hS
      obtain ⟨f, ci', n, tys⟩ := kd
      have ef : f = 0 := hb_lenE h2
      subst ef
      exact ⟨_, rfl, by rw [List.length_set]; exact e4⟩
  next a r =>
    obtain ⟨t1, t2, kd, t3, h⟩ := hb_kd_inv h
    obtain ⟨hc, hR⟩ := hb_gd_inv h
    cases hR
    obtain ⟨h1, h2⟩ := hb_and2 hc
    have e1 := hb_lenE h1; subst e1
    have hJ := hJ _ (List.mem_singleton.mpr rfl)
    intro ρ wd H locs ls st hs hh
    obtain ⟨v, st1, rfl, g1, hs1⟩ := hs.pop
    have ev := g1.ref t1
    subst ev
    obtain ⟨kd', ec, k1, k2, k3, k4⟩ := hh.2.2.2.1 a.2.2.1 (by rw [hXk]; exact t2)
    rw [hXk, t3] at k1
    cases k1
    obtain ⟨cA, xx, ty, e3, e4, e5, e6⟩ := hb_shA k3.1 h2
    subst e3
    rw [hXs] at e5 e6
    refine va_alen (v := nI kd.2.2.1) hx hb (hb_Karr hK e5 e6) hh.1 a.2.2.1 0 k2 rfl (by rw [e4]; rfl) hdg (hJ ρ wd H locs ls _ (hs1.push (hb_kI (nI_toInt (by omega)) hs1.2.1.1)) hh)
  next x a r =>
    obtain ⟨t1, t2, kd, t3, h⟩ := hb_kd_inv h
    obtain ⟨hc, hR⟩ := hb_gd_inv h
    obtain ⟨hc, h4⟩ := hb_and2 hc
    obtain ⟨hc, h3⟩ := hb_and2 hc
    obtain ⟨h1, h2⟩ := hb_and2 hc
    have e1 := hb_lenE h1; subst e1
    intro ρ wd H locs ls st hs hh
    obtain ⟨v, st1, rfl, g1, hs1⟩ := hs.pop
    obtain ⟨u, st2, rfl, g2, hs2⟩ := hs1.pop
    have ev := g2.ref t1
    subst ev
    obtain ⟨kx, ii, rfl, ex⟩ := g1.int h2
    obtain ⟨kd', ec, k1, k2, k3, k4⟩ := hh.2.2.2.1 a.2.2.1 (by rw [hXk]; exact t2)
    rw [hXk, t3] at k1
    cases k1
    obtain ⟨cA, f, e3, e4, e5⟩ := hb_sh1 k3.1 h3
    subst e3
    rw [hXs] at e4 e5
    have hb' := hb_inb_ok hs2.1 ex h4
    obtain ⟨v1, v2⟩ := hb_vpin hb'
    exact va_iald hx hb (hb_Karr hK e4 e5) hh.1 a.2.2.1 0 k2 rfl v1 hdg (hb_see_ok hR hJ hs2 hh k2 k3 kx ex hb'.1 hb'.2 (by rw [v2]; exact hb_getI (by omega)))
  next x a r =>
    obtain ⟨t1, t2, kd, t3, h⟩ := hb_kd_inv h
    obtain ⟨hc, hR⟩ := hb_gd_inv h
    obtain ⟨hc, h4⟩ := hb_and2 hc
    obtain ⟨hc, h3⟩ := hb_and2 hc
    obtain ⟨h1, h2⟩ := hb_and2 hc
    have e1 := hb_lenE h1; subst e1
    intro ρ wd H locs ls st hs hh
    obtain ⟨v, st1, rfl, g1, hs1⟩ := hs.pop
    obtain ⟨u, st2, rfl, g2, hs2⟩ := hs1.pop
    have ev := g2.ref t1
    subst ev
    obtain ⟨kx, ii, rfl, ex⟩ := g1.int h2
    obtain ⟨kd', ec, k1, k2, k3, k4⟩ := hh.2.2.2.1 a.2.2.1 (by rw [hXk]; exact t2)
    rw [hXk, t3] at k1
    cases k1
    have hb' := hb_inb_ok hs2.1 ex h4
    obtain ⟨v1, v2⟩ := hb_vpin hb'
    rw [Bool.or_eq_true] at h3
    rcases h3 with h3 | h3
    · obtain ⟨cA, f, e3, e4, e5⟩ := hb_sh2 k3.1 h3
      subst e3
      rw [hXs] at e4 e5
      exact va_bald hx hb (hb_Karr hK e4 e5) hh.1 a.2.2.1 0 k2 rfl v1 hdg (hb_see_ok hR hJ hs2 hh k2 k3 kx ex hb'.1 hb'.2 (by rw [v2]; exact hb_getI (by omega)))
    · obtain ⟨cA, f, e3, e4, e5⟩ := hb_sh3 k3.1 h3
      subst e3
      rw [hXs] at e4 e5
      exact va_zald hx hb (hb_Karr hK e4 e5) hh.1 a.2.2.1 0 k2 rfl v1 hdg (hb_see_ok hR hJ hs2 hh k2 k3 kx ex hb'.1 hb'.2 (by rw [v2]; exact hb_getI (by omega)))
  next x a r =>
    obtain ⟨t1, t2, kd, t3, h⟩ := hb_kd_inv h
    obtain ⟨hc, hR⟩ := hb_gd_inv h
    obtain ⟨hc, h4⟩ := hb_and2 hc
    obtain ⟨hc, h3⟩ := hb_and2 hc
    obtain ⟨h1, h2⟩ := hb_and2 hc
    have e1 := hb_lenE h1; subst e1
    intro ρ wd H locs ls st hs hh
    obtain ⟨v, st1, rfl, g1, hs1⟩ := hs.pop
    obtain ⟨u, st2, rfl, g2, hs2⟩ := hs1.pop
    have ev := g2.ref t1
    subst ev
    obtain ⟨kx, ii, rfl, ex⟩ := g1.int h2
    obtain ⟨kd', ec, k1, k2, k3, k4⟩ := hh.2.2.2.1 a.2.2.1 (by rw [hXk]; exact t2)
    rw [hXk, t3] at k1
    cases k1
    obtain ⟨cA, f, e3, e4, e5⟩ := hb_sh4 k3.1 h3
    subst e3
    rw [hXs] at e4 e5
    have hb' := hb_inb_ok hs2.1 ex h4
    obtain ⟨v1, v2⟩ := hb_vpin hb'
    exact va_lald hx hb (hb_Karr hK e4 e5) hh.1 a.2.2.1 0 k2 rfl v1 hdg (hb_see_ok hR hJ hs2 hh k2 k3 kx ex hb'.1 hb'.2 (by rw [v2]; exact hb_getL (by omega)))
  next x a r =>
    obtain ⟨t1, t2, kd, t3, h⟩ := hb_kd_inv h
    obtain ⟨hc, hR⟩ := hb_gd_inv h
    obtain ⟨hc, h4⟩ := hb_and2 hc
    obtain ⟨hc, h3⟩ := hb_and2 hc
    obtain ⟨h1, h2⟩ := hb_and2 hc
    have e1 := hb_lenE h1; subst e1
    cases hi : hb_ixs V x with
    | none => rw [hi] at hR; cases hR
    | some is =>
      rw [hi] at hR
      intro ρ wd H locs ls st hs hh
      obtain ⟨v, st1, rfl, g1, hs1⟩ := hs.pop
      obtain ⟨u, st2, rfl, g2, hs2⟩ := hs1.pop
      have ev := g2.ref t1
      subst ev
      obtain ⟨kx, ii, rfl, ex⟩ := g1.int h2
      obtain ⟨kd', ec, k1, k2, k3, k4⟩ := hh.2.2.2.1 a.2.2.1 (by rw [hXk]; exact t2)
      rw [hXk, t3] at k1
      cases k1
      obtain ⟨cA, g, ty, e3, e4, e5, e6⟩ := hb_sh5 k3.1 h3
      subst e3
      rw [hXs] at e5 e6
      have hb' := hb_inb_ok hs2.1 ex h4
      obtain ⟨v1, v2⟩ := hb_vpin hb'
      have hmem := hb_ixs_ok hs2.1 ex hb'.1 hi
      obtain ⟨d, dd, d1, d2⟩ := hb_refs_ok hR hmem
      obtain ⟨vv, ty', q1, q2, q3⟩ := k3.2 ii.toInt.toNat (by omega)
      rw [d1] at q2
      cases q2
      rw [hb_getQ (by omega)] at q1
      cases q1
      have q3 : va_rf (g ii.toInt.toNat) = .ref (X.2.2.1.1 d.toNat) := q3
      obtain ⟨V', b1, b2, b3⟩ := hb_tk_ok (cnd := .eq) (b := (0, 0, 0, .ofNat ii.toInt.toNat)) (y := ii.toInt) hs2.1 kx hs2.2.1.1 ex (show ii.toInt = 0 * ρ 0 + ((ii.toInt.toNat : Nat) : Int) by omega) rfl
      have hkk := hJ _ (d2 V' b1) ρ wd H locs ls (va_rf (g ii.toInt.toNat) :: st2) ((hs2.num (Nat.le_of_eq b3.symm) hb_ag.rf b2).push q3) hh
      have hlt : ii.toNatClampNeg < kd.2.2.1 := by rw [v2]; omega
      exact W.aald (v := va_rf (g ii.toInt.toNat)) (ty := ty) hx hb (hh.1 a.2.2.1 _ k2) (e5 kd.2.2.1 (fun j => va_rf (g j))) e4 (fun q => by cases q) (by show ¬ (ii < 0 ∨ (arrV _ _ _).slots.size ≤ _); rw [arrV_size]; exact v1) (by show (arrV _ _ _).slots[_]? = _; rw [arrV_read _ _ hlt, v2]) rfl rfl hdg hkk
  next v x a r =>
    obtain ⟨t1, t2, kd, t3, h⟩ := hb_kd_inv h
    obtain ⟨hc, hR⟩ := hb_gd_inv h
    cases hR
    obtain ⟨hc, h7⟩ := hb_and2 hc
    obtain ⟨hc, h6⟩ := hb_and2 hc
    obtain ⟨hc, h5⟩ := hb_and2 hc
    obtain ⟨hc, h4⟩ := hb_and2 hc
    obtain ⟨hc, h3⟩ := hb_and2 hc
    obtain ⟨h1, h2⟩ := hb_and2 hc
    have e1 := hb_lenE h1; subst e1
    have hJ := hJ _ (List.mem_singleton.mpr rfl)
    intro ρ wd H locs ls st hs hh
    obtain ⟨vv, st1, rfl, g1, hs1⟩ := hs.pop
    obtain ⟨vi, st2, rfl, g2, hs2⟩ := hs1.pop
    obtain ⟨va, st3, rfl, g3, hs3⟩ := hs2.pop
    have ev := g3.ref t1
    subst ev
    obtain ⟨kx, ii, rfl, ex⟩ := g2.int h2
    obtain ⟨kv, yy, rfl, ey⟩ := g1.int h3
    obtain ⟨kd', ec, k1, k2, k3, k4⟩ := hh.2.2.2.1 a.2.2.1 (by rw [hXk]; exact t2)
    have k1' := k1
    rw [hXk, t3] at k1
    cases k1
    obtain ⟨cA, f, e3, e4, e5⟩ := hb_sh1 k3.1 h4
    subst e3
    have hb' := hb_inb_ok hs3.1 ex h5
    obtain ⟨v1, v2⟩ := hb_vpin hb'
    obtain ⟨w1, w2⟩ := hb_get_ints (cA := cA) (n := kd.2.2.1) (k := ii.toInt.toNat) (f := f) (x := yy) (by omega)
    refine va_iast (H0 := X.1.1.heap) hx hb (hb_Karr hK (by rw [← hXs]; exact e4) (by rw [← hXs]; exact e5)) hh.1 hh.2.1 hh.2.2.1 a.2.2.1 0 k2 rfl v1 hdg (fun H1 locs1 hP hD hS => ?_)
    rw [v2] at hP hD
    refine hb_wrote hJ (fun wd' h he' => hb_mkp_ok hs3.1 h he' (fun k x hk => by
      have hk : (if k < kd.2.2.1 then some (Value.int _) else none) = some (.int x) := hk
      by_cases hq : k < kd.2.2.1
      · exact hq
      · rw [if_neg hq] at hk; cases hk)) (by rw [hb_lenE h3]; decide) hs3 hh k1' k2 k3 (by rw [hXk]; exact hb_mem_ok h6) kx ex hb'.1 g1 (fun ty ht => by
      rw [Bool.or_eq_true] at h7
      rcases h7 with h7 | h7
      · exact hb_fits_ok hs3.1 ex hb'.1 h7 g1 ht
      · have hw := hh.2.2.2.1
        rw [hXk] at hw
        exact hb_cpf_ok h7 hs3.2.2.2.2 hw ex hb'.1 ey ht) ?_ w1 w2 hP hD hS
    obtain ⟨fm, ci', n, tys⟩ := kd
    have ef : fm = 1 := hb_lenE h4
    subst ef
    exact ⟨cA, _, rfl, e4, e5⟩
  next v x a r =>
    obtain ⟨t1, t2, kd, t3, h⟩ := hb_kd_inv h
    obtain ⟨hc, hR⟩ := hb_gd_inv h
    cases hR
    obtain ⟨hc, h7⟩ := hb_and2 hc
    obtain ⟨hc, h6⟩ := hb_and2 hc
    obtain ⟨hc, h5⟩ := hb_and2 hc
    obtain ⟨hc, h4⟩ := hb_and2 hc
    obtain ⟨hc, h3⟩ := hb_and2 hc
    obtain ⟨h1, h2⟩ := hb_and2 hc
    have e1 := hb_lenE h1; subst e1
    have hJ := hJ _ (List.mem_singleton.mpr rfl)
    intro ρ wd H locs ls st hs hh
    obtain ⟨vv, st1, rfl, g1, hs1⟩ := hs.pop
    obtain ⟨vi, st2, rfl, g2, hs2⟩ := hs1.pop
    obtain ⟨va, st3, rfl, g3, hs3⟩ := hs2.pop
    have ev := g3.ref t1
    subst ev
    obtain ⟨kx, ii, rfl, ex⟩ := g2.int h2
    obtain ⟨kv, yy, rfl, ey⟩ := g1.int h3
    obtain ⟨kd', ec, k1, k2, k3, k4⟩ := hh.2.2.2.1 a.2.2.1 (by rw [hXk]; exact t2)
    have k1' := k1
    rw [hXk, t3] at k1
    cases k1
    have hb' := hb_inb_ok hs3.1 ex h5
    obtain ⟨v1, v2⟩ := hb_vpin hb'
    rw [Bool.or_eq_true] at h4
    rcases h4 with h4 | h4
    · obtain ⟨h4, h8⟩ := hb_and2 h4
      obtain ⟨y2, ey2, b1, b2⟩ := hb_fit_ok hs3.1 g1 h8
      cases ey2
      obtain ⟨cA, f, e3, e4, e5⟩ := hb_sh2 k3.1 h4
      subst e3
      obtain ⟨w1, w2⟩ := hb_get_ints (cA := cA) (n := kd.2.2.1) (k := ii.toInt.toNat) (f := f) (x := yy) (by omega)
      refine va_bast (H0 := X.1.1.heap) hx hb (hb_Karr hK (by rw [← hXs]; exact e4) (by rw [← hXs]; exact e5)) hh.1 hh.2.1 hh.2.2.1 a.2.2.1 0 k2 rfl v1 hdg (fun H1 locs1 hP hD hS => ?_)
      rw [v2, hb_nar_byte b1 b2] at hP hD
      refine hb_wrote hJ (fun _ h _ => h) (by rw [hb_lenE h3]; decide) hs3 hh k1' k2 k3 (by rw [hXk]; exact hb_mem_ok h6) kx ex hb'.1 g1 (fun ty ht => hb_fits_ok hs3.1 ex hb'.1 h7 g1 ht) ?_ w1 w2 hP hD hS
      obtain ⟨fm, ci', n, tys⟩ := kd
      have ef : fm = 2 := hb_lenE h4
      subst ef
      exact ⟨cA, _, rfl, e4, e5⟩
    · obtain ⟨h4, h8⟩ := hb_and2 h4
      obtain ⟨y2, ey2, b1, b2⟩ := hb_fit_ok hs3.1 g1 h8
      cases ey2
      obtain ⟨cA, f, e3, e4, e5⟩ := hb_sh3 k3.1 h4
      subst e3
      obtain ⟨w1, w2⟩ := hb_get_ints (cA := cA) (n := kd.2.2.1) (k := ii.toInt.toNat) (f := f) (x := yy) (by omega)
      refine va_zast (H0 := X.1.1.heap) hx hb (hb_Karr hK (by rw [← hXs]; exact e4) (by rw [← hXs]; exact e5)) hh.1 hh.2.1 hh.2.2.1 a.2.2.1 0 k2 rfl v1 hdg (fun H1 locs1 hP hD hS => ?_)
      rw [v2, (hb_nar_bool b1 b2).1] at hP hD
      refine hb_wrote hJ (fun _ h _ => h) (by rw [hb_lenE h3]; decide) hs3 hh k1' k2 k3 (by rw [hXk]; exact hb_mem_ok h6) kx ex hb'.1 g1 (fun ty ht => hb_fits_ok hs3.1 ex hb'.1 h7 g1 ht) ?_ w1 w2 hP hD hS
      obtain ⟨fm, ci', n, tys⟩ := kd
      have ef : fm = 3 := hb_lenE h4
      subst ef
      exact ⟨cA, _, rfl, e4, e5⟩
  next v x a r =>
    obtain ⟨t1, t2, kd, t3, h⟩ := hb_kd_inv h
    obtain ⟨hc, hR⟩ := hb_gd_inv h
    cases hR
    obtain ⟨hc, h7⟩ := hb_and2 hc
    obtain ⟨hc, h6⟩ := hb_and2 hc
    obtain ⟨hc, h5⟩ := hb_and2 hc
    obtain ⟨hc, h4⟩ := hb_and2 hc
    obtain ⟨hc, h3⟩ := hb_and2 hc
    obtain ⟨h1, h2⟩ := hb_and2 hc
    have e1 := hb_lenE h1; subst e1
    have hJ := hJ _ (List.mem_singleton.mpr rfl)
    intro ρ wd H locs ls st hs hh
    obtain ⟨vv, st1, rfl, g1, hs1⟩ := hs.pop
    obtain ⟨vi, st2, rfl, g2, hs2⟩ := hs1.pop
    obtain ⟨va, st3, rfl, g3, hs3⟩ := hs2.pop
    have ev := g3.ref t1
    subst ev
    obtain ⟨kx, ii, rfl, ex⟩ := g2.int h2
    obtain ⟨kv, yy, rfl, ey⟩ := g1.long h3
    obtain ⟨kd', ec, k1, k2, k3, k4⟩ := hh.2.2.2.1 a.2.2.1 (by rw [hXk]; exact t2)
    have k1' := k1
    rw [hXk, t3] at k1
    cases k1
    obtain ⟨cA, f, e3, e4, e5⟩ := hb_sh4 k3.1 h4
    subst e3
    have hb' := hb_inb_ok hs3.1 ex h5
    obtain ⟨v1, v2⟩ := hb_vpin hb'
    obtain ⟨w1, w2⟩ := hb_get_longs (cA := cA) (n := kd.2.2.1) (k := ii.toInt.toNat) (f := f) (x := yy) (by omega)
    refine va_last (H0 := X.1.1.heap) hx hb (hb_Karr hK (by rw [← hXs]; exact e4) (by rw [← hXs]; exact e5)) hh.1 hh.2.1 hh.2.2.1 a.2.2.1 0 k2 rfl v1 hdg (fun H1 locs1 hP hD hS => ?_)
    rw [v2] at hP hD
    refine hb_wrote hJ (fun _ h _ => h) (by rw [hb_lenE h3]; decide) hs3 hh k1' k2 k3 (by rw [hXk]; exact hb_mem_ok h6) kx ex hb'.1 g1 (fun ty ht => hb_fits_ok hs3.1 ex hb'.1 h7 g1 ht) ?_ w1 w2 hP hD hS
    obtain ⟨fm, ci', n, tys⟩ := kd
    have ef : fm = 4 := hb_lenE h4
    subst ef
    exact ⟨cA, _, rfl, e4, e5⟩
  next => cases h
end HBN2
