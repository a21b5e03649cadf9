/-! hb_: a write, and what it leaves -/
theorem hb_cell.upd {s : State} {U : Nat → Nat} {kd : hbK} {e e' : va_E} {j : Nat} {v : Value} (h : hb_cell s U kd e) (hs : hb_shape s kd e') (ho : ∀ k, k ≠ j → hb_get e' k = hb_get e k) (hj : hb_get e' j = some v) (ht : ∀ ty, hb_tyAt kd j = some ty → hb_ty U ty v) : hb_cell s U kd e' := by
  refine ⟨hs, fun k hk => ?_⟩
  obtain ⟨w, ty, h1, h2, h3⟩ := h.2 k hk
  by_cases e : k = j
  · subst e
    exact ⟨v, ty, hj, h2, ht ty h2⟩
  · exact ⟨w, ty, by rw [ho k e]; exact h1, h2, h3⟩
theorem hb_setS {wd : va_W} {c : Nat} {x y : Nat × va_E} (h : wd[c]? = some x) : (wd.set c y)[c]? = some y := List.getElem?_set_self (List.getElem?_eq_some_iff.mp h).1
theorem hb_setN {wd : va_W} {c d : Nat} {y : Nat × va_E} (h : c ≠ d) : (wd.set c y)[d]? = wd[d]? := List.getElem?_set_ne h
theorem hb_wd.upd {KT : List hbK} {s : State} {U : Nat → Nat} {wd : va_W} {fp : List Nat} {c : Nat} {kd : hbK} {e e' : va_E} (h : hb_wd KT s U wd fp) (hk : KT[c]? = some kd) (hc : wd[c]? = some (U c, e)) (he : hb_cell s U kd e') : hb_wd KT s U (wd.set c (U c, e')) fp := by
  intro d hd
  obtain ⟨kd', e2, h1, h2, h3, h4⟩ := h d hd
  by_cases q : c = d
  · subst q
    rw [hk] at h1
    cases h1
    exact ⟨kd, e', hk, hb_setS hc, he, h4⟩
  · exact ⟨kd', e2, h1, by rw [hb_setN q]; exact h2, h3, h4⟩
theorem hb_fr.upd {mods : List Nat} {wd0 wd : va_W} {c a : Nat} {e e' : va_E} (h : hb_fr mods wd0 wd) (hm : c ∈ mods) (hc : wd[c]? = some (a, e)) : hb_fr mods wd0 (wd.set c (a, e')) := by
  intro d
  obtain ⟨h1, h2⟩ := h d
  by_cases q : c = d
  · subst q
    rw [hc] at h1
    exact ⟨by rw [hb_setS hc]; exact h1, fun z => absurd hm z⟩
  · rw [hb_setN q]
    exact ⟨h1, h2⟩
theorem hb_cge_ok {V : hbV} {U S : Nat → Nat} {ρ : Nat → Int} {C : List (Nat × hbA × hbA)} {wd : va_W} {c : Nat} {ix : hbA} {a : Nat} {e : va_E} {y : Int32} (hV : hb_V ρ V) (h : hb_cch V.1.length U S ρ C wd) (hc : hb_cge V C c ix = true) (he : wd[c]? = some (a, e)) (hy : hb_get e (ix.2.1 * ρ ix.2.2.1 + ix.2.2.2).toNat = some (.int y)) : 0 ≤ y.toInt := by
  unfold hb_cge at hc
  cases hk : hb_ck C c ix with
  | none => rw [hk] at hc; cases hc
  | some b =>
    rw [hk] at hc
    obtain ⟨c1, c2⟩ := hb_and2 hc
    obtain ⟨ix', g1, g2, g3⟩ := hb_ck_mem hk
    obtain ⟨k1, e2, v, k2, k3, k4, k5⟩ := h.pl g1 g3
    dsimp only at k2 k4 k5
    rw [he] at k2
    cases k2
    rw [hb_ah_ok g2, hy] at k4
    cases k4
    obtain ⟨-, x, ex, ev⟩ := k5.int c1
    cases ex
    cases hq : hb_iv V.1 b.2.1 b.2.2.1 b.2.2.2 with
    | none => rw [hq] at c2; cases c2
    | some q =>
      obtain ⟨l, u⟩ := q
      rw [hq] at c2
      have := hb_le_t c2
      have := hb_iv_ok hV.1 hq
      omega
theorem hb_clt_ok {V : hbV} {U S : Nat → Nat} {ρ : Nat → Int} {C : List (Nat × hbA × hbA)} {wd : va_W} {c : Nat} {ix : hbA} {a : Nat} {e : va_E} {y : Int32} (hV : hb_V ρ V) (h : hb_cch V.1.length U S ρ C wd) (hc : hb_clt V C c ix = true) (he : wd[c]? = some (a, e)) (hy : hb_get e (ix.2.1 * ρ ix.2.2.1 + ix.2.2.2).toNat = some (.int y)) : y.toInt < 0 := by
  unfold hb_clt at hc
  cases hk : hb_ck C c ix with
  | none => rw [hk] at hc; cases hc
  | some b =>
    rw [hk] at hc
    obtain ⟨c1, c2⟩ := hb_and2 hc
    obtain ⟨ix', g1, g2, g3⟩ := hb_ck_mem hk
    obtain ⟨k1, e2, v, k2, k3, k4, k5⟩ := h.pl g1 g3
    dsimp only at k2 k4 k5
    rw [he] at k2
    cases k2
    rw [hb_ah_ok g2, hy] at k4
    cases k4
    obtain ⟨-, x, ex, ev⟩ := k5.int c1
    cases ex
    cases hq : hb_iv V.1 b.2.1 b.2.2.1 b.2.2.2 with
    | none => rw [hq] at c2; cases c2
    | some q =>
      obtain ⟨l, u⟩ := q
      rw [hq] at c2
      have := hb_le_t c2
      have := hb_iv_ok hV.1 hq
      omega
theorem hb_vge_ok {V : hbV} {U S : Nat → Nat} {ρ : Nat → Int} {va : hbA} {y : Int32} (hV : hb_V ρ V) (hv : hb_v V.1.length U S ρ va (.int y)) (h : hb_vge V va = true) : 0 ≤ y.toInt := by
  obtain ⟨c1, c2⟩ := hb_and2 h
  obtain ⟨-, x, ex, ev⟩ := hv.int c1
  cases ex
  cases hq : hb_iv V.1 va.2.1 va.2.2.1 va.2.2.2 with
  | none => rw [hq] at c2; cases c2
  | some q =>
    obtain ⟨l, u⟩ := q
    rw [hq] at c2
    have := hb_le_t c2
    have := hb_iv_ok hV.1 hq
    omega
theorem hb_vlt_ok {V : hbV} {U S : Nat → Nat} {ρ : Nat → Int} {va : hbA} {y : Int32} (hV : hb_V ρ V) (hv : hb_v V.1.length U S ρ va (.int y)) (h : hb_vlt V va = true) : y.toInt < 0 := by
  obtain ⟨c1, c2⟩ := hb_and2 h
  obtain ⟨-, x, ex, ev⟩ := hv.int c1
  cases ex
  cases hq : hb_iv V.1 va.2.1 va.2.2.1 va.2.2.2 with
  | none => rw [hq] at c2; cases c2
  | some q =>
    obtain ⟨l, u⟩ := q
    rw [hq] at c2
    have := hb_le_t c2
    have := hb_iv_ok hV.1 hq
    omega
theorem hb_kpf_ok {V : hbV} {U S : Nat → Nat} {ρ : Nat → Int} {C : List (Nat × hbA × hbA)} {wd : va_W} {c a c1 c2 : Nat} {e e' : va_E} {ix va : hbA} {v : Value} (hV : hb_V ρ V) (h : hb_cch V.1.length U S ρ C wd) (hc : wd[c]? = some (a, e)) (ho : ∀ k, k ≠ (ix.2.1 * ρ ix.2.2.1 + ix.2.2.2).toNat → hb_get e' k = hb_get e k) (hj : hb_get e' (ix.2.1 * ρ ix.2.2.1 + ix.2.2.2).toNat = some v) (hv : hb_v V.1.length U S ρ va v) (hp : hb_pair c1 c2 wd) (hk : hb_kpf V C c ix va c1 c2 = true) : hb_pair c1 c2 (wd.set c (a, e')) := by
  intro a1 a2 e1 e2 k x y h1 h2 h3 h4 hx
  unfold hb_kpf at hk
  cases q1 : Nat.beq c1 c with
  | true =>
    rw [q1, cond_true] at hk
    have z1 := hb_lenE q1
    subst z1
    obtain ⟨m1, m2⟩ := hb_and2 hk
    have z2 : c1 ≠ c2 := fun z => by rw [z] at m1; simp at m1
    rw [hb_setS hc] at h1
    cases h1
    rw [hb_setN z2] at h2
    by_cases hz : k = (ix.2.1 * ρ ix.2.2.1 + ix.2.2.2).toNat
    · subst hz
      rw [hj] at h3
      cases h3
      rw [Bool.or_eq_true] at m2
      rcases m2 with m2 | m2
      · have := hb_vlt_ok hV hv m2
        omega
      · exact hb_cge_ok hV h m2 h2 h4
    · rw [ho k hz] at h3
      exact hp _ _ _ _ k x y hc h2 h3 h4 hx
  | false =>
    rw [q1, cond_false] at hk
    have z1 : c ≠ c1 := fun z => by rw [z] at q1; simp at q1
    rw [hb_setN z1] at h1
    cases q2 : Nat.beq c2 c with
    | false =>
      have z2 : c ≠ c2 := fun z => by rw [z] at q2; simp at q2
      rw [hb_setN z2] at h2
      exact hp _ _ _ _ k x y h1 h2 h3 h4 hx
    | true =>
      have z2 := hb_lenE q2
      subst z2
      rw [hb_setS hc] at h2
      cases h2
      rw [q2] at hk
      have hk : (hb_vge V va || hb_clt V C c1 ix) = true := hk
      by_cases hz : k = (ix.2.1 * ρ ix.2.2.1 + ix.2.2.2).toNat
      · subst hz
        rw [hj] at h4
        cases h4
        rw [Bool.or_eq_true] at hk
        rcases hk with m2 | m2
        · exact hb_vge_ok hV hv m2
        · have := hb_clt_ok hV h m2 h1 h3
          omega
      · rw [ho k hz] at h4
        exact hp _ _ _ _ k x y h1 hc h3 h4 hx
theorem hb_cch.upd {V : hbV} {U S : Nat → Nat} {ρ : Nat → Int} {C : List (Nat × hbA × hbA)} {wd : va_W} {c : Nat} {e e' : va_E} {ix va : hbA} {v : Value} (hV : hb_V ρ V) (h : hb_cch V.1.length U S ρ C wd) (hc : wd[c]? = some (U c, e)) (hi : ix.2.2.1 < V.1.length) (h0 : 0 ≤ ix.2.1 * ρ ix.2.2.1 + ix.2.2.2) (ho : ∀ k, k ≠ (ix.2.1 * ρ ix.2.2.1 + ix.2.2.2).toNat → hb_get e' k = hb_get e k) (hj : hb_get e' (ix.2.1 * ρ ix.2.2.1 + ix.2.2.2).toNat = some v) (hv : hb_v V.1.length U S ρ va v) (hva : va.1 ≠ 9) : hb_cch V.1.length U S ρ (hb_wr V C c ix va) (wd.set c (U c, e')) := by
  intro q hq
  rcases List.mem_cons.mp hq with rfl | hq
  · exact Or.inr ⟨hva, hi, e', v, hb_setS hc, h0, hj, hv⟩
  · obtain ⟨m1, m2⟩ := List.mem_filter.mp hq
    rcases h q m1 with ⟨z1, z2⟩ | ⟨ht, h1, e2, v2, h2, h3, h4, h5⟩
    · rw [show Nat.beq q.2.2.1 9 = true by rw [z1]; rfl, cond_true] at m2
      exact Or.inl ⟨z1, hb_kpf_ok hV h hc ho hj hv z2 m2⟩
    · refine Or.inr ⟨ht, ?_⟩
      rw [show Nat.beq q.2.2.1 9 = false by
        cases hz : Nat.beq q.2.2.1 9 with
        | false => rfl
        | true => exact absurd (hb_lenE hz) ht, cond_false] at m2
      by_cases z : c = q.1
      · subst z
        rw [hc] at h2
        cases h2
        rw [Bool.or_eq_true] at m2
        rcases m2 with m2 | m2
        · simp at m2
        · refine ⟨h1, e', v2, hb_setS hc, h3, ?_, h5⟩
          rw [ho _ ?_]
          · exact h4
          · have e3 := hb_apart_ok hV m2
            intro z
            omega
      · exact ⟨h1, e2, v2, by rw [hb_setN z]; exact h2, h3, h4, h5⟩
theorem hb_get_obj {ci : Nat} {fs : List Value} {k : Nat} {v : Value} (hk : k < fs.length) : hb_get (.inr (ci, fs.set k v)) k = some v ∧ ∀ j, j ≠ k → hb_get (.inr (ci, fs.set k v)) j = hb_get (.inr (ci, fs)) j :=
  ⟨List.getElem?_set_self hk, fun j hj => List.getElem?_set_ne (Ne.symm hj)⟩
theorem hb_get_ints {cA n k : Nat} {f : Nat → Int32} {x : Int32} (hk : k < n) : hb_get (.inl (cA, n, .inl (upd f k x))) k = some (.int x) ∧ ∀ j, j ≠ k → hb_get (.inl (cA, n, .inl (upd f k x))) j = hb_get (.inl (cA, n, .inl f)) j := by
  refine ⟨?_, fun j hj => ?_⟩
  · show (if k < n then some (Value.int (upd f k x k)) else none) = _
    rw [if_pos hk, pk_us]
  · show (if j < n then some (Value.int (upd f k x j)) else none) = (if j < n then some (Value.int (f j)) else none)
    rw [pk_un hj]
theorem hb_get_longs {cA n k : Nat} {f : Nat → Int64} {x : Int64} (hk : k < n) : hb_get (.inl (cA, n, .inr (.inl (vp_updL f k x)))) k = some (.long x) ∧ ∀ j, j ≠ k → hb_get (.inl (cA, n, .inr (.inl (vp_updL f k x)))) j = hb_get (.inl (cA, n, .inr (.inl f))) j := by
  refine ⟨?_, fun j hj => ?_⟩
  · show (if k < n then some (Value.long (vp_updL f k x k)) else none) = _
    rw [if_pos hk, pk_uLs]
  · show (if j < n then some (Value.long (vp_updL f k x j)) else none) = (if j < n then some (Value.long (f j)) else none)
    rw [pk_uLn hj]
theorem hb_nar_byte {x : Int32} (h1 : (-128 : Int) ≤ x.toInt) (h2 : x.toInt ≤ (127 : Int)) : vp_nar .byte x = x := by
  rw [vp_nar_byte]
  exact fb_byte (by omega) (by omega)
theorem hb_nar_bool {x : Int32} (h1 : (0 : Int) ≤ x.toInt) (h2 : x.toInt ≤ (1 : Int)) : vp_nar .boolean x = x ∧ narrow .boolean (.int x) = .int x ∧ fits .boolean (.int x) = true := by
  have h : x = 0 ∨ x = 1 := by
    rcases (show x.toInt = 0 ∨ x.toInt = 1 by omega) with q | q
    · exact Or.inl (Int32.toInt_inj.mp (by rw [q]; decide))
    · exact Or.inr (Int32.toInt_inj.mp (by rw [q]; decide))
  rcases h with rfl | rfl
  · exact ⟨by decide, by decide, by decide⟩
  · exact ⟨by decide, by decide, by decide⟩
theorem hb_vpin {i : Int32} {n : Nat} (h : 0 ≤ i.toInt ∧ i.toInt < n) : vp_in i n ∧ i.toNatClampNeg = i.toInt.toNat := ⟨vp_in_iff.mpr h, rfl⟩
/-- what the fields' links say: index, class, field, its type's code (0 int, 1 boolean, 2 long, else not written) -/
def hb_pool (own : String) (cl : List vw_C) (po : List (Nat × Nat × Nat × Nat)) (args : Array Value) (s : State) : Prop := ∀ q ∈ po, ∃ C T N, cl[q.2.1]? = some (C, T, N) ∧ q.2.2.1 < N ∧
  ((Cond.fieldLink own q.1 (T q.2.2.1).1 (T q.2.2.1).2.1 (T q.2.2.1).2.2.1).before args s = true ∨ ∃ host, (Cond.fieldLinkNest own q.1 (T q.2.2.1).1 (T q.2.2.1).2.1 (T q.2.2.1).2.2.1 host).before args s = true) ∧
  (q.2.2.2 = 0 → parseFieldDescriptor (T q.2.2.1).2.2.1 = some .int ∧ (T q.2.2.1).2.2.2 = false) ∧ (q.2.2.2 = 1 → parseFieldDescriptor (T q.2.2.1).2.2.1 = some .boolean ∧ (T q.2.2.1).2.2.2 = false) ∧ (q.2.2.2 = 2 → parseFieldDescriptor (T q.2.2.1).2.2.1 = some .long ∧ (T q.2.2.1).2.2.2 = false)
def hb_tabs (cl : List vw_C) (Ts : List Cond) : Prop := ∀ (ci : Nat) (C : String) (T : u_T) (N : Nat), cl[ci]? = some (C, T, N) → (∀ w ∈ u_ws C T N, w ∈ Ts) ∧ (∃ ty0 : Nat → FieldType, ∀ k, k < N → parseFieldDescriptor (T k).2.2.1 = some (ty0 k)) ∧ (∀ a, a < N → ∀ b, b < N → a ≠ b → (T a).2.1 ≠ (T b).2.1)
def hb_pl (po : List (Nat × Nat × Nat × Nat)) (i : Nat) : Option (Nat × Nat × Nat) := match po with
  | [] => none
  | (j, q) :: r => cond (Nat.beq j i) (some q) (hb_pl r i)
theorem hb_pl_mem {i : Nat} {q : Nat × Nat × Nat} : ∀ {po : List (Nat × Nat × Nat × Nat)}, hb_pl po i = some q → (i, q) ∈ po
  | [], h => by cases h
  | (j, q') :: r, h => by
    unfold hb_pl at h
    cases hj : Nat.beq j i with
    | true =>
      rw [hj] at h
      cases h
      rw [hb_lenE hj]
      exact List.mem_cons_self
    | false =>
      rw [hj] at h
      exact List.mem_cons_of_mem _ (hb_pl_mem h)
section HBM
variable {p : Program} {l : Launch} {e : Env} {R : Room} {s : State} {m : MethodId} {args : Array Value} {below : List Frame} {meth : Method} {c : Code} {Q : State → Prop} {cc : ByteArray} {pc : Nat} {D : va_G} {cl : List vw_C} {H H0 : Heap} {locs : List Loc} {ls : Array Slot} {rest : List Value} {own : String} {Ts : List Cond} {po : List (Nat × Nat × Nat × Nat)} {wd : va_W} {A : Nat → Prop} {a ci k ix fc q0 : Nat} {fs : List Value} {v : Value}
theorem hb_row_get (hx : p.tables.exec = Jvm.exec) (hb : c.code = cc) (hown : s.vm.findClass own = some m.cls) (hts : ∀ w ∈ Ts, w.before args s = true) (hK : va_K D cl [] s) (hpo : hb_pool own cl po args s) (htb : hb_tabs cl Ts) (hq : (ix, ci, k, fc) ∈ po) (hP : va_P D cl wd H) (he : wd[q0]? = some (a, .inr (ci, fs))) (hv : fs[k]? = some v) (hdg : decode cc pc = .ok (.getfield ix, 3))
    (kk : W p l e R s m args below meth c H locs 0 0 Q (F0 m (pc + 3) ls (v :: rest))) : W p l e R s m args below meth c H locs 0 0 Q (F0 m pc ls (.ref a :: rest)) := by
  obtain ⟨C, T, N, h1, h2, h3, -⟩ := hpo _ hq
  obtain ⟨g1, -, -⟩ := htb _ _ _ _ h1
  rcases h3 with h3 | ⟨host, h3⟩
  · exact va_get hx hb hts g1 hown hK hP q0 he h1 k h2 h3 (fun _ h => h) hv hdg kk
  · exact va_getN hx hb hts g1 hown hK hP q0 he h1 k h2 h3 (fun _ h => h) hv hdg kk
theorem hb_row_put {ty : FieldType} (hx : p.tables.exec = Jvm.exec) (hb : c.code = cc) (hown : s.vm.findClass own = some m.cls) (hts : ∀ w ∈ Ts, w.before args s = true) (hK : va_K D cl [] s) (hpo : hb_pool own cl po args s) (htb : hb_tabs cl Ts) (hq : (ix, ci, k, fc) ∈ po) (hP : va_P D cl wd H) (hD : va_D A wd) (hS : va_S A H0 H locs) (he : wd[q0]? = some (a, .inr (ci, fs)))
    (hty : (fc = 0 ∧ ty = .int) ∨ (fc = 1 ∧ ty = .boolean) ∨ (fc = 2 ∧ ty = .long)) (hn : narrow ty v = v) (hf : fits ty v = true) (hl : k < fs.length) (hdg : decode cc pc = .ok (.putfield ix, 3))
    (kk : ∀ (H1 : Heap) (locs1 : List Loc), va_P D cl (wd.set q0 (a, .inr (ci, fs.set k v))) H1 → va_D A (wd.set q0 (a, .inr (ci, fs.set k v))) → va_S A H0 H1 locs1 → W p l e R s m args below meth c H1 locs1 0 0 Q (F0 m (pc + 3) ls rest)) : W p l e R s m args below meth c H locs 0 0 Q (F0 m pc ls (v :: .ref a :: rest)) := by
  obtain ⟨C, T, N, h1, h2, h3, h4, h5, h6⟩ := hpo _ hq
  obtain ⟨g1, ⟨ty0, g2⟩, g3⟩ := htb _ _ _ _ h1
  have hd : parseFieldDescriptor (T k).2.2.1 = some ty ∧ (T k).2.2.2 = false := by
    rcases hty with ⟨q1, q2⟩ | ⟨q1, q2⟩ | ⟨q1, q2⟩
    · rw [q2]; exact h4 q1
    · rw [q2]; exact h5 q1
    · rw [q2]; exact h6 q1
  rcases h3 with h3 | ⟨host, h3⟩
  · exact va_put hx hb hts g1 ty0 g2 g3 hown hK hP hD hS q0 he h1 k h2 h3 (fun _ h => h) hd.2 hd.1 hn hf hl hdg kk
  · exact va_putN hx hb hts g1 ty0 g2 g3 hown hK hP hD hS q0 he h1 k h2 h3 (fun _ h => h) hd.2 hd.1 hn hf hl hdg kk
theorem hb_Karr {cA : ClassId} {ty : FieldType} (hK : va_K D cl [] s) (h1 : ArrOfT s cA ty) (h2 : va_RA s cA ty) : va_K D cl [(cA, ty)] s := by
  refine ⟨hK.1, fun k q hk => ?_⟩
  have hz : k < 1 := (List.getElem?_eq_some_iff.mp hk).1
  rw [show k = 0 by omega] at hk
  cases hk
  exact ⟨h1, h2⟩
end HBM
