/-! hb_: instructions that touch no cell, one by one -/
abbrev hb_w (p : Program) (l : Launch) (e : Env) (R : Room) (s : State) (m : MethodId) (args : Array Value) (below : List Frame) (meth : Method) (c : Code) (Q : State → Prop) : Heap → List Loc → JFrame → Prop := fun H locs g => W p l e R s m args below meth c H locs 0 0 Q g
section HBO
variable {p : Program} {l : Launch} {e : Env} {R : Room} {s : State} {m : MethodId} {args : Array Value} {below : List Frame} {meth : Method} {c : Code} {Q : State → Prop} {cc : ByteArray} {pc : Nat} {X : hbX} {V : hbV} {L : List (Nat × hbA)} {S : List hbA} {C : List (Nat × hbA × hbA)}
theorem hb_i_bin {a b : hbA} {r : hbV × hbA} {g : Int32 → Int32 → Int32} (ha : Nat.beq a.1 0 = true) (hb : Nat.beq b.1 0 = true)
    (spec : ∀ (ρ : Nat → Int) (x y : Int32), hb_V ρ V → 0 < V.1.length → a.2.2.1 < V.1.length → b.2.2.1 < V.1.length → x.toInt = a.2.1 * ρ a.2.2.1 + a.2.2.2 → y.toInt = b.2.1 * ρ b.2.2.1 + b.2.2.2 → hb_ok V ρ r 0 (g x y).toInt ∧
      ∀ (ls : Array Slot) (rest : List Value) (H : Heap) (locs : List Loc), W p l e R s m args below meth c H locs 0 0 Q (F0 m (pc + 1) ls (.int (g x y) :: rest)) → W p l e R s m args below meth c H locs 0 0 Q (F0 m pc ls (.int y :: .int x :: rest)))
    (hJ : hb_J X (hb_w p l e R s m args below meth c Q) m (r.1, L, r.2 :: S, C) (pc + 1)) : hb_J X (hb_w p l e R s m args below meth c Q) m (V, L, b :: a :: S, C) pc := by
  intro ρ wd H locs ls st hs hh
  obtain ⟨v, st1, rfl, h1, hs1⟩ := hs.pop
  obtain ⟨u, st2, rfl, h2, hs2⟩ := hs1.pop
  obtain ⟨kb, y, rfl, hy⟩ := h1.int hb
  obtain ⟨ka, x, rfl, hx⟩ := h2.int ha
  obtain ⟨ok, row⟩ := spec ρ x y hs2.1 hs2.2.1.1 ka kb hx hy
  obtain ⟨ρ', hs3⟩ := hs2.pushI ok
  exact row ls st2 H locs (hJ ρ' wd H locs ls _ hs3 hh)
theorem hb_i_binL {a b : hbA} {r : hbV × hbA} {g : Int64 → Int64 → Int64} (ha : Nat.beq a.1 1 = true) (hb : Nat.beq b.1 1 = true)
    (spec : ∀ (ρ : Nat → Int) (x y : Int64), hb_V ρ V → 0 < V.1.length → a.2.2.1 < V.1.length → b.2.2.1 < V.1.length → x.toInt = a.2.1 * ρ a.2.2.1 + a.2.2.2 → y.toInt = b.2.1 * ρ b.2.2.1 + b.2.2.2 → hb_ok V ρ r 1 (g x y).toInt ∧
      ∀ (ls : Array Slot) (rest : List Value) (H : Heap) (locs : List Loc), W p l e R s m args below meth c H locs 0 0 Q (F0 m (pc + 1) ls (.long (g x y) :: rest)) → W p l e R s m args below meth c H locs 0 0 Q (F0 m pc ls (.long y :: .long x :: rest)))
    (hJ : hb_J X (hb_w p l e R s m args below meth c Q) m (r.1, L, r.2 :: S, C) (pc + 1)) : hb_J X (hb_w p l e R s m args below meth c Q) m (V, L, b :: a :: S, C) pc := by
  intro ρ wd H locs ls st hs hh
  obtain ⟨v, st1, rfl, h1, hs1⟩ := hs.pop
  obtain ⟨u, st2, rfl, h2, hs2⟩ := hs1.pop
  obtain ⟨kb, y, rfl, hy⟩ := h1.long hb
  obtain ⟨ka, x, rfl, hx⟩ := h2.long ha
  obtain ⟨ok, row⟩ := spec ρ x y hs2.1 hs2.2.1.1 ka kb hx hy
  obtain ⟨ρ', hs3⟩ := hs2.pushL ok
  exact row ls st2 H locs (hJ ρ' wd H locs ls _ hs3 hh)
theorem hb_i_shL {a b : hbA} {r : hbV × hbA} {g : Int64 → Int32 → Int64} (ha : Nat.beq a.1 1 = true) (hb : Nat.beq b.1 0 = true)
    (spec : ∀ (ρ : Nat → Int) (x : Int64) (y : Int32), hb_V ρ V → hb_ok V ρ r 1 (g x y).toInt ∧
      ∀ (ls : Array Slot) (rest : List Value) (H : Heap) (locs : List Loc), W p l e R s m args below meth c H locs 0 0 Q (F0 m (pc + 1) ls (.long (g x y) :: rest)) → W p l e R s m args below meth c H locs 0 0 Q (F0 m pc ls (.int y :: .long x :: rest)))
    (hJ : hb_J X (hb_w p l e R s m args below meth c Q) m (r.1, L, r.2 :: S, C) (pc + 1)) : hb_J X (hb_w p l e R s m args below meth c Q) m (V, L, b :: a :: S, C) pc := by
  intro ρ wd H locs ls st hs hh
  obtain ⟨v, st1, rfl, h1, hs1⟩ := hs.pop
  obtain ⟨u, st2, rfl, h2, hs2⟩ := hs1.pop
  obtain ⟨kb, y, rfl, hy⟩ := h1.int hb
  obtain ⟨ka, x, rfl, hx⟩ := h2.long ha
  obtain ⟨ok, row⟩ := spec ρ x y hs2.1
  obtain ⟨ρ', hs3⟩ := hs2.pushL ok
  exact row ls st2 H locs (hJ ρ' wd H locs ls _ hs3 hh)
theorem hb_i_un {a : hbA} {r : hbV × hbA} {g : Int32 → Int32} (ha : Nat.beq a.1 0 = true)
    (spec : ∀ (ρ : Nat → Int) (x : Int32), hb_V ρ V → a.2.2.1 < V.1.length → x.toInt = a.2.1 * ρ a.2.2.1 + a.2.2.2 → hb_ok V ρ r 0 (g x).toInt)
    (row : ∀ (x : Int32) (ls : Array Slot) (rest : List Value) (H : Heap) (locs : List Loc), W p l e R s m args below meth c H locs 0 0 Q (F0 m (pc + 1) ls (.int (g x) :: rest)) → W p l e R s m args below meth c H locs 0 0 Q (F0 m pc ls (.int x :: rest)))
    (hJ : hb_J X (hb_w p l e R s m args below meth c Q) m (r.1, L, r.2 :: S, C) (pc + 1)) : hb_J X (hb_w p l e R s m args below meth c Q) m (V, L, a :: S, C) pc := by
  intro ρ wd H locs ls st hs hh
  obtain ⟨v, st1, rfl, h1, hs1⟩ := hs.pop
  obtain ⟨ka, x, rfl, hx⟩ := h1.int ha
  obtain ⟨ρ', hs3⟩ := hs1.pushI (spec ρ x hs1.1 ka hx)
  exact row x ls st1 H locs (hJ ρ' wd H locs ls _ hs3 hh)
theorem hb_i_i2l {a : hbA} (hx : p.tables.exec = Jvm.exec) (hb : c.code = cc) (hdg : decode cc pc = .ok (.i2l, 1)) (ha : Nat.beq a.1 0 = true)
    (hJ : hb_J X (hb_w p l e R s m args below meth c Q) m (V, L, (1, a.2) :: S, C) (pc + 1)) : hb_J X (hb_w p l e R s m args below meth c Q) m (V, L, a :: S, C) pc := by
  intro ρ wd H locs ls st hs hh
  obtain ⟨v, st1, rfl, h1, hs1⟩ := hs.pop
  obtain ⟨ka, x, rfl, hx'⟩ := h1.int ha
  exact lv_i2l hx hb hdg rfl (hJ ρ wd H locs ls _ (hs1.push (hb_v.ofL rfl ka (by rw [Int32.toInt_toInt64]; exact hx'))) hh)
theorem hb_i_l2i {a : hbA} (hx : p.tables.exec = Jvm.exec) (hb : c.code = cc) (hdg : decode cc pc = .ok (.l2i, 1)) (ha : Nat.beq a.1 1 = true)
    (hJ : hb_J X (hb_w p l e R s m args below meth c Q) m ((hb_res V 0 (some a.2) none).1, L, (hb_res V 0 (some a.2) none).2 :: S, C) (pc + 1)) : hb_J X (hb_w p l e R s m args below meth c Q) m (V, L, a :: S, C) pc := by
  intro ρ wd H locs ls st hs hh
  obtain ⟨v, st1, rfl, h1, hs1⟩ := hs.pop
  obtain ⟨ka, x, rfl, hx'⟩ := h1.long ha
  have ok : hb_ok V ρ (hb_res V 0 (some a.2) none) 0 x.toInt32.toInt := hb_res_ok (w := x.toInt) hs1.1 (fun m k c h => by rw [Option.some.inj h] at hx'; exact hx') (fun _ _ h => by cases h) (fun q1 q2 => by
    have q1 : (-2147483648 : Int) ≤ x.toInt := q1
    have q2 : x.toInt ≤ (2147483647 : Int) := q2
    rw [Int64.toInt_toInt32, fb_bmod (by omega) (by omega)]) (hb_rng0 _)
  obtain ⟨ρ', hs3⟩ := hs1.pushI ok
  exact lv_l2i hx hb hdg rfl (hJ ρ' wd H locs ls _ hs3 hh)
/-- a value goes onto the stack -/
theorem hb_i_push {b : hbA} {v : Value} {d : Nat} (hv : ∀ (n : Nat) (U T : Nat → Nat) (ρ : Nat → Int), 0 < n → hb_v n U T ρ b v)
    (row : ∀ (ls : Array Slot) (rest : List Value) (H : Heap) (locs : List Loc), W p l e R s m args below meth c H locs 0 0 Q (F0 m (pc + d) ls (v :: rest)) → W p l e R s m args below meth c H locs 0 0 Q (F0 m pc ls rest))
    (hJ : hb_J X (hb_w p l e R s m args below meth c Q) m (V, L, b :: S, C) (pc + d)) : hb_J X (hb_w p l e R s m args below meth c Q) m (V, L, S, C) pc := by
  intro ρ wd H locs ls st hs hh
  exact row ls st H locs (hJ ρ wd H locs ls _ (hs.push (hv _ _ _ _ hs.2.1.1)) hh)
theorem hb_kI {n : Nat} {U T : Nat → Nat} {ρ : Nat → Int} {x : Int32} {z : Int} (h : x.toInt = z) (hn : 0 < n) : hb_v n U T ρ (0, 0, 0, z) (.int x) := ⟨hn, x, rfl, by rw [h]; omega⟩
theorem hb_kL {n : Nat} {U T : Nat → Nat} {ρ : Nat → Int} {x : Int64} {z : Int} (h : x.toInt = z) (hn : 0 < n) : hb_v n U T ρ (1, 0, 0, z) (.long x) := ⟨hn, x, rfl, by rw [h]; omega⟩
/-- a local goes onto the stack -/
theorem hb_i_load {i d : Nat} {a : hbA} (hl : hb_lk L i = some a)
    (row : ∀ (v : Value) (n : Nat) (U T : Nat → Nat) (ρ : Nat → Int) (ls : Array Slot) (rest : List Value) (H : Heap) (locs : List Loc), hb_v n U T ρ a v → ls[i]? = some (.val v) → W p l e R s m args below meth c H locs 0 0 Q (F0 m (pc + d) ls (v :: rest)) → W p l e R s m args below meth c H locs 0 0 Q (F0 m pc ls rest))
    (hJ : hb_J X (hb_w p l e R s m args below meth c Q) m (V, L, a :: S, C) (pc + d)) : hb_J X (hb_w p l e R s m args below meth c Q) m (V, L, S, C) pc := by
  intro ρ wd H locs ls st hs hh
  obtain ⟨v, h1, h2⟩ := hs.loc hl
  exact row v _ _ _ ρ ls st H locs h2 h1 (hJ ρ wd H locs ls _ (hs.push h2) hh)
/-- the stack's top goes into a local -/
theorem hb_i_store1 {i d : Nat} {a : hbA} (hi : i < X.2.2.2.2.2.1)
    (row : ∀ (v : Value) (n : Nat) (U T : Nat → Nat) (ρ : Nat → Int) (ls : Array Slot) (lv : List (Nat × Value)) (rest : List Value) (H : Heap) (locs : List Loc), hb_v n U T ρ a v → lv_has ls X.2.2.2.2.2.1 lv →
      (∀ ls' : Array Slot, lv_has ls' X.2.2.2.2.2.1 ((i, v) :: lv.filter (fun q => !(q.1 == i) && !(q.1 + 1 == i && q.2.category == 2))) → W p l e R s m args below meth c H locs 0 0 Q (F0 m (pc + d) ls' rest)) → W p l e R s m args below meth c H locs 0 0 Q (F0 m pc ls (v :: rest)))
    (hJ : hb_J X (hb_w p l e R s m args below meth c Q) m (V, hb_st1 L i a, S, C) (pc + d)) : hb_J X (hb_w p l e R s m args below meth c Q) m (V, L, a :: S, C) pc := by
  intro ρ wd H locs ls st hs hh
  obtain ⟨v, st1, rfl, h1, hs1⟩ := hs.pop
  obtain ⟨g1, g2, g3, g4, g5⟩ := hs1
  obtain ⟨lv, q1, q2⟩ := hb_loc.list g3
  exact row v _ _ _ ρ ls lv st1 H locs h1 q1 (fun ls' h' => hJ ρ wd H locs ls' _ ⟨g1, g2, hb_store1 (ls := ls) q2 h1 h', g4, g5⟩ hh)
theorem hb_i_store2 {i d : Nat} {a : hbA} (hi : i + 1 < X.2.2.2.2.2.1)
    (row : ∀ (v : Value) (n : Nat) (U T : Nat → Nat) (ρ : Nat → Int) (ls : Array Slot) (lv : List (Nat × Value)) (rest : List Value) (H : Heap) (locs : List Loc), hb_v n U T ρ a v → lv_has ls X.2.2.2.2.2.1 lv →
      (∀ ls' : Array Slot, lv_has ls' X.2.2.2.2.2.1 ((i, v) :: lv.filter (fun q => !(q.1 == i) && (!(q.1 == i + 1) && !(q.1 + 1 == i && q.2.category == 2)))) → W p l e R s m args below meth c H locs 0 0 Q (F0 m (pc + d) ls' rest)) → W p l e R s m args below meth c H locs 0 0 Q (F0 m pc ls (v :: rest)))
    (hJ : hb_J X (hb_w p l e R s m args below meth c Q) m (V, hb_st2 L i a, S, C) (pc + d)) : hb_J X (hb_w p l e R s m args below meth c Q) m (V, L, a :: S, C) pc := by
  intro ρ wd H locs ls st hs hh
  obtain ⟨v, st1, rfl, h1, hs1⟩ := hs.pop
  obtain ⟨g1, g2, g3, g4, g5⟩ := hs1
  obtain ⟨lv, q1, q2⟩ := hb_loc.list g3
  exact row v _ _ _ ρ ls lv st1 H locs h1 q1 (fun ls' h' => hJ ρ wd H locs ls' _ ⟨g1, g2, hb_store2 (ls := ls) q2 h1 h', g4, g5⟩ hh)
theorem hb_add32 {ρ : Nat → Int} {V : hbV} {a b : hbA} {x y : Int32} (hV : hb_V ρ V) (hx : x.toInt = a.2.1 * ρ a.2.2.1 + a.2.2.2) (hy : y.toInt = b.2.1 * ρ b.2.2.1 + b.2.2.2) : hb_ok V ρ (hb_add V 0 a b) 0 (x + y).toInt :=
  hb_add_ok hV hx hy (fun q1 q2 => by
    have q1 : (-2147483648 : Int) ≤ x.toInt + y.toInt := q1
    have q2 : x.toInt + y.toInt ≤ (2147483647 : Int) := q2
    exact fb_addI (by omega) (by omega)) (hb_rng0 _)
theorem hb_addS32 {ρ : Nat → Int} {V : hbV} {a b : hbA} {x y : Int32} (hV : hb_V ρ V) (hx : x.toInt = a.2.1 * ρ a.2.2.1 + a.2.2.2) (hy : y.toInt = b.2.1 * ρ b.2.2.1 + b.2.2.2) : hb_ok V ρ (hb_addS V 0 a b) 0 (x + y).toInt :=
  hb_addS_ok hV hx hy (fun q1 q2 => by
    have q1 : (-2147483648 : Int) ≤ x.toInt + y.toInt := q1
    have q2 : x.toInt + y.toInt ≤ (2147483647 : Int) := q2
    exact fb_addI (by omega) (by omega)) (hb_rng0 _)
theorem hb_sub32 {ρ : Nat → Int} {V : hbV} {a b : hbA} {x y : Int32} (hV : hb_V ρ V) (hx : x.toInt = a.2.1 * ρ a.2.2.1 + a.2.2.2) (hy : y.toInt = b.2.1 * ρ b.2.2.1 + b.2.2.2) : hb_ok V ρ (hb_sub V 0 a b) 0 (x - y).toInt :=
  hb_sub_ok hV hx hy (fun q1 q2 => by
    have q1 : (-2147483648 : Int) ≤ x.toInt - y.toInt := q1
    have q2 : x.toInt - y.toInt ≤ (2147483647 : Int) := q2
    exact fb_subI (by omega) (by omega)) (hb_rng0 _)
theorem hb_mul32 {ρ : Nat → Int} {V : hbV} {a b : hbA} {x y : Int32} (hV : hb_V ρ V) (hx : x.toInt = a.2.1 * ρ a.2.2.1 + a.2.2.2) (hy : y.toInt = b.2.1 * ρ b.2.2.1 + b.2.2.2) : hb_ok V ρ (hb_mul V 0 a b) 0 (x * y).toInt :=
  hb_mul_ok hV hx hy (fun q1 q2 => by
    have q1 : (-2147483648 : Int) ≤ x.toInt * y.toInt := q1
    have q2 : x.toInt * y.toInt ≤ (2147483647 : Int) := q2
    exact fb_mulI (by omega) (by omega)) (hb_rng0 _)
theorem hb_add64 {ρ : Nat → Int} {V : hbV} {a b : hbA} {x y : Int64} (hV : hb_V ρ V) (hx : x.toInt = a.2.1 * ρ a.2.2.1 + a.2.2.2) (hy : y.toInt = b.2.1 * ρ b.2.2.1 + b.2.2.2) : hb_ok V ρ (hb_add V 1 a b) 1 (x + y).toInt :=
  hb_add_ok hV hx hy (fun q1 q2 => by
    have q1 : (-9223372036854775808 : Int) ≤ x.toInt + y.toInt := q1
    have q2 : x.toInt + y.toInt ≤ (9223372036854775807 : Int) := q2
    exact fb_addL (by omega) (by omega)) (hb_rng1 _)
theorem hb_addS64 {ρ : Nat → Int} {V : hbV} {a b : hbA} {x y : Int64} (hV : hb_V ρ V) (hx : x.toInt = a.2.1 * ρ a.2.2.1 + a.2.2.2) (hy : y.toInt = b.2.1 * ρ b.2.2.1 + b.2.2.2) : hb_ok V ρ (hb_addS V 1 a b) 1 (x + y).toInt :=
  hb_addS_ok hV hx hy (fun q1 q2 => by
    have q1 : (-9223372036854775808 : Int) ≤ x.toInt + y.toInt := q1
    have q2 : x.toInt + y.toInt ≤ (9223372036854775807 : Int) := q2
    exact fb_addL (by omega) (by omega)) (hb_rng1 _)
theorem hb_sub64 {ρ : Nat → Int} {V : hbV} {a b : hbA} {x y : Int64} (hV : hb_V ρ V) (hx : x.toInt = a.2.1 * ρ a.2.2.1 + a.2.2.2) (hy : y.toInt = b.2.1 * ρ b.2.2.1 + b.2.2.2) : hb_ok V ρ (hb_sub V 1 a b) 1 (x - y).toInt :=
  hb_sub_ok hV hx hy (fun q1 q2 => by
    have q1 : (-9223372036854775808 : Int) ≤ x.toInt - y.toInt := q1
    have q2 : x.toInt - y.toInt ≤ (9223372036854775807 : Int) := q2
    exact fb_subL (by omega) (by omega)) (hb_rng1 _)
theorem hb_mul64 {ρ : Nat → Int} {V : hbV} {a b : hbA} {x y : Int64} (hV : hb_V ρ V) (hx : x.toInt = a.2.1 * ρ a.2.2.1 + a.2.2.2) (hy : y.toInt = b.2.1 * ρ b.2.2.1 + b.2.2.2) : hb_ok V ρ (hb_mul V 1 a b) 1 (x * y).toInt :=
  hb_mul_ok hV hx hy (fun q1 q2 => by
    have q1 : (-9223372036854775808 : Int) ≤ x.toInt * y.toInt := q1
    have q2 : x.toInt * y.toInt ≤ (9223372036854775807 : Int) := q2
    exact fb_mulL (by omega) (by omega)) (hb_rng1 _)
theorem hb_any32 {ρ : Nat → Int} {V : hbV} (hV : hb_V ρ V) (x : Int32) : hb_ok V ρ (hb_bnd V 0 none) 0 x.toInt := hb_bnd_ok hV (fun _ _ h => by cases h) (hb_rng0 _)
theorem hb_any64 {ρ : Nat → Int} {V : hbV} (hV : hb_V ρ V) (x : Int64) : hb_ok V ρ (hb_bnd V 1 none) 1 x.toInt := hb_bnd_ok hV (fun _ _ h => by cases h) (hb_rng1 _)
end HBO
