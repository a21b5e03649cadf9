/-! hb_: what an abstract state says of the machine's -/
/-- a cell's kind: form (0 an object of class ci, 1 int[], 2 byte[], 3 boolean[], 4 long[], 5 an array of references), ci, how many places, what they hold (by their number modulo the list's length) -/
abbrev hbT : Type := Nat × Int × Int
abbrev hbK : Type := Nat × Nat × Nat × List hbT
/-- numbers, locals, stack, what is known of places of cells -/
abbrev hbS : Type := hbV × List (Nat × hbA) × List hbA × List (Nat × hbA × hbA)
/-- state, world's tables, kinds, footprint and written cells, addresses of cells and of texts, first numbers, first world, locals, own addresses -/
abbrev hbX : Type := (State × va_G × List vw_C) × (List hbK × List Nat × List Nat) × ((Nat → Nat) × (Nat → Nat)) × ((Nat → Int) × Nat) × (va_W × Nat × (Nat → Prop))
def hb_acts : List Int := ((List.range 8).flatMap fun h => (List.range 5).flatMap fun p => (List.range 20).map fun n => Int.ofNat (1000 * h + 100 * p + n)) ++ ((List.range 5).flatMap fun p => (List.range 20).map fun n => Int.ofNat (100000 + 100 * p + n))
def hb_v (n : Nat) (U S : Nat → Nat) (ρ : Nat → Int) (a : hbA) (v : Value) : Prop := match a with
  | (0, m, k, c) => k < n ∧ ∃ x : Int32, v = .int x ∧ x.toInt = m * ρ k + c
  | (1, m, k, c) => k < n ∧ ∃ x : Int64, v = .long x ∧ x.toInt = m * ρ k + c
  | (2, _, k, _) => v = .ref (U k)
  | (3, _, _, _) => v = .null
  | (_, _, k, _) => v = .ref (S k)
theorem hb_v.ext {n n' : Nat} {U S : Nat → Nat} {ρ ρ' : Nat → Int} {a : hbA} {v : Value} (h : hb_v n U S ρ a v) (hn : n ≤ n') (ha : hb_ag n ρ ρ') : hb_v n' U S ρ' a v := by
  obtain ⟨t, m, k, c⟩ := a
  match t, h with
  | 0, ⟨h1, x, h2, h3⟩ => exact ⟨Nat.lt_of_lt_of_le h1 hn, x, h2, by rw [h3, ha k h1]⟩
  | 1, ⟨h1, x, h2, h3⟩ => exact ⟨Nat.lt_of_lt_of_le h1 hn, x, h2, by rw [h3, ha k h1]⟩
  | 2, h => exact h
  | 3, h => exact h
  | t + 4, h => exact h
def hb_cat (a : hbA) : Nat := match a.1 with
  | 1 => 2
  | _ => 1
theorem hb_v.cat {n : Nat} {U S : Nat → Nat} {ρ : Nat → Int} {a : hbA} {v : Value} (h : hb_v n U S ρ a v) : v.category = hb_cat a := by
  obtain ⟨t, m, k, c⟩ := a
  match t, h with
  | 0, ⟨h1, x, h2, h3⟩ => rw [h2]; rfl
  | 1, ⟨h1, x, h2, h3⟩ => rw [h2]; rfl
  | 2, h => rw [show v = _ from h]; rfl
  | 3, h => rw [show v = _ from h]; rfl
  | t + 4, h => rw [show v = _ from h]; rfl
theorem hb_v.int {n : Nat} {U S : Nat → Nat} {ρ : Nat → Int} {a : hbA} {v : Value} (h : hb_v n U S ρ a v) (ht : Nat.beq a.1 0 = true) : a.2.2.1 < n ∧ ∃ x : Int32, v = .int x ∧ x.toInt = a.2.1 * ρ a.2.2.1 + a.2.2.2 := by
  obtain ⟨t, m, k, c⟩ := a
  have e : t = 0 := Nat.eq_of_beq_eq_true ht
  subst e
  exact h
theorem hb_v.long {n : Nat} {U S : Nat → Nat} {ρ : Nat → Int} {a : hbA} {v : Value} (h : hb_v n U S ρ a v) (ht : Nat.beq a.1 1 = true) : a.2.2.1 < n ∧ ∃ x : Int64, v = .long x ∧ x.toInt = a.2.1 * ρ a.2.2.1 + a.2.2.2 := by
  obtain ⟨t, m, k, c⟩ := a
  have e : t = 1 := Nat.eq_of_beq_eq_true ht
  subst e
  exact h
theorem hb_v.ref {n : Nat} {U S : Nat → Nat} {ρ : Nat → Int} {a : hbA} {v : Value} (h : hb_v n U S ρ a v) (ht : Nat.beq a.1 2 = true) : v = .ref (U a.2.2.1) := by
  obtain ⟨t, m, k, c⟩ := a
  have e : t = 2 := Nat.eq_of_beq_eq_true ht
  subst e
  exact h
theorem hb_v.ofI {n : Nat} {U S : Nat → Nat} {ρ : Nat → Int} {a : hbA} {x : Int32} (ht : a.1 = 0) (hk : a.2.2.1 < n) (hx : x.toInt = a.2.1 * ρ a.2.2.1 + a.2.2.2) : hb_v n U S ρ a (.int x) := by
  obtain ⟨t, m, k, c⟩ := a
  have e : t = 0 := ht
  subst e
  exact ⟨hk, x, rfl, hx⟩
theorem hb_v.ofL {n : Nat} {U S : Nat → Nat} {ρ : Nat → Int} {a : hbA} {x : Int64} (ht : a.1 = 1) (hk : a.2.2.1 < n) (hx : x.toInt = a.2.1 * ρ a.2.2.1 + a.2.2.2) : hb_v n U S ρ a (.long x) := by
  obtain ⟨t, m, k, c⟩ := a
  have e : t = 1 := ht
  subst e
  exact ⟨hk, x, rfl, hx⟩
def hb_loc (n : Nat) (U S : Nat → Nat) (ρ : Nat → Int) (nL : Nat) (L : List (Nat × hbA)) (ls : Array Slot) : Prop := ls.size = nL ∧ lv_wf ls ∧ ∀ q ∈ L, ∃ v, ls[q.1]? = some (.val v) ∧ hb_v n U S ρ q.2 v
def hb_stk (n : Nat) (U S : Nat → Nat) (ρ : Nat → Int) : List hbA → List Value → Prop
  | [], [] => True
  | a :: as, v :: vs => hb_v n U S ρ a v ∧ hb_stk n U S ρ as vs
  | _, _ => False
def hb_get (e : va_E) (k : Nat) : Option Value := match e with
  | .inr (_, fs) => fs[k]?
  | .inl (_, n, .inl f) => if k < n then some (.int (f k)) else none
  | .inl (_, n, .inr (.inl f)) => if k < n then some (.long (f k)) else none
  | .inl (_, n, .inr (.inr (.inr (.inr g)))) => if k < n then some (va_rf (g k)) else none
  | _ => none
/-- two arrays, place by place: where the first is not below nought, the second is not either -/
def hb_pair (c1 c2 : Nat) (wd : va_W) : Prop := ∀ (a1 a2 : Nat) (e1 e2 : va_E) (k : Nat) (x y : Int32), wd[c1]? = some (a1, e1) → wd[c2]? = some (a2, e2) → hb_get e1 k = some (.int x) → hb_get e2 k = some (.int y) → 0 ≤ x.toInt → 0 ≤ y.toInt
/-- one thing that is known of a place -/
def hb_cf (n : Nat) (U S : Nat → Nat) (ρ : Nat → Int) (q : Nat × hbA × hbA) (wd : va_W) : Prop :=
  q.2.1.2.2.1 < n ∧ ∃ (e : va_E) (v : Value), wd[q.1]? = some (U q.1, e) ∧ 0 ≤ q.2.1.2.1 * ρ q.2.1.2.2.1 + q.2.1.2.2.2 ∧ hb_get e (q.2.1.2.1 * ρ q.2.1.2.2.1 + q.2.1.2.2.2).toNat = some v ∧ hb_v n U S ρ q.2.2 v
/-- what is known: places, and pairs of arrays (tag 9) -/
def hb_cch (n : Nat) (U S : Nat → Nat) (ρ : Nat → Int) (C : List (Nat × hbA × hbA)) (wd : va_W) : Prop :=
  ∀ q ∈ C, (q.2.2.1 = 9 ∧ hb_pair q.1 q.2.1.2.2.2.toNat wd) ∨ (q.2.2.1 ≠ 9 ∧ hb_cf n U S ρ q wd)
theorem hb_cch.pl {n : Nat} {U S : Nat → Nat} {ρ : Nat → Int} {C : List (Nat × hbA × hbA)} {wd : va_W} (h : hb_cch n U S ρ C wd) {q : Nat × hbA × hbA} (hq : q ∈ C) (ht : q.2.2.1 ≠ 9) : hb_cf n U S ρ q wd := by
  rcases h q hq with z | z
  · exact absurd z.1 ht
  · exact z.2
theorem hb_loc.ext {n n' : Nat} {U S : Nat → Nat} {ρ ρ' : Nat → Int} {nL : Nat} {L : List (Nat × hbA)} {ls : Array Slot} (h : hb_loc n U S ρ nL L ls) (hn : n ≤ n') (ha : hb_ag n ρ ρ') : hb_loc n' U S ρ' nL L ls :=
  ⟨h.1, h.2.1, fun q hq => by obtain ⟨v, h1, h2⟩ := h.2.2 q hq; exact ⟨v, h1, h2.ext hn ha⟩⟩
theorem hb_stk.ext {n n' : Nat} {U S : Nat → Nat} {ρ ρ' : Nat → Int} (hn : n ≤ n') (ha : hb_ag n ρ ρ') : ∀ {as : List hbA} {vs : List Value}, hb_stk n U S ρ as vs → hb_stk n' U S ρ' as vs
  | [], [], _ => trivial
  | _ :: _, _ :: _, h => ⟨h.1.ext hn ha, hb_stk.ext hn ha h.2⟩
  | [], _ :: _, h => h.elim
  | _ :: _, [], h => h.elim
theorem hb_cch.ext {n n' : Nat} {U S : Nat → Nat} {ρ ρ' : Nat → Int} {C : List (Nat × hbA × hbA)} {wd : va_W} (h : hb_cch n U S ρ C wd) (hn : n ≤ n') (ha : hb_ag n ρ ρ') : hb_cch n' U S ρ' C wd := fun q hq => by
  rcases h q hq with z | ⟨ht, h1, e, v, h2, h3, h4, h5⟩
  · exact Or.inl z
  refine Or.inr ⟨ht, Nat.lt_of_lt_of_le h1 hn, e, v, h2, ?_, ?_, h5.ext hn ha⟩
  · rw [ha _ h1]; exact h3
  · rw [ha _ h1]; exact h4
theorem hb_stk.cons {n : Nat} {U S : Nat → Nat} {ρ : Nat → Int} {a : hbA} {as : List hbA} {vs : List Value} (h : hb_stk n U S ρ (a :: as) vs) : ∃ v vs', vs = v :: vs' ∧ hb_v n U S ρ a v ∧ hb_stk n U S ρ as vs' := by
  cases vs with
  | nil => exact h.elim
  | cons v vs' => exact ⟨v, vs', rfl, h.1, h.2⟩
theorem hb_stk.nil {n : Nat} {U S : Nat → Nat} {ρ : Nat → Int} {vs : List Value} (h : hb_stk n U S ρ [] vs) : vs = [] := by
  cases vs with
  | nil => rfl
  | cons v vs' => exact h.elim
def hb_ty (U : Nat → Nat) (ty : hbT) (v : Value) : Prop := match ty with
  | (0, lo, hi) => ∃ x : Int32, v = .int x ∧ lo ≤ x.toInt ∧ x.toInt ≤ hi
  | (1, lo, hi) => ∃ x : Int64, v = .long x ∧ lo ≤ x.toInt ∧ x.toInt ≤ hi
  | (2, c, _) => v = .ref (U c.toNat)
  | (_, _, _) => ∃ x : Int32, v = .int x ∧ x.toInt ∈ hb_acts
def hb_tyAt (kd : hbK) (k : Nat) : Option hbT := kd.2.2.2[k % kd.2.2.2.length]?
def hb_shape (s : State) (kd : hbK) (e : va_E) : Prop := match kd.1 with
  | 0 => ∃ fs : List Value, e = .inr (kd.2.1, fs) ∧ fs.length = kd.2.2.1
  | 1 => ∃ (cA : ClassId) (f : Nat → Int32), e = .inl (cA, kd.2.2.1, .inl f) ∧ ArrOfT s cA .int ∧ va_RA s cA .int
  | 2 => ∃ (cA : ClassId) (f : Nat → Int32), e = .inl (cA, kd.2.2.1, .inl f) ∧ ArrOfT s cA .byte ∧ va_RA s cA .byte
  | 3 => ∃ (cA : ClassId) (f : Nat → Int32), e = .inl (cA, kd.2.2.1, .inl f) ∧ ArrOfT s cA .boolean ∧ va_RA s cA .boolean
  | 4 => ∃ (cA : ClassId) (f : Nat → Int64), e = .inl (cA, kd.2.2.1, .inr (.inl f)) ∧ ArrOfT s cA .long ∧ va_RA s cA .long
  | _ => ∃ (cA : ClassId) (g : Nat → Option Nat) (ty : FieldType), e = .inl (cA, kd.2.2.1, .inr (.inr (.inr (.inr g)))) ∧ ty.isReference = true ∧ ArrOfT s cA ty ∧ va_RA s cA ty
def hb_cell (s : State) (U : Nat → Nat) (kd : hbK) (e : va_E) : Prop := hb_shape s kd e ∧ ∀ k, k < kd.2.2.1 → ∃ v ty, hb_get e k = some v ∧ hb_tyAt kd k = some ty ∧ hb_ty U ty v
def hb_wd (KT : List hbK) (s : State) (U : Nat → Nat) (wd : va_W) (fp : List Nat) : Prop := ∀ c ∈ fp, ∃ kd e, KT[c]? = some kd ∧ wd[c]? = some (U c, e) ∧ hb_cell s U kd e ∧ kd.2.2.1 < 2147483648
def hb_fr (mods : List Nat) (wd0 wd : va_W) : Prop := ∀ c : Nat, (wd[c]?).map Prod.fst = (wd0[c]?).map Prod.fst ∧ (c ∉ mods → wd[c]? = wd0[c]?)
def hb_sat (X : hbX) (A : hbS) (ρ : Nat → Int) (wd : va_W) (ls : Array Slot) (st : List Value) : Prop :=
  hb_V ρ A.1 ∧ (0 < A.1.1.length ∧ X.2.2.2.1.2 ≤ A.1.1.length ∧ hb_ag X.2.2.2.1.2 X.2.2.2.1.1 ρ) ∧ hb_loc A.1.1.length X.2.2.1.1 X.2.2.1.2 ρ X.2.2.2.2.2.1 A.2.1 ls ∧ hb_stk A.1.1.length X.2.2.1.1 X.2.2.1.2 ρ A.2.2.1 st ∧ hb_cch A.1.1.length X.2.2.1.1 X.2.2.1.2 ρ A.2.2.2 wd
def hb_hp (X : hbX) (wd : va_W) (H : Heap) (locs : List Loc) : Prop :=
  va_P X.1.2.1 X.1.2.2 wd H ∧ va_D X.2.2.2.2.2.2 wd ∧ va_S X.2.2.2.2.2.2 X.1.1.heap H locs ∧ hb_wd X.2.1.1 X.1.1 X.2.2.1.1 wd X.2.1.2.1 ∧ hb_fr X.2.1.2.2 X.2.2.2.2.1 wd
def hb_J (X : hbX) (w : Heap → List Loc → JFrame → Prop) (m : MethodId) (A : hbS) (pc : Nat) : Prop :=
  ∀ (ρ : Nat → Int) (wd : va_W) (H : Heap) (locs : List Loc) (ls : Array Slot) (st : List Value), hb_sat X A ρ wd ls st → hb_hp X wd H locs → w H locs (F0 m pc ls st)
/-- other numbers, nothing else -/
theorem hb_sat.num {X : hbX} {V V' : hbV} {L : List (Nat × hbA)} {S : List hbA} {C : List (Nat × hbA × hbA)} {ρ ρ' : Nat → Int} {wd : va_W} {ls : Array Slot} {st : List Value} (h : hb_sat X (V, L, S, C) ρ wd ls st) (hn : V.1.length ≤ V'.1.length) (ha : hb_ag V.1.length ρ ρ') (hV : hb_V ρ' V') : hb_sat X (V', L, S, C) ρ' wd ls st := by
  obtain ⟨h1, ⟨h2, h3, h4⟩, h5, h6, h7⟩ := h
  exact ⟨hV, ⟨Nat.lt_of_lt_of_le h2 hn, Nat.le_trans h3 hn, h4.trans h3 ha⟩, h5.ext hn ha, hb_stk.ext hn ha h6, h7.ext hn ha⟩
/-- what an operation gives goes onto the stack -/
theorem hb_sat.pushI {X : hbX} {V : hbV} {r : hbV × hbA} {L : List (Nat × hbA)} {S : List hbA} {C : List (Nat × hbA × hbA)} {ρ : Nat → Int} {wd : va_W} {ls : Array Slot} {st : List Value} {x : Int32} (h : hb_sat X (V, L, S, C) ρ wd ls st) (hr : hb_ok V ρ r 0 x.toInt) : ∃ ρ', hb_sat X (r.1, L, r.2 :: S, C) ρ' wd ls (.int x :: st) := by
  obtain ⟨ρ', a1, a2, a3, a4, a5, a6⟩ := hr
  obtain ⟨h1, h2, h3, h4, h5⟩ := h.num a3 a1 a2
  exact ⟨ρ', h1, h2, h3, ⟨hb_v.ofI a4 a5 a6, h4⟩, h5⟩
theorem hb_sat.pushL {X : hbX} {V : hbV} {r : hbV × hbA} {L : List (Nat × hbA)} {S : List hbA} {C : List (Nat × hbA × hbA)} {ρ : Nat → Int} {wd : va_W} {ls : Array Slot} {st : List Value} {x : Int64} (h : hb_sat X (V, L, S, C) ρ wd ls st) (hr : hb_ok V ρ r 1 x.toInt) : ∃ ρ', hb_sat X (r.1, L, r.2 :: S, C) ρ' wd ls (.long x :: st) := by
  obtain ⟨ρ', a1, a2, a3, a4, a5, a6⟩ := hr
  obtain ⟨h1, h2, h3, h4, h5⟩ := h.num a3 a1 a2
  exact ⟨ρ', h1, h2, h3, ⟨hb_v.ofL a4 a5 a6, h4⟩, h5⟩
theorem hb_sat.pop {X : hbX} {V : hbV} {L : List (Nat × hbA)} {a : hbA} {S : List hbA} {C : List (Nat × hbA × hbA)} {ρ : Nat → Int} {wd : va_W} {ls : Array Slot} {st : List Value} (h : hb_sat X (V, L, a :: S, C) ρ wd ls st) : ∃ v st', st = v :: st' ∧ hb_v V.1.length X.2.2.1.1 X.2.2.1.2 ρ a v ∧ hb_sat X (V, L, S, C) ρ wd ls st' := by
  obtain ⟨h1, h2, h3, h4, h5⟩ := h
  obtain ⟨v, st', e, q1, q2⟩ := hb_stk.cons h4
  exact ⟨v, st', e, q1, h1, h2, h3, q2, h5⟩
theorem hb_sat.push {X : hbX} {V : hbV} {L : List (Nat × hbA)} {a : hbA} {S : List hbA} {C : List (Nat × hbA × hbA)} {ρ : Nat → Int} {wd : va_W} {ls : Array Slot} {st : List Value} {v : Value} (h : hb_sat X (V, L, S, C) ρ wd ls st) (hv : hb_v V.1.length X.2.2.1.1 X.2.2.1.2 ρ a v) : hb_sat X (V, L, a :: S, C) ρ wd ls (v :: st) := by
  obtain ⟨h1, h2, h3, h4, h5⟩ := h
  exact ⟨h1, h2, h3, ⟨hv, h4⟩, h5⟩
/-- a local variable, by its number -/
def hb_lk (L : List (Nat × hbA)) (i : Nat) : Option hbA := match L with
  | [] => none
  | (j, a) :: r => cond (Nat.beq j i) (some a) (hb_lk r i)
theorem hb_lk_mem : ∀ {L : List (Nat × hbA)} {i : Nat} {a : hbA}, hb_lk L i = some a → (i, a) ∈ L
  | [], _, _, h => by cases h
  | (j, b) :: r, i, a, h => by
    unfold hb_lk at h
    cases hj : Nat.beq j i with
    | true =>
      rw [hj] at h
      cases h
      rw [Nat.eq_of_beq_eq_true hj]
      exact List.mem_cons_self
    | false =>
      rw [hj] at h
      exact List.mem_cons_of_mem _ (hb_lk_mem h)
theorem hb_sat.loc {X : hbX} {V : hbV} {L : List (Nat × hbA)} {S : List hbA} {C : List (Nat × hbA × hbA)} {ρ : Nat → Int} {wd : va_W} {ls : Array Slot} {st : List Value} {i : Nat} {a : hbA} (h : hb_sat X (V, L, S, C) ρ wd ls st) (hl : hb_lk L i = some a) : ∃ v, ls[i]? = some (.val v) ∧ hb_v V.1.length X.2.2.1.1 X.2.2.1.2 ρ a v :=
  h.2.2.1.2.2 (i, a) (hb_lk_mem hl)
/-- the listed values that a row of the kit wants -/
theorem hb_loc.list {n : Nat} {U S : Nat → Nat} {ρ : Nat → Int} {nL : Nat} {ls : Array Slot} : ∀ {L : List (Nat × hbA)}, hb_loc n U S ρ nL L ls → ∃ lv, lv_has ls nL lv ∧ ∀ q ∈ L, ∃ v, (q.1, v) ∈ lv ∧ hb_v n U S ρ q.2 v
  | [], h => ⟨[], ⟨h.1, h.2.1, fun _ hq => by cases hq⟩, fun _ hq => by cases hq⟩
  | q :: L, h => by
    obtain ⟨lv, h1, h2⟩ := hb_loc.list (L := L) ⟨h.1, h.2.1, fun q hq => h.2.2 q (List.mem_cons_of_mem _ hq)⟩
    obtain ⟨v, h3, h4⟩ := h.2.2 q List.mem_cons_self
    refine ⟨(q.1, v) :: lv, ⟨h1.1, h1.2.1, fun r hr => ?_⟩, fun r hr => ?_⟩
    · rcases List.mem_cons.mp hr with rfl | hr
      · exact h3
      · exact h1.2.2 r hr
    · rcases List.mem_cons.mp hr with rfl | hr
      · exact ⟨v, List.mem_cons_self, h4⟩
      · obtain ⟨w, q1, q2⟩ := h2 r hr
        exact ⟨w, List.mem_cons_of_mem _ q1, q2⟩
def hb_st1 (L : List (Nat × hbA)) (i : Nat) (a : hbA) : List (Nat × hbA) := (i, a) :: L.filter (fun q => !(Nat.beq q.1 i) && !(Nat.beq (q.1 + 1) i && Nat.beq (hb_cat q.2) 2))
def hb_st2 (L : List (Nat × hbA)) (i : Nat) (a : hbA) : List (Nat × hbA) := (i, a) :: L.filter (fun q => !(Nat.beq q.1 i) && (!(Nat.beq q.1 (i + 1)) && !(Nat.beq (q.1 + 1) i && Nat.beq (hb_cat q.2) 2)))
theorem hb_beq (a b : Nat) : (a == b) = Nat.beq a b := by
  cases h : Nat.beq a b with
  | true => rw [Nat.eq_of_beq_eq_true h]; simp
  | false =>
    have := Nat.ne_of_beq_eq_false h
    simp [this]
theorem hb_store1 {n : Nat} {U S : Nat → Nat} {ρ : Nat → Int} {nL : Nat} {ls ls' : Array Slot} {L : List (Nat × hbA)} {i : Nat} {a : hbA} {v : Value} {lv : List (Nat × Value)} (h2 : ∀ q ∈ L, ∃ v, (q.1, v) ∈ lv ∧ hb_v n U S ρ q.2 v) (hv : hb_v n U S ρ a v)
    (h' : lv_has ls' nL ((i, v) :: lv.filter (fun q => !(q.1 == i) && !(q.1 + 1 == i && q.2.category == 2)))) : hb_loc n U S ρ nL (hb_st1 L i a) ls' := by
  refine ⟨h'.1, h'.2.1, fun q hq => ?_⟩
  rcases List.mem_cons.mp hq with rfl | hq
  · exact ⟨v, h'.2.2 _ List.mem_cons_self, hv⟩
  · obtain ⟨m1, m2⟩ := List.mem_filter.mp hq
    obtain ⟨w, q1, q2⟩ := h2 q m1
    refine ⟨w, h'.2.2 (q.1, w) (List.mem_cons_of_mem _ (List.mem_filter.mpr ⟨q1, ?_⟩)), q2⟩
    rw [← q2.cat] at m2
    simp only [hb_beq]
    exact m2
theorem hb_store2 {n : Nat} {U S : Nat → Nat} {ρ : Nat → Int} {nL : Nat} {ls ls' : Array Slot} {L : List (Nat × hbA)} {i : Nat} {a : hbA} {v : Value} {lv : List (Nat × Value)} (h2 : ∀ q ∈ L, ∃ v, (q.1, v) ∈ lv ∧ hb_v n U S ρ q.2 v) (hv : hb_v n U S ρ a v)
    (h' : lv_has ls' nL ((i, v) :: lv.filter (fun q => !(q.1 == i) && (!(q.1 == i + 1) && !(q.1 + 1 == i && q.2.category == 2))))) : hb_loc n U S ρ nL (hb_st2 L i a) ls' := by
  refine ⟨h'.1, h'.2.1, fun q hq => ?_⟩
  rcases List.mem_cons.mp hq with rfl | hq
  · exact ⟨v, h'.2.2 _ List.mem_cons_self, hv⟩
  · obtain ⟨m1, m2⟩ := List.mem_filter.mp hq
    obtain ⟨w, q1, q2⟩ := h2 q m1
    refine ⟨w, h'.2.2 (q.1, w) (List.mem_cons_of_mem _ (List.mem_filter.mpr ⟨q1, ?_⟩)), q2⟩
    rw [← q2.cat] at m2
    simp only [hb_beq]
    exact m2
