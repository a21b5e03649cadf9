/-! hb_: reading and writing cells -/
def hb_ah (a b : hbA) : Bool := (hb_z a.2.1 && hb_z b.2.1 && hb_z (a.2.2.2 - b.2.2.2)) || (hb_z (a.2.1 - b.2.1) && Nat.beq a.2.2.1 b.2.2.1 && hb_z (a.2.2.2 - b.2.2.2))
theorem hb_ah_ok {ρ : Nat → Int} {a b : hbA} (h : hb_ah a b = true) : a.2.1 * ρ a.2.2.1 + a.2.2.2 = b.2.1 * ρ b.2.2.1 + b.2.2.2 := by
  unfold hb_ah at h
  rw [Bool.or_eq_true] at h
  rcases h with h | h
  · obtain ⟨h1, h3⟩ := hb_and2 h
    obtain ⟨h1, h2⟩ := hb_and2 h1
    rw [hb_z_t h1, hb_z_t h2]
    have := hb_z_t h3
    omega
  · obtain ⟨h1, h3⟩ := hb_and2 h
    obtain ⟨h1, h2⟩ := hb_and2 h1
    have e1 := hb_z_t h1
    have e2 := hb_lenE h2
    have e3 := hb_z_t h3
    rw [show a.2.1 = b.2.1 by omega, e2]
    omega
/-- what is known of a place -/
def hb_ck (C : List (Nat × hbA × hbA)) (c : Nat) (ix : hbA) : Option hbA := match C with
  | [] => none
  | (c', ix', a) :: r => cond (Nat.beq c' c && hb_ah ix' ix && Nat.ble a.1 4) (some a) (hb_ck r c ix)
theorem hb_ck_mem {c : Nat} {ix : hbA} : ∀ {C : List (Nat × hbA × hbA)} {a : hbA}, hb_ck C c ix = some a → ∃ ix', (c, ix', a) ∈ C ∧ hb_ah ix' ix = true ∧ a.1 ≠ 9
  | [], _, h => by cases h
  | (c', ix', a') :: r, a, h => by
    unfold hb_ck at h
    cases hc : (Nat.beq c' c && hb_ah ix' ix && Nat.ble a'.1 4) with
    | true =>
      rw [hc] at h
      cases h
      obtain ⟨hc, h3⟩ := hb_and2 hc
      obtain ⟨h1, h2⟩ := hb_and2 hc
      have e := hb_lenE h1
      subst e
      have h4 := Nat.le_of_ble_eq_true h3
      exact ⟨ix', List.mem_cons_self, h2, by omega⟩
    | false =>
      rw [hc] at h
      obtain ⟨i, h1, h2, h3⟩ := hb_ck_mem h
      exact ⟨i, List.mem_cons_of_mem _ h1, h2, h3⟩
/-- where the ranges of twenty begin that acts lie in -/
def hb_bases : List Int := ((List.range 8).flatMap fun h => (List.range 5).map fun p => Int.ofNat (1000 * h + 100 * p)) ++ (List.range 5).map fun p => Int.ofNat (100000 + 100 * p)
theorem hb_acts_b : hb_acts.all (fun z => hb_bases.any (fun b => hb_le b z && hb_le z (b + 19))) = true := by decide +kernel
theorem hb_acts_r : hb_acts.all (fun z => hb_le 0 z && hb_le z 100419) = true := by decide +kernel
theorem hb_bases_r : hb_bases.all (fun z => hb_le 0 z && hb_le z 100400) = true := by decide +kernel
/-- the values that a type lets be read; fk: by ranges -/
def hb_rd (fk : Bool) (V : hbV) (ty : hbT) : List (hbV × hbA) := match ty with
  | (0, lo, hi) => cond (fk && hb_le lo (-1) && hb_le 0 hi) [hb_bd V 0 (some (lo, -1)), hb_bd V 0 (some (0, hi))] [hb_bd V 0 (some (lo, hi))]
  | (1, lo, hi) => [hb_bd V 1 (some (lo, hi))]
  | (2, c, _) => [(V, (2, 0, c.toNat, 0))]
  | (_, _, _) => cond fk (hb_bases.map (fun z => hb_nw V 0 z (z + 19))) [hb_nw V 0 0 100419]
theorem hb_rd_ok {fk : Bool} {ρ : Nat → Int} {V : hbV} {ty : hbT} {U T : Nat → Nat} {v : Value} (hV : hb_V ρ V) (h0 : 0 < V.1.length) (h : hb_ty U ty v) : ∃ r, r ∈ hb_rd fk V ty ∧ ∃ ρ', hb_ag V.1.length ρ ρ' ∧ hb_V ρ' r.1 ∧ V.1.length ≤ r.1.1.length ∧ hb_v r.1.1.length U T ρ' r.2 v := by
  obtain ⟨t, lo, hi⟩ := ty
  have key : ∀ (a b : Int) (x : Int32), a ≤ x.toInt → x.toInt ≤ b → ∃ ρ', hb_ag V.1.length ρ ρ' ∧ hb_V ρ' (hb_bd V 0 (some (a, b))).1 ∧ V.1.length ≤ (hb_bd V 0 (some (a, b))).1.1.length ∧ hb_v (hb_bd V 0 (some (a, b))).1.1.length U T ρ' (hb_bd V 0 (some (a, b))).2 (.int x) := by
    intro a b x h1 h2
    obtain ⟨ρ', a1, a2, a3, a4, a5, a6⟩ := hb_bd_ok (t := 0) (iv := some (a, b)) (z := x.toInt) hV h0 (fun _ _ h => by cases h; exact ⟨h1, h2⟩) (hb_rng0 x)
    exact ⟨ρ', a1, a2, a3, hb_v.ofI a4 a5 a6⟩
  match t, h with
  | 0, ⟨x, e, h1, h2⟩ =>
    subst e
    show ∃ r, r ∈ cond (fk && hb_le lo (-1) && hb_le 0 hi) [hb_bd V 0 (some (lo, -1)), hb_bd V 0 (some (0, hi))] [hb_bd V 0 (some (lo, hi))] ∧ _
    cases (fk && hb_le lo (-1) && hb_le 0 hi) with
    | false => exact ⟨_, List.mem_singleton.mpr rfl, key _ _ _ h1 h2⟩
    | true =>
      by_cases hx : x.toInt ≤ -1
      · exact ⟨_, List.mem_cons_self, key _ _ _ h1 hx⟩
      · exact ⟨_, List.mem_cons_of_mem _ (List.mem_singleton.mpr rfl), key _ _ _ (by omega) h2⟩
  | 1, ⟨x, e, h1, h2⟩ =>
    subst e
    obtain ⟨ρ', a1, a2, a3, a4, a5, a6⟩ := hb_bd_ok (t := 1) (iv := some (lo, hi)) (z := x.toInt) hV h0 (fun _ _ h => by cases h; exact ⟨h1, h2⟩) (hb_rng1 x)
    exact ⟨_, List.mem_singleton.mpr rfl, ρ', a1, a2, a3, hb_v.ofL a4 a5 a6⟩
  | 2, h => exact ⟨_, List.mem_singleton.mpr rfl, ρ, hb_ag.rf, hV, Nat.le_refl _, h⟩
  | t + 3, ⟨x, e, h1⟩ =>
    subst e
    show ∃ r, r ∈ cond fk (hb_bases.map (fun z => hb_nw V 0 z (z + 19))) [hb_nw V 0 0 100419] ∧ _
    cases fk with
    | true =>
      obtain ⟨b, m1, m2⟩ := List.any_eq_true.mp (List.all_eq_true.mp hb_acts_b _ h1)
      rw [Bool.and_eq_true] at m2
      obtain ⟨ρ', a1, a2, a3, a4, a5, a6⟩ := hb_nw_ok (z := x.toInt) hV (hb_le_t m2.1) (hb_le_t m2.2) 0
      exact ⟨_, List.mem_map.mpr ⟨b, m1, rfl⟩, ρ', a1, a2, a3, hb_v.ofI a4 a5 a6⟩
    | false =>
      have m2 := List.all_eq_true.mp hb_acts_r _ h1
      rw [Bool.and_eq_true] at m2
      obtain ⟨ρ', a1, a2, a3, a4, a5, a6⟩ := hb_nw_ok (z := x.toInt) hV (hb_le_t m2.1) (hb_le_t m2.2) 0
      exact ⟨_, List.mem_singleton.mpr rfl, ρ', a1, a2, a3, hb_v.ofI a4 a5 a6⟩
/-- a type that two types lie in -/
def hb_teq (a b : hbT) : Bool := Nat.beq a.1 b.1 && hb_z (a.2.1 - b.2.1) && hb_z (a.2.2 - b.2.2)
theorem hb_teq_ok {a b : hbT} (h : hb_teq a b = true) : a = b := by
  obtain ⟨h1, h3⟩ := hb_and2 h
  obtain ⟨h1, h2⟩ := hb_and2 h1
  obtain ⟨x, y, z⟩ := a
  obtain ⟨x', y', z'⟩ := b
  have e1 : x = x' := hb_lenE h1
  have e2 : y - y' = 0 := hb_z_t h2
  have e3 : z - z' = 0 := hb_z_t h3
  rw [e1, show y = y' by omega, show z = z' by omega]
def hb_asI (a : hbT) : Option (Int × Int) := match a with
  | (0, l, u) => some (l, u)
  | (1, _, _) => none
  | (2, _, _) => none
  | _ => some (0, 100419)
theorem hb_asI_ok {U : Nat → Nat} {a : hbT} {v : Value} {l u : Int} (h : hb_asI a = some (l, u)) (hv : hb_ty U a v) : ∃ x : Int32, v = .int x ∧ l ≤ x.toInt ∧ x.toInt ≤ u := by
  obtain ⟨t, y, z⟩ := a
  match t, h, hv with
  | 0, h, hv => cases h; exact hv
  | 1, h, _ => cases h
  | 2, h, _ => cases h
  | t + 3, h, ⟨x, e, h1⟩ =>
    cases h
    have m2 := List.all_eq_true.mp hb_acts_r _ h1
    rw [Bool.and_eq_true] at m2
    exact ⟨x, e, hb_le_t m2.1, hb_le_t m2.2⟩
def hb_jn (a b : hbT) : Option hbT := cond (hb_teq a b) (some a) (match hb_asI a, hb_asI b with
  | some (l, u), some (l', u') => some (0, hb_min l l', hb_max u u')
  | _, _ => none)
theorem hb_jn_ok {U : Nat → Nat} {a b t : hbT} {v : Value} (h : hb_jn a b = some t) : (hb_ty U a v → hb_ty U t v) ∧ (hb_ty U b v → hb_ty U t v) := by
  unfold hb_jn at h
  cases hc : hb_teq a b with
  | true =>
    rw [hc] at h
    cases h
    rw [hb_teq_ok hc]
    exact ⟨fun q => q, fun q => q⟩
  | false =>
    rw [hc, cond_false] at h
    cases ha : hb_asI a with
    | none => rw [ha] at h; cases h
    | some p =>
      obtain ⟨l, u⟩ := p
      cases hb : hb_asI b with
      | none => rw [ha, hb] at h; cases h
      | some q =>
        obtain ⟨l', u'⟩ := q
        rw [ha, hb] at h
        cases h
        have g1 := hb_min_le l l'
        have g2 := hb_le_max u u'
        refine ⟨fun q => ?_, fun q => ?_⟩
        · obtain ⟨w, q1, q2, q3⟩ := hb_asI_ok ha q
          exact ⟨w, q1, by show hb_min l l' ≤ _; omega, by show _ ≤ hb_max u u'; omega⟩
        · obtain ⟨w, q1, q2, q3⟩ := hb_asI_ok hb q
          exact ⟨w, q1, by show hb_min l l' ≤ _; omega, by show _ ≤ hb_max u u'; omega⟩
def hb_hull (kd : hbK) : List Nat → Option hbT
  | [] => none
  | [i] => hb_tyAt kd i
  | i :: j :: r => match hb_tyAt kd i, hb_hull kd (j :: r) with
    | some a, some b => hb_jn a b
    | _, _ => none
theorem hb_hull_ok {U : Nat → Nat} {kd : hbK} {v : Value} : ∀ {is : List Nat} {t ty : hbT} {i : Nat}, hb_hull kd is = some t → i ∈ is → hb_tyAt kd i = some ty → hb_ty U ty v → hb_ty U t v
  | [], _, _, _, h, _, _, _ => by cases h
  | [i'], t, ty, i, h, hi, ht, hv => by
    have e := List.mem_singleton.mp hi
    subst e
    have h : hb_tyAt kd i = some t := h
    rw [ht] at h
    cases h
    exact hv
  | i' :: j :: r, t, ty, i, h, hi, ht, hv => by
    unfold hb_hull at h
    cases h1 : hb_tyAt kd i' with
    | none => rw [h1] at h; cases h
    | some a =>
      cases h2 : hb_hull kd (j :: r) with
      | none => rw [h1, h2] at h; cases h
      | some b =>
        rw [h1, h2] at h
        rcases List.mem_cons.mp hi with e | hi
        · subst e
          rw [ht] at h1
          cases h1
          exact (hb_jn_ok h).1 hv
        · exact (hb_jn_ok h).2 (hb_hull_ok h2 hi ht hv)
/-- which places an index may name -/
def hb_ixs (V : hbV) (a : hbA) : Option (List Nat) := cond (hb_z a.2.1) (hb_ob (hb_nt a.2.2.2) (fun n => some [n])) (match V.1[a.2.2.1]? with
  | none => none
  | some (lo, hi) => hb_ob (hb_nt (hi - lo)) (fun d => cond (Nat.blt d 400) (some ((List.range (d + 1)).filterMap (fun j => hb_nt (a.2.1 * (lo + .ofNat j) + a.2.2.2)))) none))
theorem hb_nt_of {z : Int} (h : 0 ≤ z) : hb_nt z = some z.toNat := by
  cases z with
  | ofNat n => rfl
  | negSucc n => exact absurd h (by simp only [Int.negSucc_eq]; omega)
theorem hb_ixs_ok {ρ : Nat → Int} {V : hbV} {a : hbA} {is : List Nat} {x : Int} (hV : hb_V ρ V) (hx : x = a.2.1 * ρ a.2.2.1 + a.2.2.2) (h0 : 0 ≤ x) (h : hb_ixs V a = some is) : x.toNat ∈ is := by
  unfold hb_ixs at h
  cases hz : hb_z a.2.1 with
  | true =>
    rw [hz, cond_true] at h
    obtain ⟨n, h1, h2⟩ := hb_ob_some h
    cases h2
    have e := hb_nt_ok h1
    rw [hb_z_t hz] at hx
    exact List.mem_singleton.mpr (by omega)
  | false =>
    rw [hz, cond_false] at h
    cases hk : V.1[a.2.2.1]? with
    | none => rw [hk] at h; cases h
    | some q =>
      obtain ⟨lo, hi⟩ := q
      rw [hk] at h
      obtain ⟨d, h1, h2⟩ := hb_ob_some h
      have e := hb_nt_ok h1
      cases hd : Nat.blt d 400 with
      | false => rw [hd] at h2; cases h2
      | true =>
        rw [hd] at h2
        cases h2
        obtain ⟨g1, g2⟩ := hV.1 _ _ _ hk
        refine List.mem_filterMap.mpr ⟨(ρ a.2.2.1 - lo).toNat, List.mem_range.mpr (by omega), ?_⟩
        have e2 : lo + Int.ofNat (ρ a.2.2.1 - lo).toNat = ρ a.2.2.1 := by
          have : Int.ofNat (ρ a.2.2.1 - lo).toNat = ((ρ a.2.2.1 - lo).toNat : Int) := rfl
          omega
        rw [e2, ← hx]
        exact hb_nt_of h0
/-- what is read at an index -/
def hb_el (kd : hbK) (V : hbV) (ix : hbA) : Option hbT := match kd.2.2.2 with
  | [t] => some t
  | _ => hb_ob (hb_ixs V ix) (hb_hull kd)
theorem hb_el_ok {ρ : Nat → Int} {U : Nat → Nat} {kd : hbK} {V : hbV} {ix : hbA} {t ty : hbT} {x : Int} {v : Value} (hV : hb_V ρ V) (hx : x = ix.2.1 * ρ ix.2.2.1 + ix.2.2.2) (h0 : 0 ≤ x) (h : hb_el kd V ix = some t) (ht : hb_tyAt kd x.toNat = some ty) (hv : hb_ty U ty v) : hb_ty U t v := by
  obtain ⟨f, ci, n, tys⟩ := kd
  unfold hb_el at h
  dsimp only at h
  split at h
  next t' =>
    cases h
    unfold hb_tyAt at ht
    simp [Nat.mod_one] at ht
    rw [ht]
    exact hv
  next =>
    obtain ⟨is, h1, h2⟩ := hb_ob_some h
    exact hb_hull_ok h2 (hb_ixs_ok hV hx h0 h1) ht hv
/-- the upper bound of an index, by the relations too -/
def hb_hiR (V : hbV) (a : hbA) (hi : Int) : List (Nat × Nat × Int) → Int
  | [] => hi
  | r :: rs => cond (hb_one a.2.1 && Nat.beq r.1 a.2.2.1) (match V.1[r.2.1]? with
    | some (_, u) => hb_hiR V a (hb_min hi (u + r.2.2 + a.2.2.2)) rs
    | none => hb_hiR V a hi rs) (hb_hiR V a hi rs)
theorem hb_hiR_ok {ρ : Nat → Int} {V : hbV} {a : hbA} {x : Int} (hV : hb_V ρ V) (hx : x = a.2.1 * ρ a.2.2.1 + a.2.2.2) : ∀ {rs : List (Nat × Nat × Int)} {hi : Int}, (∀ r ∈ rs, r ∈ V.2.1) → x ≤ hi → x ≤ hb_hiR V a hi rs
  | [], hi, _, h => h
  | r :: rs, hi, hm, h => by
    unfold hb_hiR
    have hm' : ∀ r ∈ rs, r ∈ V.2.1 := fun q hq => hm q (List.mem_cons_of_mem _ hq)
    cases hc : (hb_one a.2.1 && Nat.beq r.1 a.2.2.1) with
    | false => exact hb_hiR_ok hV hx hm' h
    | true =>
      obtain ⟨h1, h2⟩ := hb_and2 hc
      have e1 := hb_one_t h1
      have e2 := hb_lenE h2
      rw [cond_true]
      cases hu : V.1[r.2.1]? with
      | none => exact hb_hiR_ok hV hx hm' h
      | some q =>
        obtain ⟨l, u⟩ := q
        refine hb_hiR_ok hV hx hm' ?_
        have g1 := (hV.2.1 r (hm r List.mem_cons_self)).2.2
        have g2 := (hV.1 _ _ _ hu).2
        rw [e1] at hx
        rw [e2] at g1
        rcases (hb_min_le hi (u + r.2.2 + a.2.2.2)).2.2 with q | q <;> rw [q] <;> omega
/-- does a value fit a type, surely? -/
def hb_rng (lo : Int) : Nat → List Int
  | 0 => [lo]
  | n + 1 => lo :: hb_rng (lo + 1) n
def hb_ini (z : Int) : List Int → Bool
  | [] => false
  | a :: r => hb_z (z - a) || hb_ini z r
def hb_fit (V : hbV) (ty : hbT) (a : hbA) : Bool := match ty with
  | (0, lo, hi) => Nat.beq a.1 0 && (match hb_iv V.1 a.2.1 a.2.2.1 a.2.2.2 with
    | some (l, u) => hb_le lo l && hb_le (hb_hiR V a u V.2.1) hi
    | none => false)
  | (1, lo, hi) => Nat.beq a.1 1 && (match hb_iv V.1 a.2.1 a.2.2.1 a.2.2.2 with
    | some (l, u) => hb_le lo l && hb_le (hb_hiR V a u V.2.1) hi
    | none => false)
  | (2, c, _) => Nat.beq a.1 2 && Nat.beq a.2.2.1 c.toNat
  | (_, _, _) => Nat.beq a.1 0 && (match hb_iv V.1 a.2.1 a.2.2.1 a.2.2.2 with
    | some (l, u) => (match hb_nt (u - l) with
      | some d => Nat.ble d 100 && (hb_rng l d).all (fun z => hb_ini z hb_acts)
      | none => false)
    | none => false)
theorem hb_rng_mem : ∀ {d : Nat} {lo z : Int}, lo ≤ z → z ≤ lo + d → z ∈ hb_rng lo d
  | 0, lo, z, h1, h2 => by
    have e : z = lo := by omega
    rw [e]
    exact List.mem_singleton.mpr rfl
  | d + 1, lo, z, h1, h2 => by
    by_cases e : z = lo
    · rw [e]; exact List.mem_cons_self
    · exact List.mem_cons_of_mem _ (hb_rng_mem (by omega) (by omega))
theorem hb_ini_mem {z : Int} : ∀ {L : List Int}, hb_ini z L = true → z ∈ L
  | [], h => by cases h
  | a :: r, h => by
    unfold hb_ini at h
    rw [Bool.or_eq_true] at h
    rcases h with h | h
    · have := hb_z_t h
      rw [show z = a by omega]
      exact List.mem_cons_self
    · exact List.mem_cons_of_mem _ (hb_ini_mem h)
theorem hb_fit_ok {ρ : Nat → Int} {U T : Nat → Nat} {V : hbV} {ty : hbT} {a : hbA} {v : Value} (hV : hb_V ρ V) (hv : hb_v V.1.length U T ρ a v) (h : hb_fit V ty a = true) : hb_ty U ty v := by
  obtain ⟨t, lo, hi⟩ := ty
  match t, h with
  | 0, h =>
    obtain ⟨h1, h2⟩ := hb_and2 h
    obtain ⟨-, x, e, ex⟩ := hv.int h1
    cases hq : hb_iv V.1 a.2.1 a.2.2.1 a.2.2.2 with
    | none => rw [hq] at h2; cases h2
    | some q =>
      obtain ⟨l, u⟩ := q
      rw [hq] at h2
      obtain ⟨h3, h4⟩ := hb_and2 h2
      have g := hb_iv_ok hV.1 hq
      have g3 := hb_le_t h3
      have g4 := hb_le_t h4
      have g5 := hb_hiR_ok (a := a) (rs := V.2.1) hV rfl (fun _ h => h) g.2
      exact ⟨x, e, by omega, by omega⟩
  | 1, h =>
    obtain ⟨h1, h2⟩ := hb_and2 h
    obtain ⟨-, x, e, ex⟩ := hv.long h1
    cases hq : hb_iv V.1 a.2.1 a.2.2.1 a.2.2.2 with
    | none => rw [hq] at h2; cases h2
    | some q =>
      obtain ⟨l, u⟩ := q
      rw [hq] at h2
      obtain ⟨h3, h4⟩ := hb_and2 h2
      have g := hb_iv_ok hV.1 hq
      have g3 := hb_le_t h3
      have g4 := hb_le_t h4
      have g5 := hb_hiR_ok (a := a) (rs := V.2.1) hV rfl (fun _ h => h) g.2
      exact ⟨x, e, by omega, by omega⟩
  | 2, h =>
    obtain ⟨h1, h2⟩ := hb_and2 h
    have e := hv.ref h1
    rw [hb_lenE h2] at e
    exact e
  | t + 3, h =>
    obtain ⟨h1, h2⟩ := hb_and2 h
    obtain ⟨-, x, e, ex⟩ := hv.int h1
    cases hq : hb_iv V.1 a.2.1 a.2.2.1 a.2.2.2 with
    | none => rw [hq] at h2; cases h2
    | some q =>
      obtain ⟨l, u⟩ := q
      rw [hq] at h2
      dsimp only at h2
      cases hd : hb_nt (u - l) with
      | none => rw [hd] at h2; cases h2
      | some d =>
        rw [hd] at h2
        obtain ⟨h3, h4⟩ := hb_and2 h2
        have g := hb_iv_ok hV.1 hq
        have g2 := hb_nt_ok hd
        exact ⟨x, e, hb_ini_mem (List.all_eq_true.mp h4 x.toInt (hb_rng_mem (by omega) (by omega)))⟩
def hb_inb (V : hbV) (ix : hbA) (n : Nat) : Bool := match hb_iv V.1 ix.2.1 ix.2.2.1 ix.2.2.2 with
  | some (l, u) => hb_le 0 l && hb_le (hb_hiR V ix u V.2.1 + 1) (.ofNat n)
  | none => false
theorem hb_inb_ok {ρ : Nat → Int} {V : hbV} {ix : hbA} {n : Nat} {x : Int} (hV : hb_V ρ V) (hx : x = ix.2.1 * ρ ix.2.2.1 + ix.2.2.2) (h : hb_inb V ix n = true) : 0 ≤ x ∧ x < n := by
  unfold hb_inb at h
  cases hq : hb_iv V.1 ix.2.1 ix.2.2.1 ix.2.2.2 with
  | none => rw [hq] at h; cases h
  | some q =>
    obtain ⟨l, u⟩ := q
    rw [hq] at h
    obtain ⟨h1, h2⟩ := hb_and2 h
    have g := hb_iv_ok hV.1 hq
    rw [← hx] at g
    have g1 := hb_le_t h1
    have g2 := hb_le_t h2
    have g3 := hb_hiR_ok (rs := V.2.1) hV hx (fun _ h => h) g.2
    have g4 : (Int.ofNat n) = (n : Int) := rfl
    omega
/-- is a cell in a list -/
def hb_mem (c : Nat) : List Nat → Bool
  | [] => false
  | d :: r => Nat.beq d c || hb_mem c r
theorem hb_mem_ok {c : Nat} : ∀ {L : List Nat}, hb_mem c L = true → c ∈ L
  | [], h => by cases h
  | d :: r, h => by
    unfold hb_mem at h
    rw [Bool.or_eq_true] at h
    rcases h with h | h
    · rw [hb_lenE h]; exact List.mem_cons_self
    · exact List.mem_cons_of_mem _ (hb_mem_ok h)
/-- two places that are not one -/
def hb_apart (V : hbV) (a b : hbA) : Bool := match hb_iv V.1 a.2.1 a.2.2.1 a.2.2.2, hb_iv V.1 b.2.1 b.2.2.1 b.2.2.2 with
  | some (l, u), some (l', u') => !(hb_le l' u) || !(hb_le l u')
  | _, _ => false
theorem hb_apart_ok {ρ : Nat → Int} {V : hbV} {a b : hbA} (hV : hb_V ρ V) (h : hb_apart V a b = true) : a.2.1 * ρ a.2.2.1 + a.2.2.2 ≠ b.2.1 * ρ b.2.2.1 + b.2.2.2 := by
  unfold hb_apart at h
  cases h1 : hb_iv V.1 a.2.1 a.2.2.1 a.2.2.2 with
  | none => rw [h1] at h; cases h
  | some p =>
    obtain ⟨l, u⟩ := p
    cases h2 : hb_iv V.1 b.2.1 b.2.2.1 b.2.2.2 with
    | none => rw [h1, h2] at h; cases h
    | some q =>
      obtain ⟨l', u'⟩ := q
      rw [h1, h2] at h
      dsimp only at h
      have g1 := hb_iv_ok hV.1 h1
      have g2 := hb_iv_ok hV.1 h2
      rw [Bool.or_eq_true] at h
      rcases h with h | h
      · have := hb_le_f (show hb_le l' u = false by cases q : hb_le l' u; rfl; rw [q] at h; cases h)
        omega
      · have := hb_le_f (show hb_le l u' = false by cases q : hb_le l u'; rfl; rw [q] at h; cases h)
        omega
/-- a place known not to be below nought, known to be below it -/
def hb_cge (V : hbV) (C : List (Nat × hbA × hbA)) (c : Nat) (ix : hbA) : Bool := match hb_ck C c ix with
  | some b => Nat.beq b.1 0 && (match hb_iv V.1 b.2.1 b.2.2.1 b.2.2.2 with
    | some (l, _) => hb_le 0 l
    | none => false)
  | none => false
def hb_clt (V : hbV) (C : List (Nat × hbA × hbA)) (c : Nat) (ix : hbA) : Bool := match hb_ck C c ix with
  | some b => Nat.beq b.1 0 && (match hb_iv V.1 b.2.1 b.2.2.1 b.2.2.2 with
    | some (_, u) => hb_le u (-1)
    | none => false)
  | none => false
def hb_vge (V : hbV) (v : hbA) : Bool := Nat.beq v.1 0 && (match hb_iv V.1 v.2.1 v.2.2.1 v.2.2.2 with
  | some (l, _) => hb_le 0 l
  | none => false)
def hb_vlt (V : hbV) (v : hbA) : Bool := Nat.beq v.1 0 && (match hb_iv V.1 v.2.1 v.2.2.1 v.2.2.2 with
  | some (_, u) => hb_le u (-1)
  | none => false)
/-- does a pair of arrays stay one behind a write of v to place ix of cell c? -/
def hb_kpf (V : hbV) (C : List (Nat × hbA × hbA)) (c : Nat) (ix v : hbA) (c1 c2 : Nat) : Bool := cond (Nat.beq c1 c) (!(Nat.beq c2 c) && (hb_vlt V v || hb_cge V C c2 ix)) (!(Nat.beq c2 c) || (hb_vge V v || hb_clt V C c1 ix))
/-- what stays known behind a write to a place of cell c -/
def hb_wr (V : hbV) (C : List (Nat × hbA × hbA)) (c : Nat) (ix v : hbA) : List (Nat × hbA × hbA) := (c, ix, v) :: C.filter (fun q => cond (Nat.beq q.2.2.1 9) (hb_kpf V C c ix v q.1 q.2.1.2.2.2.toNat) (!(Nat.beq q.1 c) || hb_apart V q.2.1 ix))
