/-! hb_: what a comparison tells -/
theorem hb_env.set {ρ : Nat → Int} {E : hbE} {k : Nat} {lo hi : Int} (he : hb_env ρ E) (h1 : lo ≤ ρ k) (h2 : ρ k ≤ hi) : hb_env ρ (E.set k (lo, hi)) := by
  intro j a b hj
  by_cases hjk : k = j
  · subst hjk
    have hl : k < (E.set k (lo, hi)).length := (List.getElem?_eq_some_iff.mp hj).1
    rw [List.length_set] at hl
    rw [List.getElem?_set_self hl] at hj
    cases hj
    exact ⟨h1, h2⟩
  · rw [List.getElem?_set_ne hjk] at hj
    exact he j a b hj
def hb_up (E : hbE) (k : Nat) (u : Int) : Option hbE := match E[k]? with
  | none => none
  | some (lo, hi) => cond (hb_le lo (hb_min hi u)) (some (E.set k (lo, hb_min hi u))) none
def hb_lw (E : hbE) (k : Nat) (u : Int) : Option hbE := match E[k]? with
  | none => none
  | some (lo, hi) => cond (hb_le (hb_max lo u) hi) (some (E.set k (hb_max lo u, hi))) none
theorem hb_up_ok {ρ : Nat → Int} {E : hbE} {k : Nat} {u : Int} (he : hb_env ρ E) (hk : k < E.length) (h : ρ k ≤ u) : ∃ E', hb_up E k u = some E' ∧ hb_env ρ E' ∧ E'.length = E.length := by
  have hx : E[k]? = some E[k] := List.getElem?_eq_getElem hk
  generalize E[k] = q at hx
  obtain ⟨lo, hi⟩ := q
  obtain ⟨h1, h2⟩ := he k lo hi hx
  have h3 := hb_min_le hi u
  have h4 : ρ k ≤ hb_min hi u := by rcases h3.2.2 with q | q <;> omega
  refine ⟨E.set k (lo, hb_min hi u), ?_, he.set h1 h4, List.length_set ..⟩
  unfold hb_up
  rw [hx]
  dsimp only
  rw [(hb_le_iff lo (hb_min hi u)).mpr (by omega), cond_true]
theorem hb_lw_ok {ρ : Nat → Int} {E : hbE} {k : Nat} {u : Int} (he : hb_env ρ E) (hk : k < E.length) (h : u ≤ ρ k) : ∃ E', hb_lw E k u = some E' ∧ hb_env ρ E' ∧ E'.length = E.length := by
  have hx : E[k]? = some E[k] := List.getElem?_eq_getElem hk
  generalize E[k] = q at hx
  obtain ⟨lo, hi⟩ := q
  obtain ⟨h1, h2⟩ := he k lo hi hx
  have h3 := hb_le_max lo u
  have h4 : hb_max lo u ≤ ρ k := by rcases h3.2.2 with q | q <;> omega
  refine ⟨E.set k (hb_max lo u, hi), ?_, he.set h4 h2, List.length_set ..⟩
  unfold hb_lw
  rw [hx]
  dsimp only
  rw [(hb_le_iff (hb_max lo u) hi).mpr (by omega), cond_true]
/-- m * rho k + c is at most B -/
def hb_leB (E : hbE) (m : Int) (k : Nat) (c B : Int) : Option hbE :=
  cond (hb_z m) (cond (hb_le c B) (some E) none) (cond (hb_le 0 m) (hb_up E k ((B - c) / m)) (hb_lw E k (-((B - c) / (-m)))))
theorem hb_leB_ok {ρ : Nat → Int} {E : hbE} {m : Int} {k : Nat} {c B : Int} (he : hb_env ρ E) (hk : k < E.length) (h : m * ρ k + c ≤ B) : ∃ E', hb_leB E m k c B = some E' ∧ hb_env ρ E' ∧ E'.length = E.length := by
  unfold hb_leB
  cases h1 : hb_z m with
  | true =>
    have e := hb_z_t h1
    subst e
    rw [cond_true, (hb_le_iff c B).mpr (by omega), cond_true]
    exact ⟨E, rfl, he, rfl⟩
  | false =>
    have hne : m ≠ 0 := fun q => by subst q; cases h1
    rw [cond_false]
    cases h2 : hb_le 0 m with
    | true =>
      have h0 := hb_le_t h2
      rw [cond_true]
      refine hb_up_ok he hk ?_
      exact Int.le_ediv_of_mul_le (by omega) (by rw [Int.mul_comm]; omega)
    | false =>
      have h0 := hb_le_f h2
      rw [cond_false]
      refine hb_lw_ok he hk ?_
      have h3 : -ρ k ≤ (B - c) / (-m) := Int.le_ediv_of_mul_le (by omega) (by rw [Int.neg_mul_neg, Int.mul_comm]; omega)
      omega
def hb_geB (E : hbE) (m : Int) (k : Nat) (c B : Int) : Option hbE := hb_leB E (-m) k (-c) (-B)
theorem hb_geB_ok {ρ : Nat → Int} {E : hbE} {m : Int} {k : Nat} {c B : Int} (he : hb_env ρ E) (hk : k < E.length) (h : B ≤ m * ρ k + c) : ∃ E', hb_geB E m k c B = some E' ∧ hb_env ρ E' ∧ E'.length = E.length :=
  hb_leB_ok he hk (by rw [Int.neg_mul]; omega)
/-- some c with rho a at most rho b + c, by the relations -/
def hb_omin (x y : Option Int) : Option Int := match x, y with
  | none, y => y
  | x, none => x
  | some a, some b => some (hb_min a b)
def hb_path (R : List (Nat × Nat × Int)) : Nat → Nat → Nat → Option Int
  | 0, a, b => cond (Nat.beq a b) (some 0) none
  | f + 1, a, b => cond (Nat.beq a b) (some 0) (R.foldr (fun r acc => cond (Nat.beq r.1 a) (match hb_path R f r.2.1 b with
      | none => acc
      | some c => hb_omin (some (c + r.2.2)) acc) acc) none)
theorem hb_omin_ok {x y : Option Int} {u v c : Int} (hx : ∀ c, x = some c → u ≤ v + c) (hy : ∀ c, y = some c → u ≤ v + c) (h : hb_omin x y = some c) : u ≤ v + c := by
  cases x with
  | none => exact hy c h
  | some a =>
    cases y with
    | none => exact hx c h
    | some b =>
      have h : some (hb_min a b) = some c := h
      cases h
      rcases (hb_min_le a b).2.2 with q | q
      · rw [q]; exact hx a rfl
      · rw [q]; exact hy b rfl
theorem hb_path_ok {n : Nat} {ρ : Nat → Int} {R : List (Nat × Nat × Int)} (hR : hb_rels n ρ R) : ∀ (f a b : Nat) (c : Int), hb_path R f a b = some c → ρ a ≤ ρ b + c
  | 0, a, b, c, h => by
    unfold hb_path at h
    cases hq : Nat.beq a b with
    | false => rw [hq] at h; cases h
    | true =>
      rw [hq] at h
      cases h
      rw [Nat.eq_of_beq_eq_true hq]
      omega
  | f + 1, a, b, c, h => by
    unfold hb_path at h
    cases hq : Nat.beq a b with
    | true =>
      rw [hq] at h
      cases h
      rw [Nat.eq_of_beq_eq_true hq]
      omega
    | false =>
      rw [hq, cond_false] at h
      have key : ∀ (L : List (Nat × Nat × Int)) (c : Int), (∀ r ∈ L, r ∈ R) → L.foldr (fun r acc => cond (Nat.beq r.1 a) (match hb_path R f r.2.1 b with
          | none => acc
          | some c => hb_omin (some (c + r.2.2)) acc) acc) none = some c → ρ a ≤ ρ b + c := by
        intro L
        induction L with
        | nil => intro c _ h; cases h
        | cons r t ih =>
          intro c hL h
          have iht := fun c h => ih c (fun q hq => hL q (List.mem_cons_of_mem _ hq)) h
          rw [List.foldr_cons] at h
          cases h1 : Nat.beq r.1 a with
          | false => rw [h1] at h; exact iht c h
          | true =>
            rw [h1, cond_true] at h
            cases h2 : hb_path R f r.2.1 b with
            | none => rw [h2] at h; exact iht c h
            | some c2 =>
              rw [h2] at h
              refine hb_omin_ok (fun c' hc' => ?_) iht h
              cases hc'
              have g1 := hb_path_ok hR f r.2.1 b c2 h2
              have g2 := (hR r (hL r List.mem_cons_self)).2.2
              have g3 := Nat.eq_of_beq_eq_true h1
              rw [← g3]
              omega
      exact key R c (fun _ h => h) h
/-- do the relations say that a is above b + d? -/
def hb_imp (V : hbV) (m1 : Int) (k1 : Nat) (c1 m2 : Int) (k2 : Nat) (c2 d : Int) : Bool := hb_one m1 && hb_one m2 && (match hb_path V.2.1 1 k2 k1 with
  | some c => hb_le (c + c2 - c1 + d + 1) 0
  | none => false)
theorem hb_imp_ok {ρ : Nat → Int} {V : hbV} {m1 c1 m2 c2 d : Int} {k1 k2 : Nat} (hV : hb_V ρ V) (h : m1 * ρ k1 + c1 ≤ m2 * ρ k2 + c2 + d) : hb_imp V m1 k1 c1 m2 k2 c2 d = false := by
  cases hc : hb_imp V m1 k1 c1 m2 k2 c2 d with
  | false => rfl
  | true =>
    exfalso
    unfold hb_imp at hc
    rw [Bool.and_eq_true, Bool.and_eq_true] at hc
    have e1 := hb_one_t hc.1.1
    have e2 := hb_one_t hc.1.2
    subst e1; subst e2
    have h3 := hc.2
    cases hp : hb_path V.2.1 1 k2 k1 with
    | none => rw [hp] at h3; cases h3
    | some c =>
      rw [hp] at h3
      have g1 := hb_path_ok hV.2.1 1 k2 k1 c hp
      have g2 := hb_le_t h3
      omega
/-- a is at most b + d -/
def hb_refLe (V : hbV) (a b : hbA) (d : Int) : Option hbV := match a, b with
  | (_, m1, k1, c1), (_, m2, k2, c2) =>
    cond (Nat.beq k1 k2 && hb_z (m1 - m2)) (cond (hb_le c1 (c2 + d)) (some V) none)
      (cond (hb_imp V m1 k1 c1 m2 k2 c2 d) none (match hb_iv V.1 m1 k1 c1, hb_iv V.1 m2 k2 c2 with
        | some (la, _), some (_, hb) => match hb_leB V.1 m1 k1 c1 (hb + d) with
          | none => none
          | some E1 => match hb_geB E1 m2 k2 c2 (la - d) with
            | none => none
            | some E2 => some (E2, cond (hb_one m1 && hb_one m2) ((k1, k2, c2 + d - c1) :: V.2.1) V.2.1, V.2.2)
        | _, _ => none))
theorem hb_iv_some {E : hbE} {k : Nat} (m c : Int) (hk : k < E.length) : ∃ x y, hb_iv E m k c = some (x, y) := by
  unfold hb_iv
  rw [List.getElem?_eq_getElem hk]
  obtain ⟨lo, hi⟩ := E[k]
  cases hb_le 0 m <;> simp
theorem hb_refLe_ok {ρ : Nat → Int} {V : hbV} {a b : hbA} {d x y : Int} (hV : hb_V ρ V) (ha : a.2.2.1 < V.1.length) (hb : b.2.2.1 < V.1.length) (hx : x = a.2.1 * ρ a.2.2.1 + a.2.2.2) (hy : y = b.2.1 * ρ b.2.2.1 + b.2.2.2) (h : x ≤ y + d) : ∃ V', hb_refLe V a b d = some V' ∧ hb_V ρ V' ∧ V'.1.length = V.1.length := by
  obtain ⟨ta, m1, k1, c1⟩ := a
  obtain ⟨tb, m2, k2, c2⟩ := b
  have hx : x = m1 * ρ k1 + c1 := hx
  have hy : y = m2 * ρ k2 + c2 := hy
  have ha : k1 < V.1.length := ha
  have hb : k2 < V.1.length := hb
  unfold hb_refLe
  dsimp only
  cases hc : (Nat.beq k1 k2 && hb_z (m1 - m2)) with
  | true =>
    rw [Bool.and_eq_true] at hc
    have e1 := Nat.eq_of_beq_eq_true hc.1
    have e2 := hb_z_t hc.2
    have e3 : m1 = m2 := by omega
    subst e1; subst e3
    rw [cond_true, (hb_le_iff c1 (c2 + d)).mpr (by omega), cond_true]
    exact ⟨V, rfl, hV, rfl⟩
  | false =>
    rw [cond_false, hb_imp_ok hV (by omega), cond_false]
    obtain ⟨la, ua, h1⟩ := hb_iv_some m1 c1 ha
    obtain ⟨lb, ub, h2⟩ := hb_iv_some m2 c2 hb
    have g1 := hb_iv_ok hV.1 h1
    have g2 := hb_iv_ok hV.1 h2
    rw [h1, h2]
    dsimp only
    obtain ⟨E1, q1, q2, q3⟩ := hb_leB_ok (m := m1) (c := c1) (k := k1) (B := ub + d) hV.1 ha (by omega)
    rw [q1]
    dsimp only
    obtain ⟨E2, r1, r2, r3⟩ := hb_geB_ok (m := m2) (c := c2) (k := k2) (B := la - d) q2 (by omega) (by omega)
    rw [r1]
    refine ⟨_, rfl, ⟨r2, ?_, ?_⟩, by show E2.length = _; omega⟩
    · have hl : E2.length = V.1.length := by omega
      show hb_rels E2.length ρ _
      rw [hl]
      cases ho : (hb_one m1 && hb_one m2) with
      | false => exact hV.2.1
      | true =>
        rw [Bool.and_eq_true] at ho
        have e1 := hb_one_t ho.1
        have e2 := hb_one_t ho.2
        subst e1; subst e2
        rw [cond_true]
        intro r hr
        rcases List.mem_cons.mp hr with rfl | hr
        · exact ⟨ha, hb, by show ρ k1 ≤ ρ k2 + (c2 + d - c1); omega⟩
        · exact hV.2.1 r hr
    · have hl : E2.length = V.1.length := by omega
      show hb_defs E2.length ρ _
      rw [hl]
      exact hV.2.2
/-- is a at most b, surely? -/
def hb_leQ (V : hbV) (a b : hbA) (d : Int) : Bool := match a, b with
  | (_, m1, k1, c1), (_, m2, k2, c2) =>
    (Nat.beq k1 k2 && hb_z (m1 - m2) && hb_le c1 (c2 + d)) ||
    (match hb_iv V.1 m1 k1 c1, hb_iv V.1 m2 k2 c2 with
      | some (_, ha), some (lb, _) => hb_le ha (lb + d)
      | _, _ => false) ||
    (hb_one m1 && hb_one m2 && (match hb_path V.2.1 6 k1 k2 with
      | none => false
      | some c => hb_le (c + c1) (c2 + d))) ||
    (hb_one (-m1) && hb_one (-m2) && (match hb_path V.2.1 6 k2 k1 with
      | none => false
      | some c => hb_le (c + c1) (c2 + d)))
theorem hb_leQ_ok {ρ : Nat → Int} {V : hbV} {a b : hbA} {d x y : Int} (hV : hb_V ρ V) (hx : x = a.2.1 * ρ a.2.2.1 + a.2.2.2) (hy : y = b.2.1 * ρ b.2.2.1 + b.2.2.2) (h : hb_leQ V a b d = true) : x ≤ y + d := by
  obtain ⟨ta, m1, k1, c1⟩ := a
  obtain ⟨tb, m2, k2, c2⟩ := b
  have hx : x = m1 * ρ k1 + c1 := hx
  have hy : y = m2 * ρ k2 + c2 := hy
  unfold hb_leQ at h
  dsimp only at h
  rw [Bool.or_eq_true, Bool.or_eq_true, Bool.or_eq_true] at h
  rcases h with ((h | h) | h) | h
  · rw [Bool.and_eq_true, Bool.and_eq_true] at h
    have e1 := Nat.eq_of_beq_eq_true h.1.1
    have e2 := hb_z_t h.1.2
    have e3 := hb_le_t h.2
    have e4 : m1 = m2 := by omega
    subst e1; subst e4
    omega
  · cases h1 : hb_iv V.1 m1 k1 c1 with
    | none => rw [h1] at h; cases h
    | some p =>
      obtain ⟨p1, p2⟩ := p
      cases h2 : hb_iv V.1 m2 k2 c2 with
      | none => rw [h1, h2] at h; cases h
      | some q =>
        obtain ⟨q1, q2⟩ := q
        rw [h1, h2] at h
        have g1 := hb_iv_ok hV.1 h1
        have g2 := hb_iv_ok hV.1 h2
        have g3 := hb_le_t h
        omega
  · rw [Bool.and_eq_true, Bool.and_eq_true] at h
    have e1 := hb_one_t h.1.1
    have e2 := hb_one_t h.1.2
    subst e1; subst e2
    cases h1 : hb_path V.2.1 6 k1 k2 with
    | none => rw [h1] at h; exact absurd h.2 (by simp)
    | some c =>
      rw [h1] at h
      have g1 := hb_path_ok hV.2.1 6 k1 k2 c h1
      have g2 := hb_le_t h.2
      omega
  · rw [Bool.and_eq_true, Bool.and_eq_true] at h
    have e1 := hb_one_t h.1.1
    have e2 := hb_one_t h.1.2
    have f1 : m1 = -1 := by omega
    have f2 : m2 = -1 := by omega
    subst f1; subst f2
    cases h1 : hb_path V.2.1 6 k2 k1 with
    | none => rw [h1] at h; exact absurd h.2 (by simp)
    | some c =>
      rw [h1] at h
      have g1 := hb_path_ok hV.2.1 6 k2 k1 c h1
      have g2 := hb_le_t h.2
      omega
