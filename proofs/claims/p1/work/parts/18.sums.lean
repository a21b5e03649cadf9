/-! hb_: the sum of two numbers has a number of its own, once: z = a + b is kept as a = z - b -/
def hb_fs (D : List (Nat × Nat × Nat)) (a b : Nat) : Option Nat := match D with
  | [] => none
  | (d, x, y) :: r => cond ((Nat.beq d a && Nat.beq y b) || (Nat.beq d b && Nat.beq y a)) (some x) (hb_fs r a b)
theorem hb_fs_ok {n : Nat} {ρ : Nat → Int} : ∀ {D : List (Nat × Nat × Nat)} {a b z : Nat}, hb_defs n ρ D → hb_fs D a b = some z → z < n ∧ ρ z = ρ a + ρ b
  | [], a, b, z, _, h => by cases h
  | (d, x, y) :: r, a, b, z, hD, h => by
    unfold hb_fs at h
    cases hc : ((Nat.beq d a && Nat.beq y b) || (Nat.beq d b && Nat.beq y a)) with
    | true =>
      rw [hc] at h
      cases h
      obtain ⟨q1, q2, q3, q4⟩ := hD _ List.mem_cons_self
      dsimp only at q1 q2 q3 q4
      rw [Bool.or_eq_true] at hc
      rcases hc with hc | hc
      · rw [Bool.and_eq_true] at hc
        have e1 := Nat.eq_of_beq_eq_true hc.1
        have e2 := Nat.eq_of_beq_eq_true hc.2
        subst e1; subst e2
        exact ⟨q2, by omega⟩
      · rw [Bool.and_eq_true] at hc
        have e1 := Nat.eq_of_beq_eq_true hc.1
        have e2 := Nat.eq_of_beq_eq_true hc.2
        subst e1; subst e2
        exact ⟨q2, by omega⟩
    | false =>
      rw [hc] at h
      exact hb_fs_ok (fun q hq => hD q (List.mem_cons_of_mem _ hq)) h
/-- w = p + q is at most z + c, where z = p + o and q is at most o + c -/
def hb_sumR1 (R : List (Nat × Nat × Int)) (w z s o u v : Nat) : List (Nat × Nat × Int) := cond (Nat.beq s u && !(Nat.beq o v)) (match hb_path R 2 v o with
  | some c => [(w, z, c)]
  | none => []) []
def hb_sumR (R : List (Nat × Nat × Int)) (p q w : Nat) : List (Nat × Nat × Nat) → List (Nat × Nat × Int)
  | [] => []
  | (x, z, y) :: D => hb_sumR1 R w z x y p q ++ (hb_sumR1 R w z x y q p ++ (hb_sumR1 R w z y x p q ++ (hb_sumR1 R w z y x q p ++ hb_sumR R p q w D)))
theorem hb_sumR1_ok {n : Nat} {ρ : Nat → Int} {R : List (Nat × Nat × Int)} {w z s o u v : Nat} (hR : hb_rels n ρ R) (hz : ρ z = ρ s + ρ o) : ∀ r ∈ hb_sumR1 R w z s o u v, r.1 = w ∧ r.2.1 = z ∧ ρ u + ρ v ≤ ρ r.2.1 + r.2.2 := by
  intro r hr
  unfold hb_sumR1 at hr
  cases hc : (Nat.beq s u && !(Nat.beq o v)) with
  | false => rw [hc] at hr; cases hr
  | true =>
    rw [hc, cond_true] at hr
    rw [Bool.and_eq_true] at hc
    have e1 := Nat.eq_of_beq_eq_true hc.1
    cases hp : hb_path R 2 v o with
    | none => rw [hp] at hr; cases hr
    | some c =>
      rw [hp] at hr
      have e2 := List.mem_singleton.mp hr
      subst e2
      have := hb_path_ok hR 2 v o c hp
      refine ⟨rfl, rfl, ?_⟩
      show ρ u + ρ v ≤ ρ z + c
      rw [← e1]
      omega
theorem hb_sumR_ok {n : Nat} {ρ : Nat → Int} {R : List (Nat × Nat × Int)} {p q w : Nat} (hR : hb_rels n ρ R) : ∀ {D : List (Nat × Nat × Nat)}, hb_defs n ρ D → ∀ r ∈ hb_sumR R p q w D, r.1 = w ∧ r.2.1 < n ∧ ρ p + ρ q ≤ ρ r.2.1 + r.2.2
  | [], _, r, hr => by cases hr
  | (x, z, y) :: D, hD, r, hr => by
    obtain ⟨d1, d2, d3, d4⟩ := hD _ List.mem_cons_self
    dsimp only at d1 d2 d3 d4
    unfold hb_sumR at hr
    rcases List.mem_append.mp hr with h | hr
    · obtain ⟨a1, a2, a3⟩ := hb_sumR1_ok hR (by omega) r h
      exact ⟨a1, by rw [a2]; exact d2, a3⟩
    rcases List.mem_append.mp hr with h | hr
    · obtain ⟨a1, a2, a3⟩ := hb_sumR1_ok hR (by omega) r h
      exact ⟨a1, by rw [a2]; exact d2, by omega⟩
    rcases List.mem_append.mp hr with h | hr
    · obtain ⟨a1, a2, a3⟩ := hb_sumR1_ok hR (by omega) r h
      exact ⟨a1, by rw [a2]; exact d2, a3⟩
    rcases List.mem_append.mp hr with h | hr
    · obtain ⟨a1, a2, a3⟩ := hb_sumR1_ok hR (by omega) r h
      exact ⟨a1, by rw [a2]; exact d2, by omega⟩
    · exact hb_sumR_ok hR (fun d hd => hD d (List.mem_cons_of_mem _ hd)) r hr
def hb_addS (V : hbV) (t : Nat) (a b : hbA) : hbV × hbA := match a, b with
  | (ta, m1, k1, c1), (tb, m2, k2, c2) =>
    cond (hb_one m1 && hb_one m2 && !(Nat.beq k1 k2))
      (match hb_fs V.2.2 k1 k2 with
        | some d => hb_res V t (some (1, d, c1 + c2)) none
        | none => match hb_sumI (hb_iv V.1 1 k1 0) (hb_iv V.1 1 k2 0) with
          | none => hb_add V t (ta, m1, k1, c1) (tb, m2, k2, c2)
          | some (lo, hi) => hb_res (V.1 ++ [(lo, hi)], hb_sumR V.2.1 k1 k2 V.1.length V.2.2 ++ V.2.1, (k1, V.1.length, k2) :: V.2.2) t (some (1, V.1.length, c1 + c2)) none)
      (hb_add V t (ta, m1, k1, c1) (tb, m2, k2, c2))
theorem hb_addS_ok {ρ : Nat → Int} {V : hbV} {t : Nat} {a b : hbA} {x y z : Int} (hV : hb_V ρ V) (hx : x = a.2.1 * ρ a.2.2.1 + a.2.2.2) (hy : y = b.2.1 * ρ b.2.2.1 + b.2.2.2)
    (hz : (hb_rg t).1 ≤ x + y → x + y ≤ (hb_rg t).2 → z = x + y) (hr : (hb_rg t).1 ≤ z ∧ z ≤ (hb_rg t).2) : hb_ok V ρ (hb_addS V t a b) t z := by
  have key : hb_ok V ρ (hb_add V t a b) t z := hb_add_ok hV hx hy hz hr
  obtain ⟨ta, m1, k1, c1⟩ := a
  obtain ⟨tb, m2, k2, c2⟩ := b
  have hx : x = m1 * ρ k1 + c1 := hx
  have hy : y = m2 * ρ k2 + c2 := hy
  unfold hb_addS
  dsimp only
  cases hc : (hb_one m1 && hb_one m2 && !(Nat.beq k1 k2)) with
  | false => exact key
  | true =>
    rw [Bool.and_eq_true, Bool.and_eq_true] at hc
    have e1 := hb_one_t hc.1.1
    have e2 := hb_one_t hc.1.2
    subst e1; subst e2
    rw [cond_true]
    cases hf : hb_fs V.2.2 k1 k2 with
    | some d =>
      obtain ⟨hd1, hd2⟩ := hb_fs_ok hV.2.2 hf
      exact hb_res_ok (w := x + y) hV (fun m k c h => by cases h; rw [hx, hy, hd2]; omega) (fun _ _ h => by cases h) hz hr
    | none =>
      cases hs : hb_sumI (hb_iv V.1 1 k1 0) (hb_iv V.1 1 k2 0) with
      | none => exact key
      | some q =>
        obtain ⟨lo, hi⟩ := q
        have hb := hb_sumI_ok (u := 1 * ρ k1 + 0) (v := 1 * ρ k2 + 0) (fun _ _ h => hb_iv_ok hV.1 h) (fun _ _ h => hb_iv_ok hV.1 h) hs
        have l1 : k1 < V.1.length := by
          cases h1 : hb_iv V.1 1 k1 0 with
          | none => rw [h1] at hs; cases hs
          | some q => exact hb_iv_lt h1
        have l2 : k2 < V.1.length := by
          cases h2 : hb_iv V.1 1 k2 0 with
          | none =>
            rw [h2] at hs
            cases h1 : hb_iv V.1 1 k1 0 with
            | none => rw [h1] at hs; cases hs
            | some q => rw [h1] at hs; obtain ⟨_, _⟩ := q; cases hs
          | some q => exact hb_iv_lt h2
        have hV2 : hb_V (hb_ex ρ V.1.length (ρ k1 + ρ k2)) (V.1 ++ [(lo, hi)], hb_sumR V.2.1 k1 k2 V.1.length V.2.2 ++ V.2.1, (k1, V.1.length, k2) :: V.2.2) := by
          obtain ⟨he, hrr, hd⟩ := hV
          have hl : V.1.length ≤ (V.1 ++ [(lo, hi)]).length := by simp
          have hsr : hb_rels (V.1 ++ [(lo, hi)]).length (hb_ex ρ V.1.length (ρ k1 + ρ k2)) (hb_sumR V.2.1 k1 k2 V.1.length V.2.2 ++ V.2.1) := by
            intro r hr'
            rcases List.mem_append.mp hr' with h | h
            · obtain ⟨a1, a2, a3⟩ := hb_sumR_ok hrr hd r h
              refine ⟨by rw [a1]; simp, by simp; omega, ?_⟩
              rw [a1, hb_ex_at, hb_ex_ag ρ _ _ _ a2]
              exact a3
            · exact hrr.ag hl (hb_ex_ag ρ _ _) r h
          refine ⟨he.nw (by omega) (by omega), hsr, fun d hdm => ?_⟩
          rcases List.mem_cons.mp hdm with rfl | hdm
          · refine ⟨by simp; omega, by simp, by simp; omega, ?_⟩
            rw [hb_ex_at, hb_ex_ag ρ _ _ k1 l1, hb_ex_ag ρ _ _ k2 l2]
            omega
          · exact hd.ag hl (hb_ex_ag ρ _ _) d hdm
        obtain ⟨ρ', a1, a2, a3, a4, a5, a6⟩ := hb_res_ok (t := t) (cand := some (1, V.1.length, c1 + c2)) (iv := none) (w := x + y) (z := z) hV2 (fun m k c h => by cases h; rw [hx, hy, hb_ex_at]; omega) (fun _ _ h => by cases h) hz hr
        exact ⟨ρ', (hb_ex_ag ρ _ _).trans (by simp) a1, a2, Nat.le_trans (by simp) a3, a4, a5, a6⟩
/-- an upper bound of a + b, by the sum's own number if it has one -/
def hb_sumQ (V : hbV) (a b : hbA) (B : Int) : Bool := (match hb_iv V.1 a.2.1 a.2.2.1 a.2.2.2, hb_iv V.1 b.2.1 b.2.2.1 b.2.2.2 with
  | some (_, h1), some (_, h2) => hb_le (h1 + h2) B
  | _, _ => false) || (hb_one a.2.1 && hb_one b.2.1 && (match hb_fs V.2.2 a.2.2.1 b.2.2.1 with
  | some z => (match V.1[z]? with
    | some (_, h) => hb_le (h + a.2.2.2 + b.2.2.2) B
    | none => false)
  | none => false))
theorem hb_sumQ_ok {ρ : Nat → Int} {V : hbV} {a b : hbA} {x y B : Int} (hV : hb_V ρ V) (hx : x = a.2.1 * ρ a.2.2.1 + a.2.2.2) (hy : y = b.2.1 * ρ b.2.2.1 + b.2.2.2) (h : hb_sumQ V a b B = true) : x + y ≤ B := by
  unfold hb_sumQ at h
  rw [Bool.or_eq_true] at h
  rcases h with h | h
  · cases h1 : hb_iv V.1 a.2.1 a.2.2.1 a.2.2.2 with
    | none => rw [h1] at h; cases h
    | some p =>
      obtain ⟨p1, p2⟩ := p
      cases h2 : hb_iv V.1 b.2.1 b.2.2.1 b.2.2.2 with
      | none => rw [h1, h2] at h; cases h
      | some q =>
        obtain ⟨q1, q2⟩ := q
        rw [h1, h2] at h
        have g1 := hb_iv_ok hV.1 h1
        have g2 := hb_iv_ok hV.1 h2
        have g3 := hb_le_t h
        omega
  · rw [Bool.and_eq_true, Bool.and_eq_true] at h
    have e1 := hb_one_t h.1.1
    have e2 := hb_one_t h.1.2
    have h3 := h.2
    cases hf : hb_fs V.2.2 a.2.2.1 b.2.2.1 with
    | none => rw [hf] at h3; cases h3
    | some z =>
      rw [hf] at h3
      dsimp only at h3
      cases hz : V.1[z]? with
      | none => rw [hz] at h3; cases h3
      | some q =>
        obtain ⟨l, u⟩ := q
        rw [hz] at h3
        have g1 := (hb_fs_ok hV.2.2 hf).2
        have g2 := (hV.1 _ _ _ hz).2
        have g3 := hb_le_t h3
        rw [e1] at hx
        rw [e2] at hy
        omega
