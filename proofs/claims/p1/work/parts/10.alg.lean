/-! hb_: an abstract interpreter of the bytecode, with its soundness. This part: numbers. A value is m * rho k + c. -/
abbrev hbA : Type := Nat × Int × Nat × Int
abbrev hbE : Type := List (Int × Int)
abbrev hbV : Type := hbE × List (Nat × Nat × Int) × List (Nat × Nat × Nat)
def hb_le : Int → Int → Bool
  | .ofNat a, .ofNat b => Nat.ble a b
  | .ofNat _, .negSucc _ => false
  | .negSucc _, .ofNat _ => true
  | .negSucc a, .negSucc b => Nat.ble b a
theorem hb_le_iff (a b : Int) : hb_le a b = true ↔ a ≤ b := by
  cases a with
  | ofNat a =>
    cases b with
    | ofNat b => simp [hb_le]
    | negSucc b => simp only [hb_le]; constructor <;> intro h <;> first | cases h | (exfalso; simp only [Int.negSucc_eq, Int.ofNat_eq_natCast] at h; omega)
  | negSucc a =>
    cases b with
    | ofNat b =>
      refine ⟨fun _ => ?_, fun _ => rfl⟩
      have h1 := Int.negSucc_lt_zero a
      have h2 : (0 : Int) ≤ Int.ofNat b := Int.natCast_nonneg b
      omega
    | negSucc b => simp only [hb_le, Nat.ble_eq, Int.negSucc_eq]; omega
theorem hb_le_t {a b : Int} (h : hb_le a b = true) : a ≤ b := (hb_le_iff a b).mp h
theorem hb_le_f {a b : Int} (h : hb_le a b = false) : b < a := by
  have h1 : ¬ a ≤ b := fun q => by rw [(hb_le_iff a b).mpr q] at h; cases h
  omega
def hb_min (a b : Int) : Int := cond (hb_le a b) a b
def hb_max (a b : Int) : Int := cond (hb_le a b) b a
theorem hb_min_le (a b : Int) : hb_min a b ≤ a ∧ hb_min a b ≤ b ∧ (hb_min a b = a ∨ hb_min a b = b) := by
  unfold hb_min
  cases h : hb_le a b
  · have := hb_le_f h
    exact ⟨by show b ≤ a; omega, Int.le_refl _, Or.inr rfl⟩
  · have := hb_le_t h
    exact ⟨Int.le_refl _, by show a ≤ b; omega, Or.inl rfl⟩
theorem hb_le_max (a b : Int) : a ≤ hb_max a b ∧ b ≤ hb_max a b ∧ (hb_max a b = a ∨ hb_max a b = b) := by
  unfold hb_max
  cases h : hb_le a b
  · have := hb_le_f h
    exact ⟨Int.le_refl _, by show b ≤ a; omega, Or.inl rfl⟩
  · have := hb_le_t h
    exact ⟨by show a ≤ b; omega, Int.le_refl _, Or.inr rfl⟩
def hb_z (m : Int) : Bool := hb_le m 0 && hb_le 0 m
theorem hb_z_t {m : Int} (h : hb_z m = true) : m = 0 := by
  unfold hb_z at h
  rw [Bool.and_eq_true] at h
  have h1 := hb_le_t h.1
  have h2 := hb_le_t h.2
  omega
def hb_env (ρ : Nat → Int) (E : hbE) : Prop := ∀ (k : Nat) (lo hi : Int), E[k]? = some (lo, hi) → lo ≤ ρ k ∧ ρ k ≤ hi
def hb_rels (n : Nat) (ρ : Nat → Int) (R : List (Nat × Nat × Int)) : Prop := ∀ r ∈ R, r.1 < n ∧ r.2.1 < n ∧ ρ r.1 ≤ ρ r.2.1 + r.2.2
def hb_defs (n : Nat) (ρ : Nat → Int) (D : List (Nat × Nat × Nat)) : Prop := ∀ d ∈ D, d.1 < n ∧ d.2.1 < n ∧ d.2.2 < n ∧ ρ d.1 = ρ d.2.1 - ρ d.2.2
def hb_V (ρ : Nat → Int) (V : hbV) : Prop := hb_env ρ V.1 ∧ hb_rels V.1.length ρ V.2.1 ∧ hb_defs V.1.length ρ V.2.2
def hb_ag (n : Nat) (ρ ρ' : Nat → Int) : Prop := ∀ k, k < n → ρ' k = ρ k
theorem hb_ag.rf {n : Nat} {ρ : Nat → Int} : hb_ag n ρ ρ := fun _ _ => rfl
theorem hb_ag.trans {n n' : Nat} {ρ ρ' ρ'' : Nat → Int} (h : hb_ag n ρ ρ') (hn : n ≤ n') (h' : hb_ag n' ρ' ρ'') : hb_ag n ρ ρ'' := fun k hk => (h' k (Nat.lt_of_lt_of_le hk hn)).trans (h k hk)
theorem hb_rels.ag {n n' : Nat} {ρ ρ' : Nat → Int} {R : List (Nat × Nat × Int)} (h : hb_rels n ρ R) (hn : n ≤ n') (ha : hb_ag n ρ ρ') : hb_rels n' ρ' R := fun r hr => by
  obtain ⟨h1, h2, h3⟩ := h r hr
  exact ⟨Nat.lt_of_lt_of_le h1 hn, Nat.lt_of_lt_of_le h2 hn, by rw [ha _ h1, ha _ h2]; exact h3⟩
theorem hb_defs.ag {n n' : Nat} {ρ ρ' : Nat → Int} {D : List (Nat × Nat × Nat)} (h : hb_defs n ρ D) (hn : n ≤ n') (ha : hb_ag n ρ ρ') : hb_defs n' ρ' D := fun r hr => by
  obtain ⟨h1, h2, h3, h4⟩ := h r hr
  exact ⟨Nat.lt_of_lt_of_le h1 hn, Nat.lt_of_lt_of_le h2 hn, Nat.lt_of_lt_of_le h3 hn, by rw [ha _ h1, ha _ h2, ha _ h3]; exact h4⟩
def hb_ex (ρ : Nat → Int) (n : Nat) (z : Int) : Nat → Int := fun k => if k = n then z else ρ k
theorem hb_ex_ag (ρ : Nat → Int) (n : Nat) (z : Int) : hb_ag n ρ (hb_ex ρ n z) := fun k hk => by
  unfold hb_ex
  rw [if_neg (Nat.ne_of_lt hk)]
theorem hb_ex_at (ρ : Nat → Int) (n : Nat) (z : Int) : hb_ex ρ n z n = z := by
  unfold hb_ex
  rw [if_pos rfl]
/-- the bounds of m * rho k + c -/
def hb_iv (E : hbE) (m : Int) (k : Nat) (c : Int) : Option (Int × Int) := match E[k]? with
  | none => none
  | some (lo, hi) => cond (hb_le 0 m) (some (m * lo + c, m * hi + c)) (some (m * hi + c, m * lo + c))
theorem hb_iv_ok {ρ : Nat → Int} {E : hbE} {m c : Int} {k : Nat} {a b : Int} (he : hb_env ρ E) (h : hb_iv E m k c = some (a, b)) : a ≤ m * ρ k + c ∧ m * ρ k + c ≤ b := by
  unfold hb_iv at h
  cases hk : E[k]? with
  | none => rw [hk] at h; cases h
  | some q =>
    obtain ⟨lo, hi⟩ := q
    rw [hk] at h
    obtain ⟨h1, h2⟩ := he k lo hi hk
    cases hm : hb_le 0 m with
    | true =>
      simp only [hm, cond_true] at h
      cases h
      have h0 := hb_le_t hm
      have := Int.mul_le_mul_of_nonneg_left h1 h0
      have := Int.mul_le_mul_of_nonneg_left h2 h0
      omega
    | false =>
      simp only [hm, cond_false] at h
      cases h
      have h0 := hb_le_f hm
      have := Int.mul_le_mul_of_nonpos_left (show m ≤ 0 by omega) h1
      have := Int.mul_le_mul_of_nonpos_left (show m ≤ 0 by omega) h2
      omega
theorem hb_iv_lt {E : hbE} {m c : Int} {k : Nat} {x : Int × Int} (h : hb_iv E m k c = some x) : k < E.length := by
  unfold hb_iv at h
  cases hk : E[k]? with
  | none => rw [hk] at h; cases h
  | some q => exact (List.getElem?_eq_some_iff.mp hk).1
def hb_rg (t : Nat) : Int × Int := match t with
  | 0 => (-2147483648, 2147483647)
  | _ => (-9223372036854775808, 9223372036854775807)
def hb_win (t : Nat) (x : Option (Int × Int)) : Bool := match x with
  | none => false
  | some (a, b) => hb_le (hb_rg t).1 a && hb_le b (hb_rg t).2
def hb_nw (V : hbV) (t : Nat) (lo hi : Int) : hbV × hbA := ((V.1 ++ [(lo, hi)], V.2), (t, 1, V.1.length, 0))
/-- what an operation gives: new numbers, and a value among them -/
def hb_ok (V : hbV) (ρ : Nat → Int) (r : hbV × hbA) (t : Nat) (z : Int) : Prop :=
  ∃ ρ', hb_ag V.1.length ρ ρ' ∧ hb_V ρ' r.1 ∧ V.1.length ≤ r.1.1.length ∧ r.2.1 = t ∧ r.2.2.2.1 < r.1.1.length ∧ z = r.2.2.1 * ρ' r.2.2.2.1 + r.2.2.2.2
theorem hb_env.nw {ρ : Nat → Int} {E : hbE} {lo hi z : Int} (he : hb_env ρ E) (h1 : lo ≤ z) (h2 : z ≤ hi) : hb_env (hb_ex ρ E.length z) (E ++ [(lo, hi)]) := by
  intro k a b hk
  by_cases hl : k < E.length
  · rw [List.getElem?_append_left hl] at hk
    rw [hb_ex_ag ρ E.length z k hl]
    exact he k a b hk
  · rw [List.getElem?_append_right (by omega)] at hk
    have hz : k - E.length < 1 := (List.getElem?_eq_some_iff.mp hk).1
    have hk0 : k = E.length := by omega
    subst hk0
    rw [Nat.sub_self] at hk
    cases hk
    rw [hb_ex_at]
    exact ⟨h1, h2⟩
theorem hb_V.nw {ρ : Nat → Int} {V : hbV} {lo hi z : Int} (hV : hb_V ρ V) (h1 : lo ≤ z) (h2 : z ≤ hi) (t : Nat) : hb_V (hb_ex ρ V.1.length z) (hb_nw V t lo hi).1 := by
  obtain ⟨he, hr, hd⟩ := hV
  have hl : V.1.length ≤ (hb_nw V t lo hi).1.1.length := by simp [hb_nw]
  exact ⟨he.nw h1 h2, hr.ag hl (hb_ex_ag ρ _ z), hd.ag hl (hb_ex_ag ρ _ z)⟩
theorem hb_nw_ok {ρ : Nat → Int} {V : hbV} {lo hi z : Int} (hV : hb_V ρ V) (h1 : lo ≤ z) (h2 : z ≤ hi) (t : Nat) : hb_ok V ρ (hb_nw V t lo hi) t z :=
  ⟨hb_ex ρ V.1.length z, hb_ex_ag ρ _ z, hV.nw h1 h2 t, by simp [hb_nw], rfl, by simp [hb_nw], by simp [hb_nw, hb_ex_at]⟩
theorem hb_same_ok {ρ : Nat → Int} {V : hbV} {t : Nat} {m : Int} {k : Nat} {c z : Int} (hV : hb_V ρ V) (hk : k < V.1.length) (hz : z = m * ρ k + c) : hb_ok V ρ (V, (t, m, k, c)) t z :=
  ⟨ρ, hb_ag.rf, hV, Nat.le_refl _, rfl, hk, hz⟩
/-- the value that an operation gives: the affine one if it stays within the type, else bounds, else anything -/
def hb_res (V : hbV) (t : Nat) (cand : Option (Int × Nat × Int)) (iv : Option (Int × Int)) : hbV × hbA := match cand with
  | some (m, k, c) => cond (hb_win t (hb_iv V.1 m k c)) (V, (t, m, k, c)) (hb_nw V t (hb_rg t).1 (hb_rg t).2)
  | none => match iv with
    | some (a, b) => cond (hb_win t (some (a, b))) (hb_nw V t a b) (hb_nw V t (hb_rg t).1 (hb_rg t).2)
    | none => hb_nw V t (hb_rg t).1 (hb_rg t).2
theorem hb_res_ok {ρ : Nat → Int} {V : hbV} {t : Nat} {cand : Option (Int × Nat × Int)} {iv : Option (Int × Int)} {w z : Int} (hV : hb_V ρ V) (hc : ∀ m k c, cand = some (m, k, c) → w = m * ρ k + c) (hi : ∀ a b, iv = some (a, b) → a ≤ w ∧ w ≤ b)
    (hz : (hb_rg t).1 ≤ w → w ≤ (hb_rg t).2 → z = w) (hr : (hb_rg t).1 ≤ z ∧ z ≤ (hb_rg t).2) : hb_ok V ρ (hb_res V t cand iv) t z := by
  cases cand with
  | some q =>
    obtain ⟨m, k, c⟩ := q
    show hb_ok V ρ (cond (hb_win t (hb_iv V.1 m k c)) (V, (t, m, k, c)) (hb_nw V t (hb_rg t).1 (hb_rg t).2)) t z
    cases hw : hb_win t (hb_iv V.1 m k c) with
    | false => exact hb_nw_ok hV hr.1 hr.2 t
    | true =>
      cases hx : hb_iv V.1 m k c with
      | none => rw [hx] at hw; cases hw
      | some y =>
        obtain ⟨a, b⟩ := y
        rw [hx] at hw
        simp only [hb_win, Bool.and_eq_true] at hw
        have h1 := hb_iv_ok hV.1 hx
        have h2 := hb_le_t hw.1
        have h3 := hb_le_t hw.2
        have h4 := hc m k c rfl
        exact hb_same_ok hV (hb_iv_lt hx) (by rw [← h4]; exact hz (by omega) (by omega))
  | none =>
    cases iv with
    | none => exact hb_nw_ok hV hr.1 hr.2 t
    | some y =>
      obtain ⟨a, b⟩ := y
      show hb_ok V ρ (cond (hb_win t (some (a, b))) (hb_nw V t a b) (hb_nw V t (hb_rg t).1 (hb_rg t).2)) t z
      cases hw : hb_win t (some (a, b)) with
      | false => exact hb_nw_ok hV hr.1 hr.2 t
      | true =>
        simp only [hb_win, Bool.and_eq_true] at hw
        have h2 := hb_le_t hw.1
        have h3 := hb_le_t hw.2
        obtain ⟨h4, h5⟩ := hi a b rfl
        have h6 := hz (by omega) (by omega)
        exact hb_nw_ok hV (by omega) (by omega) t
def hb_addC (m1 : Int) (k1 : Nat) (c1 : Int) (m2 : Int) (k2 : Nat) (c2 : Int) : Option (Int × Nat × Int) :=
  cond (hb_z m1) (some (m2, k2, c1 + c2)) (cond (hb_z m2) (some (m1, k1, c1 + c2)) (cond (Nat.beq k1 k2) (some (m1 + m2, k1, c1 + c2)) none))
theorem hb_addC_ok {ρ : Nat → Int} {m1 c1 m2 c2 : Int} {k1 k2 : Nat} {m : Int} {k : Nat} {c : Int} (h : hb_addC m1 k1 c1 m2 k2 c2 = some (m, k, c)) : (m1 * ρ k1 + c1) + (m2 * ρ k2 + c2) = m * ρ k + c := by
  unfold hb_addC at h
  cases h1 : hb_z m1 with
  | true =>
    rw [h1] at h
    cases h
    rw [hb_z_t h1]
    omega
  | false =>
    rw [h1] at h
    cases h2 : hb_z m2 with
    | true =>
      rw [h2] at h
      cases h
      rw [hb_z_t h2]
      omega
    | false =>
      rw [h2] at h
      cases h3 : Nat.beq k1 k2 with
      | false => rw [h3] at h; cases h
      | true =>
        rw [h3] at h
        cases h
        have := Nat.eq_of_beq_eq_true h3
        subst this
        rw [Int.add_mul]
        omega
def hb_sumI (x y : Option (Int × Int)) : Option (Int × Int) := match x, y with
  | some (a, b), some (a', b') => some (a + a', b + b')
  | _, _ => none
theorem hb_sumI_ok {x y : Option (Int × Int)} {a b u v : Int} (hx : ∀ a b, x = some (a, b) → a ≤ u ∧ u ≤ b) (hy : ∀ a b, y = some (a, b) → a ≤ v ∧ v ≤ b) (h : hb_sumI x y = some (a, b)) : a ≤ u + v ∧ u + v ≤ b := by
  cases x with
  | none => cases h
  | some p =>
    obtain ⟨p1, p2⟩ := p
    cases y with
    | none => cases h
    | some q =>
      obtain ⟨q1, q2⟩ := q
      cases h
      have h1 := hx _ _ rfl
      have h2 := hy _ _ rfl
      omega
def hb_add (V : hbV) (t : Nat) (a b : hbA) : hbV × hbA := match a, b with
  | (_, m1, k1, c1), (_, m2, k2, c2) => hb_res V t (hb_addC m1 k1 c1 m2 k2 c2) (hb_sumI (hb_iv V.1 m1 k1 c1) (hb_iv V.1 m2 k2 c2))
theorem hb_add_ok {ρ : Nat → Int} {V : hbV} {t : Nat} {a b : hbA} {x y z : Int} (hV : hb_V ρ V) (hx : x = a.2.1 * ρ a.2.2.1 + a.2.2.2) (hy : y = b.2.1 * ρ b.2.2.1 + b.2.2.2)
    (hz : (hb_rg t).1 ≤ x + y → x + y ≤ (hb_rg t).2 → z = x + y) (hr : (hb_rg t).1 ≤ z ∧ z ≤ (hb_rg t).2) : hb_ok V ρ (hb_add V t a b) t z := by
  obtain ⟨ta, m1, k1, c1⟩ := a
  obtain ⟨tb, m2, k2, c2⟩ := b
  refine hb_res_ok (w := x + y) hV (fun m k c h => ?_) (fun p q h => ?_) hz hr
  · rw [hx, hy]; exact hb_addC_ok h
  · rw [hx, hy]; exact hb_sumI_ok (fun _ _ h => hb_iv_ok hV.1 h) (fun _ _ h => hb_iv_ok hV.1 h) h
def hb_ng (a : hbA) : hbA := match a with
  | (t, m, k, c) => (t, -m, k, -c)
theorem hb_ng_ok {ρ : Nat → Int} {a : hbA} {x : Int} (hx : x = a.2.1 * ρ a.2.2.1 + a.2.2.2) : -x = (hb_ng a).2.1 * ρ (hb_ng a).2.2.1 + (hb_ng a).2.2.2 := by
  obtain ⟨t, m, k, c⟩ := a
  show -x = -m * ρ k + -c
  have hx : x = m * ρ k + c := hx
  rw [hx, Int.neg_mul]
  omega
/-- the difference of two numbers has a number of its own, once -/
def hb_fd (D : List (Nat × Nat × Nat)) (a b : Nat) : Option Nat := match D with
  | [] => none
  | (d, x, y) :: r => cond (Nat.beq x a && Nat.beq y b) (some d) (hb_fd r a b)
theorem hb_fd_ok {n : Nat} {ρ : Nat → Int} : ∀ {D : List (Nat × Nat × Nat)} {a b d : Nat}, hb_defs n ρ D → hb_fd D a b = some d → d < n ∧ ρ d = ρ a - ρ b
  | [], a, b, d, _, h => by cases h
  | (e, x, y) :: r, a, b, d, hD, h => by
    unfold hb_fd at h
    cases hc : (Nat.beq x a && Nat.beq y b) with
    | true =>
      rw [hc] at h
      cases h
      rw [Bool.and_eq_true] at hc
      have e1 := Nat.eq_of_beq_eq_true hc.1
      have e2 := Nat.eq_of_beq_eq_true hc.2
      subst e1; subst e2
      obtain ⟨q1, -, -, q4⟩ := hD _ List.mem_cons_self
      exact ⟨q1, q4⟩
    | false =>
      rw [hc] at h
      exact hb_fd_ok (fun q hq => hD q (List.mem_cons_of_mem _ hq)) h
def hb_one (m : Int) : Bool := hb_le m 1 && hb_le 1 m
theorem hb_one_t {m : Int} (h : hb_one m = true) : m = 1 := by
  unfold hb_one at h
  rw [Bool.and_eq_true] at h
  have h1 := hb_le_t h.1
  have h2 := hb_le_t h.2
  omega
def hb_sub (V : hbV) (t : Nat) (a b : hbA) : hbV × hbA := match a, b with
  | (ta, m1, k1, c1), (tb, m2, k2, c2) =>
    cond (hb_one m1 && hb_one m2 && !(Nat.beq k1 k2))
      (match hb_fd V.2.2 k1 k2 with
        | some d => hb_res V t (some (1, d, c1 - c2)) none
        | none => match hb_sumI (hb_iv V.1 1 k1 0) (hb_iv V.1 (-1) k2 0) with
          | none => hb_add V t (ta, m1, k1, c1) (hb_ng (tb, m2, k2, c2))
          | some (lo, hi) => hb_res (V.1 ++ [(lo, hi)], V.2.1, (V.1.length, k1, k2) :: V.2.2) t (some (1, V.1.length, c1 - c2)) none)
      (hb_add V t (ta, m1, k1, c1) (hb_ng (tb, m2, k2, c2)))
theorem hb_sub_ok {ρ : Nat → Int} {V : hbV} {t : Nat} {a b : hbA} {x y z : Int} (hV : hb_V ρ V) (hx : x = a.2.1 * ρ a.2.2.1 + a.2.2.2) (hy : y = b.2.1 * ρ b.2.2.1 + b.2.2.2)
    (hz : (hb_rg t).1 ≤ x - y → x - y ≤ (hb_rg t).2 → z = x - y) (hr : (hb_rg t).1 ≤ z ∧ z ≤ (hb_rg t).2) : hb_ok V ρ (hb_sub V t a b) t z := by
  have key : hb_ok V ρ (hb_add V t a (hb_ng b)) t z := hb_add_ok hV hx (hb_ng_ok hy) (by rw [← Int.sub_eq_add_neg]; exact hz) hr
  obtain ⟨ta, m1, k1, c1⟩ := a
  obtain ⟨tb, m2, k2, c2⟩ := b
  have hx : x = m1 * ρ k1 + c1 := hx
  have hy : y = m2 * ρ k2 + c2 := hy
  unfold hb_sub
  dsimp only
  cases hc : (hb_one m1 && hb_one m2 && !(Nat.beq k1 k2)) with
  | false => exact key
  | true =>
    rw [Bool.and_eq_true, Bool.and_eq_true] at hc
    have e1 := hb_one_t hc.1.1
    have e2 := hb_one_t hc.1.2
    subst e1; subst e2
    rw [cond_true]
    cases hf : hb_fd V.2.2 k1 k2 with
    | some d =>
      obtain ⟨hd1, hd2⟩ := hb_fd_ok hV.2.2 hf
      exact hb_res_ok (w := x - y) hV (fun m k c h => by cases h; rw [hx, hy, hd2]; omega) (fun _ _ h => by cases h) hz hr
    | none =>
      cases hs : hb_sumI (hb_iv V.1 1 k1 0) (hb_iv V.1 (-1) k2 0) with
      | none => exact key
      | some q =>
        obtain ⟨lo, hi⟩ := q
        have hb := hb_sumI_ok (u := 1 * ρ k1 + 0) (v := -1 * ρ k2 + 0) (fun _ _ h => hb_iv_ok hV.1 h) (fun _ _ h => hb_iv_ok hV.1 h) hs
        have l1 : k1 < V.1.length := by
          cases h1 : hb_iv V.1 1 k1 0 with
          | none => rw [h1] at hs; cases hs
          | some q => exact hb_iv_lt h1
        have l2 : k2 < V.1.length := by
          cases h2 : hb_iv V.1 (-1) k2 0 with
          | none =>
            rw [h2] at hs
            cases h1 : hb_iv V.1 1 k1 0 with
            | none => rw [h1] at hs; cases hs
            | some q => rw [h1] at hs; obtain ⟨_, _⟩ := q; cases hs
          | some q => exact hb_iv_lt h2
        have hV2 : hb_V (hb_ex ρ V.1.length (ρ k1 - ρ k2)) (V.1 ++ [(lo, hi)], V.2.1, (V.1.length, k1, k2) :: V.2.2) := by
          obtain ⟨he, hrr, hd⟩ := hV
          have hl : V.1.length ≤ (V.1 ++ [(lo, hi)]).length := by simp
          refine ⟨he.nw (by omega) (by omega), hrr.ag hl (hb_ex_ag ρ _ _), fun d hdm => ?_⟩
          rcases List.mem_cons.mp hdm with rfl | hdm
          · refine ⟨by simp, by simp; omega, by simp; omega, ?_⟩
            rw [hb_ex_at, hb_ex_ag ρ _ _ k1 l1, hb_ex_ag ρ _ _ k2 l2]
          · exact hd.ag hl (hb_ex_ag ρ _ _) d hdm
        obtain ⟨ρ', a1, a2, a3, a4, a5, a6⟩ := hb_res_ok (t := t) (cand := some (1, V.1.length, c1 - c2)) (iv := none) (w := x - y) (z := z) hV2 (fun m k c h => by cases h; rw [hx, hy, hb_ex_at]; omega) (fun _ _ h => by cases h) hz hr
        exact ⟨ρ', (hb_ex_ag ρ _ _).trans (by simp) a1, a2, Nat.le_trans (by simp) a3, a4, a5, a6⟩
def hb_mulC (m1 : Int) (k1 : Nat) (c1 : Int) (m2 : Int) (k2 : Nat) (c2 : Int) : Option (Int × Nat × Int) :=
  cond (hb_z m1) (some (c1 * m2, k2, c1 * c2)) (cond (hb_z m2) (some (m1 * c2, k1, c1 * c2)) none)
theorem hb_prod1 {a b x y : Int} (h1 : a ≤ x) (h2 : x ≤ b) : hb_min (a * y) (b * y) ≤ x * y ∧ x * y ≤ hb_max (a * y) (b * y) := by
  have g1 := hb_min_le (a * y) (b * y)
  have g2 := hb_le_max (a * y) (b * y)
  by_cases hy : 0 ≤ y
  · have := Int.mul_le_mul_of_nonneg_right h1 hy
    have := Int.mul_le_mul_of_nonneg_right h2 hy
    omega
  · have := Int.mul_le_mul_of_nonpos_right h1 (show y ≤ 0 by omega)
    have := Int.mul_le_mul_of_nonpos_right h2 (show y ≤ 0 by omega)
    omega
theorem hb_prod {a b c d x y : Int} (h1 : a ≤ x) (h2 : x ≤ b) (h3 : c ≤ y) (h4 : y ≤ d) : hb_min (hb_min (a * c) (a * d)) (hb_min (b * c) (b * d)) ≤ x * y ∧ x * y ≤ hb_max (hb_max (a * c) (a * d)) (hb_max (b * c) (b * d)) := by
  have g := hb_prod1 (y := y) h1 h2
  have e1 := hb_prod1 (y := a) h3 h4
  have e2 := hb_prod1 (y := b) h3 h4
  rw [Int.mul_comm c a, Int.mul_comm d a, Int.mul_comm y a] at e1
  rw [Int.mul_comm c b, Int.mul_comm d b, Int.mul_comm y b] at e2
  have p1 := hb_min_le (a * y) (b * y)
  have p2 := hb_le_max (a * y) (b * y)
  have p3 := hb_min_le (hb_min (a * c) (a * d)) (hb_min (b * c) (b * d))
  have p4 := hb_le_max (hb_max (a * c) (a * d)) (hb_max (b * c) (b * d))
  rcases p1.2.2 with q1 | q1 <;> rcases p2.2.2 with q2 | q2 <;> omega
def hb_mulI (x y : Option (Int × Int)) : Option (Int × Int) := match x, y with
  | some (a, b), some (a', b') => some (hb_min (hb_min (a * a') (a * b')) (hb_min (b * a') (b * b')), hb_max (hb_max (a * a') (a * b')) (hb_max (b * a') (b * b')))
  | _, _ => none
def hb_mul (V : hbV) (t : Nat) (a b : hbA) : hbV × hbA := match a, b with
  | (_, m1, k1, c1), (_, m2, k2, c2) => hb_res V t (hb_mulC m1 k1 c1 m2 k2 c2) (hb_mulI (hb_iv V.1 m1 k1 c1) (hb_iv V.1 m2 k2 c2))
theorem hb_mul_ok {ρ : Nat → Int} {V : hbV} {t : Nat} {a b : hbA} {x y z : Int} (hV : hb_V ρ V) (hx : x = a.2.1 * ρ a.2.2.1 + a.2.2.2) (hy : y = b.2.1 * ρ b.2.2.1 + b.2.2.2)
    (hz : (hb_rg t).1 ≤ x * y → x * y ≤ (hb_rg t).2 → z = x * y) (hr : (hb_rg t).1 ≤ z ∧ z ≤ (hb_rg t).2) : hb_ok V ρ (hb_mul V t a b) t z := by
  obtain ⟨ta, m1, k1, c1⟩ := a
  obtain ⟨tb, m2, k2, c2⟩ := b
  have hx : x = m1 * ρ k1 + c1 := hx
  have hy : y = m2 * ρ k2 + c2 := hy
  refine hb_res_ok (w := x * y) hV (fun m k c h => ?_) (fun p q h => ?_) hz hr
  · unfold hb_mulC at h
    cases h1 : hb_z m1 with
    | true =>
      rw [h1] at h
      cases h
      have hx : x = c1 := by rw [hx, hb_z_t h1]; omega
      rw [hx, hy, Int.mul_add, Int.mul_assoc]
    | false =>
      rw [h1] at h
      cases h2 : hb_z m2 with
      | false => rw [h2] at h; cases h
      | true =>
        rw [h2] at h
        cases h
        have hy : y = c2 := by rw [hy, hb_z_t h2]; omega
        rw [hx, hy, Int.add_mul, Int.mul_assoc, Int.mul_comm (ρ _) c2, ← Int.mul_assoc]
  · cases hp : hb_iv V.1 m1 k1 c1 with
    | none => rw [hp] at h; cases h
    | some u =>
      obtain ⟨u1, u2⟩ := u
      cases hq : hb_iv V.1 m2 k2 c2 with
      | none => rw [hp, hq] at h; cases h
      | some v =>
        obtain ⟨v1, v2⟩ := v
        rw [hp, hq] at h
        unfold hb_mulI at h
        dsimp only at h
        cases h
        obtain ⟨a1, a2⟩ := hb_iv_ok hV.1 hp
        obtain ⟨b1, b2⟩ := hb_iv_ok hV.1 hq
        rw [← hx] at a1 a2
        rw [← hy] at b1 b2
        exact hb_prod a1 a2 b1 b2
/-- a value whose bounds are known by themselves -/
def hb_bnd (V : hbV) (t : Nat) (iv : Option (Int × Int)) : hbV × hbA := hb_res V t none iv
theorem hb_bnd_ok {ρ : Nat → Int} {V : hbV} {t : Nat} {iv : Option (Int × Int)} {z : Int} (hV : hb_V ρ V) (hi : ∀ a b, iv = some (a, b) → a ≤ z ∧ z ≤ b) (hr : (hb_rg t).1 ≤ z ∧ z ≤ (hb_rg t).2) : hb_ok V ρ (hb_bnd V t iv) t z :=
  hb_res_ok (w := z) hV (fun _ _ _ h => by cases h) hi (fun _ _ => rfl) hr
