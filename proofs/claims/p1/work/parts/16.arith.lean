/-! hb_: shifts, quotients, rests, cuts -/
/-- bounds; one number alone is a constant -/
def hb_bd (V : hbV) (t : Nat) (iv : Option (Int × Int)) : hbV × hbA := match iv with
  | none => hb_bnd V t none
  | some (a, b) => cond (hb_z (b - a)) (V, (t, 0, 0, a)) (hb_bnd V t (some (a, b)))
theorem hb_bd_ok {ρ : Nat → Int} {V : hbV} {t : Nat} {iv : Option (Int × Int)} {z : Int} (hV : hb_V ρ V) (h0 : 0 < V.1.length) (hi : ∀ a b, iv = some (a, b) → a ≤ z ∧ z ≤ b) (hr : (hb_rg t).1 ≤ z ∧ z ≤ (hb_rg t).2) : hb_ok V ρ (hb_bd V t iv) t z := by
  cases iv with
  | none => exact hb_bnd_ok hV (fun _ _ h => by cases h) hr
  | some q =>
    obtain ⟨a, b⟩ := q
    show hb_ok V ρ (cond (hb_z (b - a)) (V, (t, 0, 0, a)) (hb_bnd V t (some (a, b)))) t z
    cases h : hb_z (b - a) with
    | false => exact hb_bnd_ok hV hi hr
    | true =>
      have e := hb_z_t h
      obtain ⟨h1, h2⟩ := hi a b rfl
      exact hb_same_ok hV h0 (by show z = 0 * ρ 0 + a; omega)
theorem hb_sh31 : ∀ n, n < 32 → ((nI n &&& 31).toBitVec.smod 32).toNat = n := by decide +kernel
theorem hb_toI {x : Int32} {n : Nat} (h : x.toInt = (n : Int)) : x = nI n := by
  have h1 := fb_rng x
  apply Int32.toInt_inj.mp
  rw [h, nI_toInt (by omega)]
theorem hb_shl_n {x y : Int32} {p j : Nat} (hx : x.toInt = (p : Int)) (hy : y.toInt = (j : Int)) (hj : j < 32) (hp : p * 2 ^ j < 2147483648) : (x <<< (y &&& 31)).toInt = ((p * 2 ^ j : Nat) : Int) := by
  rw [hb_toI hx, hb_toI hy, pk_shlN (nI j &&& 31) j (hb_sh31 j hj) (by omega), nI_toInt (by omega)]
def hb_nt (z : Int) : Option Nat := match z with
  | .ofNat n => some n
  | .negSucc _ => none
theorem hb_nt_ok {z : Int} {n : Nat} (h : hb_nt z = some n) : z = (n : Int) := by
  cases z with
  | ofNat m => cases h; rfl
  | negSucc m => cases h
/-- p << [l, h] -/
def hb_shlI (p l h : Option Nat) : Option (Int × Int) := match p, l, h with
  | some p, some l, some h => cond (Nat.ble h 30 && Nat.blt (p * 2 ^ h) 2147483648) (some (.ofNat (p * 2 ^ l), .ofNat (p * 2 ^ h))) none
  | _, _, _ => none
def hb_ob {α β : Type} (x : Option α) (f : α → Option β) : Option β := match x with
  | none => none
  | some a => f a
def hb_shl (V : hbV) (a b : hbA) : hbV × hbA := match hb_iv V.1 b.2.1 b.2.2.1 b.2.2.2 with
  | none => hb_bnd V 0 none
  | some (l, h) => hb_bd V 0 (hb_shlI (hb_ob (hb_cst a) hb_nt) (hb_nt l) (hb_nt h))
theorem hb_ob_some {α β : Type} {x : Option α} {f : α → Option β} {b : β} (h : hb_ob x f = some b) : ∃ a, x = some a ∧ f a = some b := by
  cases x with
  | none => cases h
  | some a => exact ⟨a, rfl, h⟩
theorem hb_shl_ok {ρ : Nat → Int} {V : hbV} {a b : hbA} {x y : Int32} (hV : hb_V ρ V) (h0 : 0 < V.1.length) (hx : x.toInt = a.2.1 * ρ a.2.2.1 + a.2.2.2) (hy : y.toInt = b.2.1 * ρ b.2.2.1 + b.2.2.2) : hb_ok V ρ (hb_shl V a b) 0 (x <<< (y &&& 31)).toInt := by
  unfold hb_shl
  cases h1 : hb_iv V.1 b.2.1 b.2.2.1 b.2.2.2 with
  | none => exact hb_bnd_ok hV (fun _ _ h => by cases h) (hb_rng0 _)
  | some q =>
    obtain ⟨l, h⟩ := q
    have g := hb_iv_ok hV.1 h1
    rw [← hy] at g
    refine hb_bd_ok hV h0 (fun u v hs => ?_) (hb_rng0 _)
    cases hp : hb_ob (hb_cst a) hb_nt with
    | none => rw [hp] at hs; cases hs
    | some p =>
      cases hl : hb_nt l with
      | none => rw [hp, hl] at hs; cases hs
      | some l' =>
        cases hh : hb_nt h with
        | none => rw [hp, hl, hh] at hs; cases hs
        | some h' =>
          rw [hp, hl, hh] at hs
          unfold hb_shlI at hs
          dsimp only at hs
          cases hc : (Nat.ble h' 30 && Nat.blt (p * 2 ^ h') 2147483648) with
          | false => rw [hc] at hs; cases hs
          | true =>
            rw [hc] at hs
            cases hs
            rw [Bool.and_eq_true] at hc
            have n1 := Nat.le_of_ble_eq_true hc.1
            have n2 : p * 2 ^ h' < 2147483648 := Nat.le_of_ble_eq_true hc.2
            obtain ⟨cv, c1, c2⟩ := hb_ob_some hp
            have ex : x.toInt = (p : Int) := (hb_cst_ok hx c1).trans (hb_nt_ok c2)
            have el := hb_nt_ok hl
            have eh := hb_nt_ok hh
            obtain ⟨j, hj⟩ : ∃ j : Nat, y.toInt = (j : Int) := ⟨y.toInt.toNat, by omega⟩
            have hlj : l' ≤ j := by omega
            have hjh : j ≤ h' := by omega
            have p1 : 2 ^ l' ≤ 2 ^ j := Nat.pow_le_pow_right (by omega) hlj
            have p2 : 2 ^ j ≤ 2 ^ h' := Nat.pow_le_pow_right (by omega) hjh
            have m1 : p * 2 ^ l' ≤ p * 2 ^ j := Nat.mul_le_mul_left p p1
            have m2 : p * 2 ^ j ≤ p * 2 ^ h' := Nat.mul_le_mul_left p p2
            rw [hb_shl_n ex hj (by omega) (by omega)]
            exact ⟨Int.ofNat_le.mpr m1, Int.ofNat_le.mpr m2⟩
theorem hb_amt (y : Int32) : ∃ k, k < 32 ∧ ((y &&& 31).toBitVec.smod 32).toNat = k ∧ (∀ j : Nat, j < 32 → y.toInt = (j : Int) → k = j) := by
  have h : 0 ≤ (31 : Int32).toInt := by decide
  have h1 := hb_and_r (x := y) h
  have h31 : (31 : Int32).toInt = 31 := by decide
  rw [h31] at h1
  obtain ⟨n, hn⟩ : ∃ n : Nat, (y &&& 31).toInt = (n : Int) := ⟨(y &&& 31).toInt.toNat, by omega⟩
  have e := hb_toI hn
  have h2 := hb_sh31 n (by omega)
  have h3 : nI n &&& 31 = nI n := by
    have : ∀ n, n < 32 → nI n &&& 31 = nI n := by decide +kernel
    exact this n (by omega)
  rw [h3] at h2
  refine ⟨n, by omega, by rw [e]; exact h2, fun j hj hy => ?_⟩
  have h4 : ∀ n, n < 32 → nI n &&& 31 = nI n := by decide +kernel
  have h5 : (y &&& 31).toInt = (j : Int) := by rw [hb_toI hy, h4 j hj, nI_toInt (by omega)]
  omega
theorem hb_shr_n {x y : Int32} (hx : 0 ≤ x.toInt) : ∃ k, k < 32 ∧ (x >>> (y &&& 31)).toInt = ((x.toInt.toNat / 2 ^ k : Nat) : Int) ∧ (∀ j : Nat, j < 32 → y.toInt = (j : Int) → k = j) := by
  obtain ⟨k, h1, h2, h3⟩ := hb_amt y
  refine ⟨k, h1, ?_, h3⟩
  rw [pk_shr x (y &&& 31) k h2]
  obtain ⟨n, hn⟩ : ∃ n : Nat, x.toInt = (n : Int) := ⟨x.toInt.toNat, by omega⟩
  rw [hn, Int.toNat_natCast]
  show ((n >>> k : Nat) : Int) = _
  rw [Nat.shiftRight_eq_div_pow]
def hb_shr (V : hbV) (a b : hbA) : hbV × hbA := match hb_ob (hb_cst a) hb_nt, hb_ob (hb_cst b) hb_nt with
  | some p, some j => cond (Nat.blt j 32) (V, (0, 0, 0, .ofNat (p / 2 ^ j))) (hb_bnd V 0 none)
  | some 0, none => (V, (0, 0, 0, 0))
  | _, _ => match hb_iv V.1 a.2.1 a.2.2.1 a.2.2.2 with
    | some (l, h) => hb_bnd V 0 (cond (hb_le 0 l) (some (0, h)) none)
    | none => hb_bnd V 0 none
theorem hb_shr_ok {ρ : Nat → Int} {V : hbV} {a b : hbA} {x y : Int32} (hV : hb_V ρ V) (h0 : 0 < V.1.length) (hx : x.toInt = a.2.1 * ρ a.2.2.1 + a.2.2.2) (hy : y.toInt = b.2.1 * ρ b.2.2.1 + b.2.2.2) : hb_ok V ρ (hb_shr V a b) 0 (x >>> (y &&& 31)).toInt := by
  have any : hb_ok V ρ (hb_bnd V 0 none) 0 (x >>> (y &&& 31)).toInt := hb_bnd_ok hV (fun _ _ h => by cases h) (hb_rng0 _)
  have gen : hb_ok V ρ (match hb_iv V.1 a.2.1 a.2.2.1 a.2.2.2 with
    | some (l, h) => hb_bnd V 0 (cond (hb_le 0 l) (some (0, h)) none)
    | none => hb_bnd V 0 none) 0 (x >>> (y &&& 31)).toInt := by
    cases h1 : hb_iv V.1 a.2.1 a.2.2.1 a.2.2.2 with
    | none => exact any
    | some q =>
      obtain ⟨l, h⟩ := q
      have g := hb_iv_ok hV.1 h1
      rw [← hx] at g
      refine hb_bnd_ok hV (fun u v hs => ?_) (hb_rng0 _)
      cases hc : hb_le 0 l with
      | false => rw [hc] at hs; cases hs
      | true =>
        rw [hc] at hs
        cases hs
        have := hb_le_t hc
        obtain ⟨k, -, e, -⟩ := hb_shr_n (x := x) (y := y) (by omega)
        rw [e]
        have hd := Nat.div_le_self x.toInt.toNat (2 ^ k)
        generalize x.toInt.toNat / 2 ^ k = w at hd ⊢
        omega
  unfold hb_shr
  cases hp : hb_ob (hb_cst a) hb_nt with
  | none =>
    cases hb_ob (hb_cst b) hb_nt <;> exact gen
  | some p =>
    obtain ⟨cv, c1, c2⟩ := hb_ob_some hp
    have ex : x.toInt = (p : Int) := (hb_cst_ok hx c1).trans (hb_nt_ok c2)
    cases hq : hb_ob (hb_cst b) hb_nt with
    | some j =>
      obtain ⟨cw, d1, d2⟩ := hb_ob_some hq
      have ey : y.toInt = (j : Int) := (hb_cst_ok hy d1).trans (hb_nt_ok d2)
      show hb_ok V ρ (cond (Nat.blt j 32) (V, (0, 0, 0, .ofNat (p / 2 ^ j))) (hb_bnd V 0 none)) 0 _
      cases hc : Nat.blt j 32 with
      | false => exact any
      | true =>
        have hj : j < 32 := Nat.le_of_ble_eq_true hc
        obtain ⟨k, -, e, hk⟩ := hb_shr_n (x := x) (y := y) (by omega)
        refine hb_same_ok hV h0 ?_
        rw [e, hk j hj ey, ex]
        simp
    | none =>
      cases p with
      | succ p => exact gen
      | zero =>
        obtain ⟨k, -, e, -⟩ := hb_shr_n (x := x) (y := y) (by omega)
        refine hb_same_ok hV h0 ?_
        rw [e, ex]
        simp
/-- quotients and rests, by what is above 0 -/
def hb_pos (V : hbV) (b : hbA) : Bool := match hb_iv V.1 b.2.1 b.2.2.1 b.2.2.2 with
  | some (l, _) => hb_le 1 l
  | none => false
theorem hb_pos_ok {ρ : Nat → Int} {V : hbV} {b : hbA} {y : Int} (hV : hb_V ρ V) (hy : y = b.2.1 * ρ b.2.2.1 + b.2.2.2) (h : hb_pos V b = true) : 1 ≤ y := by
  unfold hb_pos at h
  cases h1 : hb_iv V.1 b.2.1 b.2.2.1 b.2.2.2 with
  | none => rw [h1] at h; cases h
  | some q =>
    obtain ⟨l, u⟩ := q
    rw [h1] at h
    have g := hb_iv_ok hV.1 h1
    have := hb_le_t h
    omega
def hb_nz (V : hbV) (b : hbA) : Bool := match hb_iv V.1 b.2.1 b.2.2.1 b.2.2.2 with
  | some (l, u) => hb_le 1 l || hb_le u (-1)
  | none => false
theorem hb_nz_ok {ρ : Nat → Int} {V : hbV} {b : hbA} {y : Int} (hV : hb_V ρ V) (hy : y = b.2.1 * ρ b.2.2.1 + b.2.2.2) (h : hb_nz V b = true) : y ≠ 0 := by
  unfold hb_nz at h
  cases h1 : hb_iv V.1 b.2.1 b.2.2.1 b.2.2.2 with
  | none => rw [h1] at h; cases h
  | some q =>
    obtain ⟨l, u⟩ := q
    rw [h1] at h
    have g := hb_iv_ok hV.1 h1
    rw [Bool.or_eq_true] at h
    rcases h with h | h
    · have := hb_le_t h
      omega
    · have := hb_le_t h
      omega
def hb_div (V : hbV) (t : Nat) (a b : hbA) : hbV × hbA := match hb_iv V.1 a.2.1 a.2.2.1 a.2.2.2, hb_cst b with
  | some (l, u), some d => hb_bd V t (cond (hb_le 1 d) (some (l.tdiv d, u.tdiv d)) none)
  | _, _ => hb_bnd V t none
theorem hb_div_ok {ρ : Nat → Int} {V : hbV} {t : Nat} {a b : hbA} {x y z : Int} (hV : hb_V ρ V) (h0 : 0 < V.1.length) (hx : x = a.2.1 * ρ a.2.2.1 + a.2.2.2) (hy : y = b.2.1 * ρ b.2.2.1 + b.2.2.2) (hz : 1 ≤ y → z = x.tdiv y) (hr : (hb_rg t).1 ≤ z ∧ z ≤ (hb_rg t).2) : hb_ok V ρ (hb_div V t a b) t z := by
  have any : hb_ok V ρ (hb_bnd V t none) t z := hb_bnd_ok hV (fun _ _ h => by cases h) hr
  unfold hb_div
  cases h1 : hb_iv V.1 a.2.1 a.2.2.1 a.2.2.2 with
  | none => exact any
  | some q =>
    obtain ⟨l, u⟩ := q
    cases h2 : hb_cst b with
    | none => exact any
    | some d =>
      have g := hb_iv_ok hV.1 h1
      rw [← hx] at g
      have e := hb_cst_ok hy h2
      refine hb_bd_ok hV h0 (fun p q hs => ?_) hr
      cases hc : hb_le 1 d with
      | false => rw [hc] at hs; cases hs
      | true =>
        rw [hc] at hs
        cases hs
        have hd := hb_le_t hc
        subst e
        rw [hz hd]
        exact ⟨Int.tdiv_le_tdiv (by omega) g.1, Int.tdiv_le_tdiv (by omega) g.2⟩
def hb_rem (V : hbV) (t : Nat) (a b : hbA) : hbV × hbA := match hb_ob (hb_cst a) hb_nt, hb_ob (hb_cst b) hb_nt with
  | some p, some (q + 1) => (V, (t, 0, 0, .ofNat (p % (q + 1))))
  | _, _ => match hb_iv V.1 a.2.1 a.2.2.1 a.2.2.2, hb_iv V.1 b.2.1 b.2.2.1 b.2.2.2 with
    | some (la, ha), some (lb, hb) => cond (hb_le 1 lb && hb_le 0 la)
        ((V.1 ++ [(0, hb_min ha (hb - 1))], (hb_rel1 V.1.length true a 0 ++ hb_rel1 V.1.length true b (-1)) ++ V.2.1, V.2.2), (t, 1, V.1.length, 0))
        (hb_bnd V t (cond (hb_le 1 lb) (some (1 - hb, hb - 1)) none))
    | _, _ => hb_bnd V t none
theorem hb_rem_ok {ρ : Nat → Int} {V : hbV} {t : Nat} {a b : hbA} {x y z : Int} (hV : hb_V ρ V) (h0 : 0 < V.1.length) (ha : a.2.2.1 < V.1.length) (hb : b.2.2.1 < V.1.length) (hx : x = a.2.1 * ρ a.2.2.1 + a.2.2.2) (hy : y = b.2.1 * ρ b.2.2.1 + b.2.2.2) (hz : 1 ≤ y → z = x.tmod y) (hr : (hb_rg t).1 ≤ z ∧ z ≤ (hb_rg t).2) : hb_ok V ρ (hb_rem V t a b) t z := by
  have gen : hb_ok V ρ (match hb_iv V.1 a.2.1 a.2.2.1 a.2.2.2, hb_iv V.1 b.2.1 b.2.2.1 b.2.2.2 with
    | some (la, ha), some (lb, hb) => cond (hb_le 1 lb && hb_le 0 la)
        ((V.1 ++ [(0, hb_min ha (hb - 1))], (hb_rel1 V.1.length true a 0 ++ hb_rel1 V.1.length true b (-1)) ++ V.2.1, V.2.2), ((t, 1, V.1.length, 0) : hbA))
        (hb_bnd V t (cond (hb_le 1 lb) (some (1 - hb, hb - 1)) none))
    | _, _ => hb_bnd V t none) t z := by
    obtain ⟨la, ua, h1⟩ := hb_iv_some a.2.1 a.2.2.2 ha
    obtain ⟨lb, ub, h2⟩ := hb_iv_some b.2.1 b.2.2.2 hb
    rw [h1, h2]
    dsimp only
    have g1 := hb_iv_ok hV.1 h1
    have g2 := hb_iv_ok hV.1 h2
    rw [← hx] at g1
    rw [← hy] at g2
    cases hc : (hb_le 1 lb && hb_le 0 la) with
    | true =>
      rw [cond_true]
      rw [Bool.and_eq_true] at hc
      have c1 := hb_le_t hc.1
      have c2 := hb_le_t hc.2
      have e := hz (by omega)
      have n1 : 0 ≤ z := by rw [e]; exact Int.tmod_nonneg y (by omega)
      have n2 : z < y := by rw [e]; exact Int.tmod_lt_of_pos x (by omega)
      have n3 : z ≤ x := by
        have q1 : (x.tmod y).natAbs ≤ x.natAbs := by rw [Int.natAbs_tmod]; exact Nat.mod_le _ _
        rw [← e] at q1
        omega
      refine hb_nwR hV n1 ?_ (fun r hr' => ?_) t
      · rcases (hb_min_le ua (ub - 1)).2.2 with q | q <;> omega
      · rcases List.mem_append.mp hr' with h | h
        · exact hb_rel1_ok hx ha (fun _ => by omega) r h
        · exact hb_rel1_ok hy hb (fun _ => by omega) r h
    | false =>
      rw [cond_false]
      refine hb_bnd_ok hV (fun p q hs => ?_) hr
      cases hd : hb_le 1 lb with
      | false => rw [hd] at hs; cases hs
      | true =>
        rw [hd] at hs
        cases hs
        have c1 := hb_le_t hd
        have e := hz (by omega)
        have n2 : z < y := by rw [e]; exact Int.tmod_lt_of_pos x (by omega)
        have n4 : -y < z := by rw [e]; exact Int.lt_tmod_of_pos x (by omega)
        omega
  unfold hb_rem
  cases hp : hb_ob (hb_cst a) hb_nt with
  | none => cases hb_ob (hb_cst b) hb_nt with
    | none => exact gen
    | some q => cases q <;> exact gen
  | some p =>
    cases hq : hb_ob (hb_cst b) hb_nt with
    | none => exact gen
    | some q =>
      cases q with
      | zero => exact gen
      | succ q =>
        obtain ⟨cv, c1, c2⟩ := hb_ob_some hp
        have ex : x = (p : Int) := (hb_cst_ok hx c1).trans (hb_nt_ok c2)
        obtain ⟨cw, d1, d2⟩ := hb_ob_some hq
        have ey : y = ((q + 1 : Nat) : Int) := (hb_cst_ok hy d1).trans (hb_nt_ok d2)
        refine hb_same_ok hV h0 ?_
        rw [hz (by omega), ex, ey]
        show _ = 0 * ρ 0 + ((p % (q + 1) : Nat) : Int)
        rw [Int.tmod_eq_emod_of_nonneg (by omega)]
        omega
theorem hb_div32 {x y : Int32} (h : 1 ≤ y.toInt) : (x / y).toInt = x.toInt.tdiv y.toInt := by
  have hx := fb_rng x
  rw [Int32.toInt_div]
  have h1 : (x.toInt.tdiv y.toInt).natAbs ≤ x.toInt.natAbs := by rw [Int.natAbs_tdiv]; exact Nat.div_le_self _ _
  by_cases hm : x.toInt = -2147483648
  · have h2 : x.toInt.tdiv y.toInt ≤ 0 := by
      rw [hm]
      have := Int.tdiv_le_tdiv (a := -2147483648) (b := 0) (c := y.toInt) (by omega) (by omega)
      rw [Int.zero_tdiv] at this
      exact this
    rw [fb_bmod (by omega) (by omega)]
  · rw [fb_bmod (by omega) (by omega)]
theorem hb_div64 {x y : Int64} (h : 1 ≤ y.toInt) : (x / y).toInt = x.toInt.tdiv y.toInt := by
  have hx := fb_rngL x
  rw [Int64.toInt_div]
  have h1 : (x.toInt.tdiv y.toInt).natAbs ≤ x.toInt.natAbs := by rw [Int.natAbs_tdiv]; exact Nat.div_le_self _ _
  by_cases hm : x.toInt = -9223372036854775808
  · have h2 : x.toInt.tdiv y.toInt ≤ 0 := by
      rw [hm]
      have := Int.tdiv_le_tdiv (a := -9223372036854775808) (b := 0) (c := y.toInt) (by omega) (by omega)
      rw [Int.zero_tdiv] at this
      exact this
    rw [fb_bmodL (by omega) (by omega)]
  · rw [fb_bmodL (by omega) (by omega)]
theorem hb_rem32 {x y : Int32} (h : 1 ≤ y.toInt) : (x - x / y * y).toInt = x.toInt.tmod y.toInt := by
  have hx := fb_rng x
  have e := hb_div32 (x := x) h
  have h3 := Int.tmod_add_mul_tdiv x.toInt y.toInt
  have hy : x.toInt.tdiv y.toInt * y.toInt = x.toInt - x.toInt.tmod y.toInt := by rw [Int.mul_comm]; omega
  have n1 : (x.toInt.tmod y.toInt).natAbs ≤ x.toInt.natAbs := by rw [Int.natAbs_tmod]; exact Nat.mod_le _ _
  have sg : (0 ≤ x.toInt → 0 ≤ x.toInt.tmod y.toInt) ∧ (x.toInt ≤ 0 → x.toInt.tmod y.toInt ≤ 0) := ⟨fun q => Int.tmod_nonneg _ q, fun q => by
    have := Int.tmod_nonneg (a := -x.toInt) y.toInt (by omega)
    rw [Int.neg_tmod] at this
    omega⟩
  have m : (x / y * y).toInt = x.toInt.tdiv y.toInt * y.toInt := by
    rw [fb_mulI (by rw [e]; omega) (by rw [e]; omega), e]
  rw [fb_subI (by rw [m]; omega) (by rw [m]; omega), m]
  omega
theorem hb_rem64 {x y : Int64} (h : 1 ≤ y.toInt) : (x - x / y * y).toInt = x.toInt.tmod y.toInt := by
  have hx := fb_rngL x
  have e := hb_div64 (x := x) h
  have h3 := Int.tmod_add_mul_tdiv x.toInt y.toInt
  have hy : x.toInt.tdiv y.toInt * y.toInt = x.toInt - x.toInt.tmod y.toInt := by rw [Int.mul_comm]; omega
  have n1 : (x.toInt.tmod y.toInt).natAbs ≤ x.toInt.natAbs := by rw [Int.natAbs_tmod]; exact Nat.mod_le _ _
  have sg : (0 ≤ x.toInt → 0 ≤ x.toInt.tmod y.toInt) ∧ (x.toInt ≤ 0 → x.toInt.tmod y.toInt ≤ 0) := ⟨fun q => Int.tmod_nonneg _ q, fun q => by
    have := Int.tmod_nonneg (a := -x.toInt) y.toInt (by omega)
    rw [Int.neg_tmod] at this
    omega⟩
  have m : (x / y * y).toInt = x.toInt.tdiv y.toInt * y.toInt := by
    rw [fb_mulL (by rw [e]; omega) (by rw [e]; omega), e]
  rw [fb_subL (by rw [m]; omega) (by rw [m]; omega), m]
  omega
/-- a cut to bounds: what lies within them stays -/
def hb_cut (V : hbV) (a : hbA) (lo hi : Int) : hbV × hbA := match hb_iv V.1 a.2.1 a.2.2.1 a.2.2.2 with
  | some (l, u) => cond (hb_le lo l && hb_le u hi) (V, (0, a.2.1, a.2.2.1, a.2.2.2)) (hb_nw V 0 lo hi)
  | none => hb_nw V 0 lo hi
theorem hb_cut_ok {ρ : Nat → Int} {V : hbV} {a : hbA} {lo hi x z : Int} (hV : hb_V ρ V) (ha : a.2.2.1 < V.1.length) (hx : x = a.2.1 * ρ a.2.2.1 + a.2.2.2) (h1 : lo ≤ z ∧ z ≤ hi) (h2 : lo ≤ x → x ≤ hi → z = x) : hb_ok V ρ (hb_cut V a lo hi) 0 z := by
  unfold hb_cut
  cases hq : hb_iv V.1 a.2.1 a.2.2.1 a.2.2.2 with
  | none => exact hb_nw_ok hV h1.1 h1.2 0
  | some q =>
    obtain ⟨l, u⟩ := q
    have g := hb_iv_ok hV.1 hq
    rw [← hx] at g
    dsimp only
    cases hc : (hb_le lo l && hb_le u hi) with
    | false => exact hb_nw_ok hV h1.1 h1.2 0
    | true =>
      rw [Bool.and_eq_true] at hc
      have c1 := hb_le_t hc.1
      have c2 := hb_le_t hc.2
      exact hb_same_ok hV ha (by rw [← hx]; exact h2 (by omega) (by omega))
