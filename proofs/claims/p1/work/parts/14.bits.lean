/-! hb_: bits, shifts, quotients, cuts -/
theorem hb_n31 {x : Int32} (h : 0 ≤ x.toInt) : x.toInt = (x.toBitVec.toNat : Int) ∧ x.toBitVec.toNat < 2147483648 := by
  have h1 : x.toInt = x.toBitVec.toInt := rfl
  have h2 := BitVec.toInt_eq_toNat_cond x.toBitVec
  rw [h1] at h ⊢
  have h3 := x.toBitVec.isLt
  split at h2 <;> omega
theorem hb_n31' {x : Int32} (h : x.toBitVec.toNat < 2147483648) : x.toInt = (x.toBitVec.toNat : Int) := by
  have h1 : x.toInt = x.toBitVec.toInt := rfl
  have h2 := BitVec.toInt_eq_toNat_cond x.toBitVec
  rw [h1]
  split at h2 <;> omega
theorem hb_and_l {x y : Int32} (h : 0 ≤ x.toInt) : 0 ≤ (x &&& y).toInt ∧ (x &&& y).toInt ≤ x.toInt := by
  obtain ⟨h1, h2⟩ := hb_n31 h
  have h3 : (x &&& y).toBitVec.toNat ≤ x.toBitVec.toNat := by
    rw [Int32.toBitVec_and, BitVec.toNat_and]
    exact Nat.and_le_left
  rw [hb_n31' (x := x &&& y) (by omega), h1]
  omega
theorem hb_and_r {x y : Int32} (h : 0 ≤ y.toInt) : 0 ≤ (x &&& y).toInt ∧ (x &&& y).toInt ≤ y.toInt := by
  have e : x &&& y = y &&& x := Int32.and_comm x y
  rw [e]
  exact hb_and_l h
theorem hb_and_n {x y : Int32} {p q : Nat} (hx : x.toInt = p) (hy : y.toInt = q) : (x &&& y).toInt = (Nat.land p q : Nat) := by
  obtain ⟨h1, h2⟩ := hb_n31 (x := x) (by omega)
  obtain ⟨h3, h4⟩ := hb_n31 (x := y) (by omega)
  have e : (x &&& y).toBitVec.toNat = Nat.land x.toBitVec.toNat y.toBitVec.toNat := by
    rw [Int32.toBitVec_and, BitVec.toNat_and]; rfl
  have hle : Nat.land x.toBitVec.toNat y.toBitVec.toNat ≤ x.toBitVec.toNat := Nat.and_le_left
  rw [hb_n31' (x := x &&& y) (by omega), e, show x.toBitVec.toNat = p by omega, show y.toBitVec.toNat = q by omega]
theorem hb_or_n {x y : Int32} (hx : 0 ≤ x.toInt) (hy : 0 ≤ y.toInt) : (x ||| y).toInt = (Nat.lor x.toBitVec.toNat y.toBitVec.toNat : Nat) := by
  obtain ⟨h1, h2⟩ := hb_n31 hx
  obtain ⟨h3, h4⟩ := hb_n31 hy
  have e : (x ||| y).toBitVec.toNat = Nat.lor x.toBitVec.toNat y.toBitVec.toNat := by
    rw [Int32.toBitVec_or, BitVec.toNat_or]; rfl
  have hlt : Nat.lor x.toBitVec.toNat y.toBitVec.toNat < 2 ^ 31 := Nat.or_lt_two_pow (by omega) (by omega)
  rw [hb_n31' (x := x ||| y) (by omega), e]
theorem hb_xor_n {x y : Int32} (hx : 0 ≤ x.toInt) (hy : 0 ≤ y.toInt) : (x ^^^ y).toInt = (Nat.xor x.toBitVec.toNat y.toBitVec.toNat : Nat) := by
  obtain ⟨h1, h2⟩ := hb_n31 hx
  obtain ⟨h3, h4⟩ := hb_n31 hy
  have e : (x ^^^ y).toBitVec.toNat = Nat.xor x.toBitVec.toNat y.toBitVec.toNat := by
    rw [Int32.toBitVec_xor, BitVec.toNat_xor]; rfl
  have hlt : Nat.xor x.toBitVec.toNat y.toBitVec.toNat < 2 ^ 31 := Nat.xor_lt_two_pow (by omega) (by omega)
  rw [hb_n31' (x := x ^^^ y) (by omega), e]
theorem hb_not {x y : Int32} (hy : y.toInt = -1) : (x ^^^ y).toInt = -x.toInt - 1 := by
  have ey : y = -1 := Int32.toInt_inj.mp (by rw [hy]; decide)
  subst ey
  have e : x ^^^ (-1) = -x - 1 := by
    apply Int32.toBitVec_inj.1
    show x.toBitVec ^^^ (-1#32) = -x.toBitVec - 1#32
    have h1 : (-1#32) = BitVec.allOnes 32 := by decide
    rw [h1, BitVec.xor_allOnes, BitVec.not_eq_neg_add]
  rw [e, Int32.toInt_sub, Int32.toInt_neg]
  have := fb_rng x
  have h1 : (1 : Int32).toInt = 1 := by decide
  rw [h1]
  by_cases hm : x.toInt = -2147483648
  · rw [hm]; decide
  · rw [fb_bmod (z := -x.toInt) (by omega) (by omega), fb_bmod (by omega) (by omega)]
def hb_cst (a : hbA) : Option Int := match a with
  | (_, m, _, c) => cond (hb_z m) (some c) none
theorem hb_cst_ok {ρ : Nat → Int} {a : hbA} {x c : Int} (hx : x = a.2.1 * ρ a.2.2.1 + a.2.2.2) (h : hb_cst a = some c) : x = c := by
  obtain ⟨t, m, k, c'⟩ := a
  unfold hb_cst at h
  dsimp only at h
  cases h1 : hb_z m with
  | false => rw [h1] at h; cases h
  | true =>
    rw [h1] at h
    cases h
    have e := hb_z_t h1
    subst e
    rw [hx]
    show 0 * ρ k + c = c
    omega
/-- a new number with bounds and relations to older ones -/
theorem hb_nwR {ρ : Nat → Int} {V : hbV} {lo hi z : Int} {rs : List (Nat × Nat × Int)} (hV : hb_V ρ V) (h1 : lo ≤ z) (h2 : z ≤ hi) (hr : ∀ r ∈ rs, r.1 = V.1.length ∧ r.2.1 < V.1.length ∧ z ≤ ρ r.2.1 + r.2.2) (t : Nat) : hb_ok V ρ ((V.1 ++ [(lo, hi)], rs ++ V.2.1, V.2.2), (t, 1, V.1.length, 0)) t z := by
  obtain ⟨he, hrr, hd⟩ := hV
  have hl : V.1.length ≤ (V.1 ++ [(lo, hi)]).length := by simp
  have ha := hb_ex_ag ρ V.1.length z
  refine ⟨hb_ex ρ V.1.length z, ha, ⟨he.nw h1 h2, ?_, hd.ag hl ha⟩, hl, rfl, by simp, by simp [hb_ex_at]⟩
  intro r hrm
  rcases List.mem_append.mp hrm with h | h
  · obtain ⟨q1, q2, q3⟩ := hr r h
    refine ⟨by rw [q1]; simp, by simp; omega, ?_⟩
    rw [q1, hb_ex_at, ha _ q2]
    exact q3
  · exact hrr.ag hl ha r h
/-- bounds, with a relation to an operand if that is a number plus something -/
def hb_rel1 (n : Nat) (ok : Bool) (a : hbA) (d : Int) : List (Nat × Nat × Int) := match a with
  | (_, m, k, c) => cond (ok && hb_one m) [(n, k, c + d)] []
theorem hb_rel1_ok {ρ : Nat → Int} {n : Nat} {ok : Bool} {a : hbA} {x z d : Int} (hx : x = a.2.1 * ρ a.2.2.1 + a.2.2.2) (ha : a.2.2.1 < n) (h : ok = true → z ≤ x + d) : ∀ r ∈ hb_rel1 n ok a d, r.1 = n ∧ r.2.1 < n ∧ z ≤ ρ r.2.1 + r.2.2 := by
  obtain ⟨t, m, k, c⟩ := a
  intro r hr
  unfold hb_rel1 at hr
  dsimp only at hr
  cases h1 : (ok && hb_one m) with
  | false => rw [h1] at hr; cases hr
  | true =>
    rw [h1, cond_true] at hr
    rw [Bool.and_eq_true] at h1
    have e := hb_one_t h1.2
    subst e
    have hr := List.mem_singleton.mp hr
    subst hr
    have hx : x = 1 * ρ k + c := hx
    have := h h1.1
    exact ⟨rfl, ha, by show z ≤ ρ k + (c + d); omega⟩
def hb_full : Option (Int × Int) := none
def hb_and0 (V : hbV) (a b : hbA) : hbV × hbA := match hb_cst a, hb_cst b with
  | some (.ofNat p), some (.ofNat q) => (V, (0, 0, 0, .ofNat (Nat.land p q)))
  | _, _ => match hb_iv V.1 a.2.1 a.2.2.1 a.2.2.2, hb_iv V.1 b.2.1 b.2.2.1 b.2.2.2 with
    | some (la, ha), some (lb, hb) =>
      cond (hb_le 0 la)
        ((V.1 ++ [(0, cond (hb_le 0 lb) (hb_min ha hb) ha)], (hb_rel1 V.1.length true a 0 ++ hb_rel1 V.1.length (hb_le 0 lb) b 0) ++ V.2.1, V.2.2), (0, 1, V.1.length, 0))
        (cond (hb_le 0 lb) ((V.1 ++ [(0, hb)], hb_rel1 V.1.length true b 0 ++ V.2.1, V.2.2), (0, 1, V.1.length, 0)) (hb_bnd V 0 none))
    | _, _ => hb_bnd V 0 none
theorem hb_rng0 (x : Int32) : (hb_rg 0).1 ≤ x.toInt ∧ x.toInt ≤ (hb_rg 0).2 := by
  have := fb_rng x
  show (-2147483648 : Int) ≤ x.toInt ∧ x.toInt ≤ (2147483647 : Int)
  omega
theorem hb_rng1 (x : Int64) : (hb_rg 1).1 ≤ x.toInt ∧ x.toInt ≤ (hb_rg 1).2 := by
  have := fb_rngL x
  show (-9223372036854775808 : Int) ≤ x.toInt ∧ x.toInt ≤ (9223372036854775807 : Int)
  omega
theorem hb_and0_ok {ρ : Nat → Int} {V : hbV} {a b : hbA} {x y : Int32} (hV : hb_V ρ V) (h0 : 0 < V.1.length) (ha : a.2.2.1 < V.1.length) (hb : b.2.2.1 < V.1.length) (hx : x.toInt = a.2.1 * ρ a.2.2.1 + a.2.2.2) (hy : y.toInt = b.2.1 * ρ b.2.2.1 + b.2.2.2) : hb_ok V ρ (hb_and0 V a b) 0 (x &&& y).toInt := by
  have gen : hb_ok V ρ (match hb_iv V.1 a.2.1 a.2.2.1 a.2.2.2, hb_iv V.1 b.2.1 b.2.2.1 b.2.2.2 with
    | some (la, ha), some (lb, hb) =>
      cond (hb_le 0 la)
        ((V.1 ++ [(0, cond (hb_le 0 lb) (hb_min ha hb) ha)], (hb_rel1 V.1.length true a 0 ++ hb_rel1 V.1.length (hb_le 0 lb) b 0) ++ V.2.1, V.2.2), ((0, 1, V.1.length, 0) : hbA))
        (cond (hb_le 0 lb) ((V.1 ++ [(0, hb)], hb_rel1 V.1.length true b 0 ++ V.2.1, V.2.2), (0, 1, V.1.length, 0)) (hb_bnd V 0 none))
    | _, _ => hb_bnd V 0 none) 0 (x &&& y).toInt := by
    have any : hb_ok V ρ (hb_bnd V 0 none) 0 (x &&& y).toInt := hb_bnd_ok hV (fun _ _ h => by cases h) (hb_rng0 _)
    obtain ⟨la, ua, h1⟩ := hb_iv_some a.2.1 a.2.2.2 ha
    obtain ⟨lb, ub, h2⟩ := hb_iv_some b.2.1 b.2.2.2 hb
    rw [h1, h2]
    dsimp only
    have g1 := hb_iv_ok hV.1 h1
    have g2 := hb_iv_ok hV.1 h2
    rw [← hx] at g1
    rw [← hy] at g2
    cases c1 : hb_le 0 la with
    | true =>
      rw [cond_true]
      have n1 := hb_and_l (y := y) (show 0 ≤ x.toInt by have := hb_le_t c1; omega)
      cases c2 : hb_le 0 lb with
      | true =>
        have n2 := hb_and_r (x := x) (show 0 ≤ y.toInt by have := hb_le_t c2; omega)
        refine hb_nwR hV n1.1 ?_ (fun r hr => ?_) 0
        · show _ ≤ hb_min ua ub
          rcases (hb_min_le ua ub).2.2 with q | q <;> omega
        · rcases List.mem_append.mp hr with h | h
          · exact hb_rel1_ok hx ha (fun _ => by omega) r h
          · exact hb_rel1_ok hy hb (fun _ => by omega) r h
      | false =>
        refine hb_nwR hV n1.1 (by show _ ≤ ua; omega) (fun r hr => ?_) 0
        rcases List.mem_append.mp hr with h | h
        · exact hb_rel1_ok hx ha (fun _ => by omega) r h
        · exact hb_rel1_ok hy hb (fun q => by cases q) r h
    | false =>
      rw [cond_false]
      cases c2 : hb_le 0 lb with
      | true =>
        have n2 := hb_and_r (x := x) (show 0 ≤ y.toInt by have := hb_le_t c2; omega)
        exact hb_nwR hV n2.1 (by omega) (hb_rel1_ok hy hb (fun _ => by omega)) 0
      | false => exact any
  unfold hb_and0
  cases c1 : hb_cst a with
  | none => exact gen
  | some u =>
    cases u with
    | negSucc u => cases hb_cst b <;> exact gen
    | ofNat u =>
      cases c2 : hb_cst b with
      | none => exact gen
      | some w =>
        cases w with
        | negSucc w => exact gen
        | ofNat w =>
          have e1 := hb_cst_ok hx c1
          have e2 := hb_cst_ok hy c2
          refine hb_same_ok hV h0 ?_
          rw [hb_and_n (p := u) (q := w) e1 e2]
          simp
theorem hb_255p : ∀ p, p < 256 → Nat.land p 255 = p := by decide +kernel
theorem hb_255n : ∀ k : Nat, k < 128 → (Int32.ofInt (-(k : Int) - 1) &&& 255).toInt = 255 - (k : Int) := by decide +kernel
/-- of 255 all that is in a byte stays -/
def hb_and (V : hbV) (a b : hbA) : hbV × hbA := match hb_cst b, hb_iv V.1 a.2.1 a.2.2.1 a.2.2.2 with
  | some c, some (l, u) => cond (hb_z (c - 255) && hb_le 0 l && hb_le u 255) (V, (0, a.2.1, a.2.2.1, a.2.2.2)) (cond (hb_z (c - 255) && hb_le (-128) l && hb_le u (-1)) (V, (0, a.2.1, a.2.2.1, a.2.2.2 + 256)) (hb_and0 V a b))
  | _, _ => hb_and0 V a b
theorem hb_and_ok {ρ : Nat → Int} {V : hbV} {a b : hbA} {x y : Int32} (hV : hb_V ρ V) (h0 : 0 < V.1.length) (ha : a.2.2.1 < V.1.length) (hb : b.2.2.1 < V.1.length) (hx : x.toInt = a.2.1 * ρ a.2.2.1 + a.2.2.2) (hy : y.toInt = b.2.1 * ρ b.2.2.1 + b.2.2.2) : hb_ok V ρ (hb_and V a b) 0 (x &&& y).toInt := by
  have gen := hb_and0_ok hV h0 ha hb hx hy
  unfold hb_and
  cases c1 : hb_cst b with
  | none => exact gen
  | some c =>
    obtain ⟨l, u, h1⟩ := hb_iv_some a.2.1 a.2.2.2 ha
    have g1 := hb_iv_ok hV.1 h1
    rw [← hx] at g1
    rw [h1]
    dsimp only
    have e1 := hb_cst_ok hy c1
    cases k1 : (hb_z (c - 255) && hb_le 0 l && hb_le u 255) with
    | true =>
      rw [cond_true]
      rw [Bool.and_eq_true, Bool.and_eq_true] at k1
      have q1 := hb_z_t k1.1.1
      have q2 := hb_le_t k1.1.2
      have q3 := hb_le_t k1.2
      refine hb_same_ok hV ha ?_
      rw [← hx]
      rw [hb_and_n (p := x.toInt.toNat) (q := 255) (by omega) (by omega), hb_255p _ (by omega)]
      omega
    | false =>
      rw [cond_false]
      cases k2 : (hb_z (c - 255) && hb_le (-128) l && hb_le u (-1)) with
      | false => exact gen
      | true =>
        rw [cond_true]
        rw [Bool.and_eq_true, Bool.and_eq_true] at k2
        have q1 := hb_z_t k2.1.1
        have q2 := hb_le_t k2.1.2
        have q3 := hb_le_t k2.2
        refine hb_same_ok hV ha ?_
        have ey : y = 255 := Int32.toInt_inj.mp (by rw [e1, show c = 255 by omega]; decide)
        have ex : x = Int32.ofInt (-(((-x.toInt - 1).toNat : Nat) : Int) - 1) := by
          apply Int32.toInt_inj.mp
          rw [fb_ofI (by omega) (by omega)]
          omega
        have e3 : (x &&& y).toInt = 255 - (((-x.toInt - 1).toNat : Nat) : Int) := by
          rw [ey]
          have := hb_255n (-x.toInt - 1).toNat (by omega)
          rw [← ex] at this
          exact this
        rw [e3]
        omega
def hb_pw (h : Int) : Nat → Nat → Nat
  | 0, p => p
  | f + 1, p => cond (hb_le (.ofNat p) h) (hb_pw h f (2 * p)) p
theorem hb_pw_pow (h : Int) : ∀ (f j : Nat), ∃ i, hb_pw h f (2 ^ j) = 2 ^ i ∧ i ≤ j + f
  | 0, j => ⟨j, rfl, Nat.le_refl _⟩
  | f + 1, j => by
    unfold hb_pw
    cases hb_le (.ofNat (2 ^ j)) h with
    | false => exact ⟨j, rfl, by omega⟩
    | true =>
      obtain ⟨i, h1, h2⟩ := hb_pw_pow h f (j + 1)
      refine ⟨i, ?_, by omega⟩
      rw [cond_true, show 2 * 2 ^ j = 2 ^ (j + 1) by rw [Nat.pow_succ]; omega]
      exact h1
/-- or and xor of what is not below 0: below the next power of two -/
def hb_orI (V : hbV) (a b : hbA) : Option (Int × Int) := match hb_iv V.1 a.2.1 a.2.2.1 a.2.2.2, hb_iv V.1 b.2.1 b.2.2.1 b.2.2.2 with
  | some (la, ha), some (lb, hb) =>
    cond (hb_le 0 la && hb_le 0 lb && hb_le ha (.ofNat (hb_pw (hb_max ha hb) 31 1) - 1) && hb_le hb (.ofNat (hb_pw (hb_max ha hb) 31 1) - 1)) (some (0, .ofNat (hb_pw (hb_max ha hb) 31 1) - 1)) none
  | _, _ => none
theorem hb_orI_ok {ρ : Nat → Int} {V : hbV} {a b : hbA} {x y : Int32} {lo hi : Int} (hV : hb_V ρ V) (hx : x.toInt = a.2.1 * ρ a.2.2.1 + a.2.2.2) (hy : y.toInt = b.2.1 * ρ b.2.2.1 + b.2.2.2) (h : hb_orI V a b = some (lo, hi)) : (lo ≤ (x ||| y).toInt ∧ (x ||| y).toInt ≤ hi) ∧ (lo ≤ (x ^^^ y).toInt ∧ (x ^^^ y).toInt ≤ hi) := by
  unfold hb_orI at h
  cases h1 : hb_iv V.1 a.2.1 a.2.2.1 a.2.2.2 with
  | none => rw [h1] at h; cases h
  | some p =>
    obtain ⟨la, ua⟩ := p
    cases h2 : hb_iv V.1 b.2.1 b.2.2.1 b.2.2.2 with
    | none => rw [h1, h2] at h; cases h
    | some q =>
      obtain ⟨lb, ub⟩ := q
      rw [h1, h2] at h
      dsimp only at h
      have g1 := hb_iv_ok hV.1 h1
      have g2 := hb_iv_ok hV.1 h2
      rw [← hx] at g1
      rw [← hy] at g2
      obtain ⟨i, e, -⟩ := hb_pw_pow (hb_max ua ub) 31 0
      rw [show (2 : Nat) ^ 0 = 1 from rfl] at e
      rw [e] at h
      cases hc : (hb_le 0 la && hb_le 0 lb && hb_le ua (.ofNat (2 ^ i) - 1) && hb_le ub (.ofNat (2 ^ i) - 1)) with
      | false => rw [hc] at h; cases h
      | true =>
        rw [hc] at h
        cases h
        simp only [Bool.and_eq_true] at hc
        have a1 := hb_le_t hc.1.1.1
        have a2 := hb_le_t hc.1.1.2
        have a3 := hb_le_t hc.1.2
        have a4 := hb_le_t hc.2
        have nx : 0 ≤ x.toInt := by omega
        have ny : 0 ≤ y.toInt := by omega
        have ex := (hb_n31 nx).1
        have ey := (hb_n31 ny).1
        have ei : (Int.ofNat (2 ^ i)) = ((2 ^ i : Nat) : Int) := rfl
        rw [ei] at a3 a4 ⊢
        have lx : x.toBitVec.toNat < 2 ^ i := by omega
        have ly : y.toBitVec.toNat < 2 ^ i := by omega
        have l1 : Nat.lor x.toBitVec.toNat y.toBitVec.toNat < 2 ^ i := Nat.or_lt_two_pow lx ly
        have l2 : Nat.xor x.toBitVec.toNat y.toBitVec.toNat < 2 ^ i := Nat.xor_lt_two_pow lx ly
        rw [hb_or_n nx ny, hb_xor_n nx ny]
        omega
def hb_or (V : hbV) (a b : hbA) : hbV × hbA := match hb_cst a, hb_cst b with
  | some (.ofNat p), some (.ofNat q) => (V, (0, 0, 0, .ofNat (Nat.lor p q)))
  | _, _ => hb_bnd V 0 (hb_orI V a b)
theorem hb_or_ok {ρ : Nat → Int} {V : hbV} {a b : hbA} {x y : Int32} (hV : hb_V ρ V) (h0 : 0 < V.1.length) (hx : x.toInt = a.2.1 * ρ a.2.2.1 + a.2.2.2) (hy : y.toInt = b.2.1 * ρ b.2.2.1 + b.2.2.2) : hb_ok V ρ (hb_or V a b) 0 (x ||| y).toInt := by
  have gen : hb_ok V ρ (hb_bnd V 0 (hb_orI V a b)) 0 (x ||| y).toInt := hb_bnd_ok hV (fun _ _ h => (hb_orI_ok hV hx hy h).1) (hb_rng0 _)
  unfold hb_or
  cases c1 : hb_cst a with
  | none => exact gen
  | some u =>
    cases u with
    | negSucc u => cases hb_cst b <;> exact gen
    | ofNat u =>
      cases c2 : hb_cst b with
      | none => exact gen
      | some w =>
        cases w with
        | negSucc w => exact gen
        | ofNat w =>
          have e1 : x.toInt = (u : Int) := hb_cst_ok hx c1
          have e2 : y.toInt = (w : Int) := hb_cst_ok hy c2
          refine hb_same_ok hV h0 ?_
          have n1 := hb_n31 (x := x) (by omega)
          have n2 := hb_n31 (x := y) (by omega)
          rw [hb_or_n (by omega) (by omega), show x.toBitVec.toNat = u by omega, show y.toBitVec.toNat = w by omega]
          simp
def hb_xor (V : hbV) (a b : hbA) : hbV × hbA := match hb_cst b with
  | some (.negSucc 0) => hb_res V 0 (some (-a.2.1, a.2.2.1, -a.2.2.2 - 1)) none
  | _ => hb_bnd V 0 (hb_orI V a b)
theorem hb_xor_ok {ρ : Nat → Int} {V : hbV} {a b : hbA} {x y : Int32} (hV : hb_V ρ V) (hx : x.toInt = a.2.1 * ρ a.2.2.1 + a.2.2.2) (hy : y.toInt = b.2.1 * ρ b.2.2.1 + b.2.2.2) : hb_ok V ρ (hb_xor V a b) 0 (x ^^^ y).toInt := by
  have gen : hb_ok V ρ (hb_bnd V 0 (hb_orI V a b)) 0 (x ^^^ y).toInt := hb_bnd_ok hV (fun _ _ h => (hb_orI_ok hV hx hy h).2) (hb_rng0 _)
  unfold hb_xor
  cases c2 : hb_cst b with
  | none => exact gen
  | some w =>
    cases w with
    | ofNat w => exact gen
    | negSucc w =>
      cases w with
      | succ w => exact gen
      | zero =>
        have e2 : y.toInt = -1 := hb_cst_ok hy c2
        refine hb_res_ok (w := (x ^^^ y).toInt) hV (fun m k c h => ?_) (fun _ _ h => by cases h) (fun _ _ => rfl) (hb_rng0 _)
        cases h
        rw [hb_not e2, hx, Int.neg_mul]
        omega
