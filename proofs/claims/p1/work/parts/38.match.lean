/-! hb_: a state that lies in another one, by values for its numbers -/
def hb_th (θ : List hbA) (a : hbA) : Option hbA := match a with
  | (t, m, k, c) => cond (Nat.ble t 1) (match θ[k]? with
    | some (_, m', k', c') => some (t, m * m', k', m * c' + c)
    | none => none) (some (t, m, k, c))
def hb_rt (ρ : Nat → Int) (θ : List hbA) : Nat → Int := fun k => match θ[k]? with
  | some (_, m, k', c) => m * ρ k' + c
  | none => 0
theorem hb_rt_at {ρ : Nat → Int} {θ : List hbA} {k : Nat} {a : hbA} (h : θ[k]? = some a) : hb_rt ρ θ k = a.2.1 * ρ a.2.2.1 + a.2.2.2 := by
  unfold hb_rt
  rw [h]
theorem hb_th_ok {ρ : Nat → Int} {θ : List hbA} {a b : hbA} (h : hb_th θ a = some b) (ht : Nat.ble a.1 1 = true) : a.2.2.1 < θ.length ∧ b.1 = a.1 ∧ b.2.1 * ρ b.2.2.1 + b.2.2.2 = a.2.1 * hb_rt ρ θ a.2.2.1 + a.2.2.2 := by
  obtain ⟨t, m, k, c⟩ := a
  unfold hb_th at h
  dsimp only at h ht
  rw [ht, cond_true] at h
  cases hk : θ[k]? with
  | none => rw [hk] at h; cases h
  | some q =>
    obtain ⟨t', m', k', c'⟩ := q
    rw [hk] at h
    cases h
    refine ⟨(List.getElem?_eq_some_iff.mp hk).1, rfl, ?_⟩
    show m * m' * ρ k' + (m * c' + c) = m * hb_rt ρ θ k + c
    rw [hb_rt_at hk]
    show m * m' * ρ k' + (m * c' + c) = m * (m' * ρ k' + c') + c
    rw [Int.mul_add, Int.mul_assoc]
    omega
def hb_same (b b' : hbA) : Bool := Nat.beq b.1 b'.1 && cond (Nat.ble b.1 1) (hb_ah b b') (Nat.beq b.2.2.1 b'.2.2.1)
/-- a value of the state is that of the template -/
theorem hb_v.th {n : Nat} {U S : Nat → Nat} {ρ : Nat → Int} {θ : List hbA} {a b b' : hbA} {v : Value} (hv : hb_v n U S ρ b v) (h : hb_th θ a = some b') (hs : hb_same b' b = true) : hb_v θ.length U S (hb_rt ρ θ) a v := by
  obtain ⟨h1, h2⟩ := hb_and2 hs
  have e1 := hb_lenE h1
  cases ht : Nat.ble a.1 1 with
  | true =>
    obtain ⟨k1, k2, k3⟩ := hb_th_ok (ρ := ρ) h ht
    rw [show Nat.ble b'.1 1 = true by rw [k2]; exact ht, cond_true] at h2
    have e2 := hb_ah_ok (ρ := ρ) h2
    have h01 : a.1 = 0 ∨ a.1 = 1 := by
      have := Nat.le_of_ble_eq_true ht
      omega
    rcases h01 with h0 | h0
    · obtain ⟨-, x, ex, ev⟩ := hv.int (by rw [← e1, k2, h0]; rfl)
      subst ex
      exact hb_v.ofI h0 k1 (by rw [ev, ← e2, k3])
    · obtain ⟨-, x, ex, ev⟩ := hv.long (by rw [← e1, k2, h0]; rfl)
      subst ex
      exact hb_v.ofL h0 k1 (by rw [ev, ← e2, k3])
  | false =>
    obtain ⟨t, m, k, c⟩ := a
    unfold hb_th at h
    dsimp only at h ht
    rw [ht, cond_false] at h
    cases h
    dsimp only at h2 e1
    rw [ht, cond_false] at h2
    have e3 := hb_lenE h2
    obtain ⟨t', m', k', c'⟩ := b
    dsimp only at e1 e3
    subst e1; subst e3
    match t, ht, hv with
    | 0, ht, _ => cases ht
    | 1, ht, _ => cases ht
    | 2, _, hv => exact hv
    | 3, _, hv => exact hv
    | t + 4, _, hv => exact hv
/-- the values of the template's numbers lie in its bounds -/
def hb_mE (V : hbV) : List hbA → hbE → Bool
  | [], [] => true
  | a :: r, (lo, hi) :: E => (match hb_iv V.1 a.2.1 a.2.2.1 a.2.2.2 with
    | some (l, u) => hb_le lo l && (hb_le u hi || hb_le (hb_hiR V a u V.2.1) hi)
    | none => false) && hb_mE V r E
  | _, _ => false
theorem hb_mE_ok {ρ : Nat → Int} {V : hbV} (hV : hb_V ρ V) : ∀ {θ : List hbA} {E : hbE}, hb_mE V θ E = true → θ.length = E.length ∧ hb_env (hb_rt ρ θ) E
  | [], [], _ => ⟨rfl, fun k lo hi h => by simp at h⟩
  | [], _ :: _, h => by cases h
  | _ :: _, [], h => by cases h
  | a :: r, (lo, hi) :: E, h => by
    obtain ⟨h1, h2⟩ := hb_and2 h
    obtain ⟨g1, g2⟩ := hb_mE_ok hV h2
    refine ⟨by simp [g1], fun k lo' hi' hk => ?_⟩
    cases k with
    | zero =>
      cases hk
      rw [hb_rt_at (a := a) rfl]
      cases hq : hb_iv V.1 a.2.1 a.2.2.1 a.2.2.2 with
      | none => rw [hq] at h1; cases h1
      | some q =>
        obtain ⟨l, u⟩ := q
        rw [hq] at h1
        obtain ⟨q1, q2⟩ := hb_and2 h1
        have g3 := hb_iv_ok hV.1 hq
        have := hb_le_t q1
        rw [Bool.or_eq_true] at q2
        rcases q2 with q2 | q2
        · have := hb_le_t q2
          omega
        · have := hb_le_t q2
          have := hb_hiR_ok (a := a) (rs := V.2.1) hV rfl (fun _ h => h) g3.2
          omega
    | succ k =>
      have := g2 k lo' hi' hk
      exact this
def hb_tA (θ : List hbA) (k : Nat) : Option hbA := θ[k]?
def hb_mR (V : hbV) (θ : List hbA) (R : List (Nat × Nat × Int)) : Bool := R.all (fun r => match θ[r.1]?, θ[r.2.1]? with
  | some a, some b => hb_leQ V a b r.2.2
  | _, _ => false)
theorem hb_mR_ok {ρ : Nat → Int} {V : hbV} {θ : List hbA} {R : List (Nat × Nat × Int)} (hV : hb_V ρ V) (h : hb_mR V θ R = true) : hb_rels θ.length (hb_rt ρ θ) R := by
  intro r hr
  have h1 := List.all_eq_true.mp h r hr
  cases ha : θ[r.1]? with
  | none => rw [ha] at h1; cases h1
  | some a =>
    cases hb : θ[r.2.1]? with
    | none => rw [ha, hb] at h1; cases h1
    | some b =>
      rw [ha, hb] at h1
      refine ⟨(List.getElem?_eq_some_iff.mp ha).1, (List.getElem?_eq_some_iff.mp hb).1, ?_⟩
      rw [hb_rt_at ha, hb_rt_at hb]
      exact hb_leQ_ok hV rfl rfl h1
def hb_dfQ (V : hbV) (d a b : hbA) : Bool := (match hb_addC a.2.1 a.2.2.1 a.2.2.2 (-b.2.1) b.2.2.1 (-b.2.2.2) with
  | some (m, k, c) => hb_ah (0, m, k, c) d
  | none => false) || (hb_one a.2.1 && hb_one b.2.1 && (match hb_fd V.2.2 a.2.2.1 b.2.2.1 with
  | some q => hb_ah (0, 1, q, a.2.2.2 - b.2.2.2) d
  | none => false))
theorem hb_dfQ_ok {ρ : Nat → Int} {V : hbV} {d a b : hbA} (hV : hb_V ρ V) (h : hb_dfQ V d a b = true) : d.2.1 * ρ d.2.2.1 + d.2.2.2 = (a.2.1 * ρ a.2.2.1 + a.2.2.2) - (b.2.1 * ρ b.2.2.1 + b.2.2.2) := by
  unfold hb_dfQ at h
  rw [Bool.or_eq_true] at h
  rcases h with h | h
  · cases hq : hb_addC a.2.1 a.2.2.1 a.2.2.2 (-b.2.1) b.2.2.1 (-b.2.2.2) with
    | none => rw [hq] at h; cases h
    | some q =>
      obtain ⟨m, k, c⟩ := q
      rw [hq] at h
      have e1 := hb_addC_ok (ρ := ρ) hq
      have e2 : m * ρ k + c = _ := hb_ah_ok (ρ := ρ) h
      rw [Int.neg_mul] at e1
      omega
  · obtain ⟨h1, h3⟩ := hb_and2 h
    obtain ⟨h1, h2⟩ := hb_and2 h1
    have e1 := hb_one_t h1
    have e2 := hb_one_t h2
    cases hq : hb_fd V.2.2 a.2.2.1 b.2.2.1 with
    | none => rw [hq] at h3; cases h3
    | some q =>
      rw [hq] at h3
      have e3 := (hb_fd_ok hV.2.2 hq).2
      have e4 : 1 * ρ q + (a.2.2.2 - b.2.2.2) = _ := hb_ah_ok (ρ := ρ) h3
      rw [e1, e2]
      omega
def hb_mD (V : hbV) (θ : List hbA) (D : List (Nat × Nat × Nat)) : Bool := D.all (fun d => match θ[d.1]?, θ[d.2.1]?, θ[d.2.2]? with
  | some x, some a, some b => hb_dfQ V x a b
  | _, _, _ => false)
theorem hb_mD_ok {ρ : Nat → Int} {V : hbV} {θ : List hbA} {D : List (Nat × Nat × Nat)} (hV : hb_V ρ V) (h : hb_mD V θ D = true) : hb_defs θ.length (hb_rt ρ θ) D := by
  intro d hd
  have h1 := List.all_eq_true.mp h d hd
  cases hx : θ[d.1]? with
  | none => rw [hx] at h1; cases h1
  | some x =>
    cases ha : θ[d.2.1]? with
    | none => rw [hx, ha] at h1; cases h1
    | some a =>
      cases hb : θ[d.2.2]? with
      | none => rw [hx, ha, hb] at h1; cases h1
      | some b =>
        rw [hx, ha, hb] at h1
        refine ⟨(List.getElem?_eq_some_iff.mp hx).1, (List.getElem?_eq_some_iff.mp ha).1, (List.getElem?_eq_some_iff.mp hb).1, ?_⟩
        rw [hb_rt_at hx, hb_rt_at ha, hb_rt_at hb]
        exact hb_dfQ_ok hV h1
def hb_mV (V : hbV) (θ : List hbA) (W : hbV) : Bool := hb_mE V θ W.1 && hb_mR V θ W.2.1 && hb_mD V θ W.2.2
theorem hb_mV_ok {ρ : Nat → Int} {V W : hbV} {θ : List hbA} (hV : hb_V ρ V) (h : hb_mV V θ W = true) : θ.length = W.1.length ∧ hb_V (hb_rt ρ θ) W := by
  obtain ⟨h1, h3⟩ := hb_and2 h
  obtain ⟨h1, h2⟩ := hb_and2 h1
  obtain ⟨g1, g2⟩ := hb_mE_ok hV h1
  exact ⟨g1, g2, g1 ▸ hb_mR_ok hV h2, g1 ▸ hb_mD_ok hV h3⟩
def hb_mA (θ : List hbA) (a b : hbA) : Bool := match hb_th θ a with
  | some b' => hb_same b' b
  | none => false
theorem hb_mA_ok {n : Nat} {U S : Nat → Nat} {ρ : Nat → Int} {θ : List hbA} {a b : hbA} {v : Value} (hv : hb_v n U S ρ b v) (h : hb_mA θ a b = true) : hb_v θ.length U S (hb_rt ρ θ) a v := by
  unfold hb_mA at h
  cases hq : hb_th θ a with
  | none => rw [hq] at h; cases h
  | some b' =>
    rw [hq] at h
    exact hv.th hq h
def hb_mL (θ : List hbA) (L T : List (Nat × hbA)) : Bool := T.all (fun q => match hb_lk L q.1 with
  | some b => hb_mA θ q.2 b
  | none => false)
theorem hb_mL_ok {n : Nat} {U S : Nat → Nat} {ρ : Nat → Int} {θ : List hbA} {nL : Nat} {L T : List (Nat × hbA)} {ls : Array Slot} (hl : hb_loc n U S ρ nL L ls) (h : hb_mL θ L T = true) : hb_loc θ.length U S (hb_rt ρ θ) nL T ls := by
  refine ⟨hl.1, hl.2.1, fun q hq => ?_⟩
  have h1 := List.all_eq_true.mp h q hq
  cases hk : hb_lk L q.1 with
  | none => rw [hk] at h1; cases h1
  | some b =>
    rw [hk] at h1
    obtain ⟨v, g1, g2⟩ := hl.2.2 _ (hb_lk_mem hk)
    exact ⟨v, g1, hb_mA_ok g2 h1⟩
def hb_mS (θ : List hbA) : List hbA → List hbA → Bool
  | [], [] => true
  | b :: S, a :: T => hb_mA θ a b && hb_mS θ S T
  | _, _ => false
theorem hb_mS_ok {n : Nat} {U Z : Nat → Nat} {ρ : Nat → Int} {θ : List hbA} : ∀ {S T : List hbA} {st : List Value}, hb_stk n U Z ρ S st → hb_mS θ S T = true → hb_stk θ.length U Z (hb_rt ρ θ) T st
  | [], [], [], _, _ => trivial
  | [], [], _ :: _, h, _ => h.elim
  | b :: S, a :: T, [], h, _ => h.elim
  | b :: S, a :: T, v :: st, h, hm => by
    obtain ⟨h1, h2⟩ := hb_and2 hm
    exact ⟨hb_mA_ok h.1 h1, hb_mS_ok h.2 h2⟩
  | [], _ :: _, _, _, hm => by cases hm
  | _ :: _, [], _, _, hm => by cases hm
def hb_mC1 (θ : List hbA) (C : List (Nat × hbA × hbA)) (q : Nat × hbA × hbA) : Bool := Nat.ble q.2.1.1 1 && (match hb_th θ q.2.1 with
  | some ix => (match hb_ck C q.1 ix with
    | some b => hb_mA θ q.2.2 b
    | none => false)
  | none => false)
def hb_mC (θ : List hbA) (C T : List (Nat × hbA × hbA)) : Bool := T.all (fun q => cond (Nat.beq q.2.2.1 9) (C.any (fun r => Nat.beq r.2.2.1 9 && Nat.beq r.1 q.1 && hb_z (r.2.1.2.2.2 - q.2.1.2.2.2))) (hb_mC1 θ C q))
theorem hb_mC_ok {n : Nat} {U S : Nat → Nat} {ρ : Nat → Int} {θ : List hbA} {C T : List (Nat × hbA × hbA)} {wd : va_W} (hc : hb_cch n U S ρ C wd) (h : hb_mC θ C T = true) : hb_cch θ.length U S (hb_rt ρ θ) T wd := by
  intro q hq
  have h1 := List.all_eq_true.mp h q hq
  cases h9 : Nat.beq q.2.2.1 9 with
  | true =>
    rw [h9, cond_true] at h1
    obtain ⟨r, r1, r2⟩ := List.any_eq_true.mp h1
    obtain ⟨r2, r5⟩ := hb_and2 r2
    obtain ⟨r3, r4⟩ := hb_and2 r2
    rcases hc r r1 with ⟨z1, z2⟩ | ⟨z1, -⟩
    · refine Or.inl ⟨hb_lenE h9, ?_⟩
      have e1 := hb_z_t r5
      rw [hb_lenE r4, show r.2.1.2.2.2 = q.2.1.2.2.2 by omega] at z2
      exact z2
    · exact absurd (hb_lenE r3) z1
  | false =>
    rw [h9, cond_false] at h1
    refine Or.inr ⟨fun z => (by rw [z] at h9; cases h9), ?_⟩
    obtain ⟨h0, h1⟩ := hb_and2 h1
    cases hi : hb_th θ q.2.1 with
    | none => rw [hi] at h1; cases h1
    | some ix =>
      rw [hi] at h1
      dsimp only at h1
      cases hk : hb_ck C q.1 ix with
      | none => rw [hk] at h1; cases h1
      | some b =>
        rw [hk] at h1
        obtain ⟨ix', g1, g2, g3⟩ := hb_ck_mem hk
        obtain ⟨k1, e, v, k2, k3, k4, k5⟩ := hc.pl g1 g3
        obtain ⟨t1, t2, t3⟩ := hb_th_ok (ρ := ρ) hi h0
        dsimp only at k2 k3 k4 k5
        have e1 := hb_ah_ok (ρ := ρ) g2
        rw [e1, t3] at k3 k4
        exact ⟨t1, e, v, k2, k3, k4, hb_mA_ok k5 h1⟩
/-- the first numbers stay what they are -/
def hb_idn (θ : List hbA) : Nat → Bool
  | 0 => true
  | n + 1 => (match θ[n]? with
    | some a => hb_one a.2.1 && Nat.beq a.2.2.1 n && hb_z a.2.2.2
    | none => false) && hb_idn θ n
theorem hb_idn_ok {ρ : Nat → Int} {θ : List hbA} : ∀ {n : Nat}, hb_idn θ n = true → n ≤ θ.length ∧ hb_ag n ρ (hb_rt ρ θ)
  | 0, _ => ⟨Nat.zero_le _, fun k h => absurd h (Nat.not_lt_zero k)⟩
  | n + 1, h => by
    obtain ⟨h1, h2⟩ := hb_and2 h
    obtain ⟨g1, g2⟩ := hb_idn_ok (ρ := ρ) h2
    cases ha : θ[n]? with
    | none => rw [ha] at h1; cases h1
    | some a =>
      rw [ha] at h1
      obtain ⟨q5, q3⟩ := hb_and2 h1
      obtain ⟨q4, q2⟩ := hb_and2 q5
      refine ⟨(List.getElem?_eq_some_iff.mp ha).1, fun k hk => ?_⟩
      by_cases e : k = n
      · subst e
        rw [hb_rt_at ha, hb_one_t q4, hb_lenE q2, hb_z_t q3]
        omega
      · exact g2 k (by omega)
def hb_m (θ : List hbA) (A T : hbS) : Bool := hb_mV A.1 θ T.1 && hb_mL θ A.2.1 T.2.1 && hb_mS θ A.2.2.1 T.2.2.1 && hb_mC θ A.2.2.2 T.2.2.2
theorem hb_m_ok {X : hbX} {A T : hbS} {θ : List hbA} {ρ : Nat → Int} {wd : va_W} {ls : Array Slot} {st : List Value} (hs : hb_sat X A ρ wd ls st) (h : hb_m θ A T = true) (hi : hb_idn θ X.2.2.2.1.2 = true) (h0 : Nat.blt 0 T.1.1.length = true) : hb_sat X T (hb_rt ρ θ) wd ls st := by
  obtain ⟨h1, h4⟩ := hb_and2 h
  obtain ⟨h1, h3⟩ := hb_and2 h1
  obtain ⟨h1, h2⟩ := hb_and2 h1
  obtain ⟨s1, s2, s3, s4, s5⟩ := hs
  obtain ⟨g1, g2⟩ := hb_mV_ok s1 h1
  obtain ⟨i1, i2⟩ := hb_idn_ok (ρ := ρ) hi
  refine ⟨g2, ⟨hb_blt h0, by rw [← g1]; exact i1, s2.2.2.trans (Nat.le_refl _) i2⟩, ?_, ?_, ?_⟩
  · rw [← g1]; exact hb_mL_ok s3 h2
  · rw [← g1]; exact hb_mS_ok s4 h3
  · rw [← g1]; exact hb_mC_ok s5 h4
