/-! hb_: what a call's end tells the caller -/
/-- the values of the callee's numbers, the new ones behind the caller's own -/
def hb_news (nV : Nat) : Nat → List hbA
  | 0 => []
  | j + 1 => hb_news nV j ++ [(0, 1, nV + j, 0)]
theorem hb_news_len (nV : Nat) : ∀ j, (hb_news nV j).length = j
  | 0 => rfl
  | j + 1 => by unfold hb_news; rw [List.length_append, hb_news_len nV j]; rfl
theorem hb_news_at (nV : Nat) : ∀ {j k : Nat}, k < j → (hb_news nV j)[k]? = some (0, 1, nV + k, 0)
  | 0, k, h => absurd h (Nat.not_lt_zero k)
  | j + 1, k, h => by
    unfold hb_news
    by_cases e : k < j
    · rw [List.getElem?_append_left (by rw [hb_news_len]; exact e)]
      exact hb_news_at nV e
    · have e2 : k = j := by omega
      subst e2
      rw [List.getElem?_append_right (by rw [hb_news_len]; omega), hb_news_len, Nat.sub_self]
      rfl
/-- tighter bounds of the callee's first numbers -/
def hb_rfs (E : hbE) : List hbA → hbE → Option hbE
  | [], _ => some E
  | a :: r, (lo, hi) :: F => match hb_leB E a.2.1 a.2.2.1 a.2.2.2 hi with
    | none => none
    | some E1 => match hb_geB E1 a.2.1 a.2.2.1 a.2.2.2 lo with
      | none => none
      | some E2 => hb_rfs E2 r F
  | _ :: _, [] => some E
theorem hb_rfs_ok {ρ : Nat → Int} : ∀ {θ : List hbA} {E F : hbE}, hb_env ρ E → (∀ a ∈ θ, a.2.2.1 < E.length) → (∀ (k : Nat) (a : hbA) (lo hi : Int), θ[k]? = some a → F[k]? = some (lo, hi) → lo ≤ a.2.1 * ρ a.2.2.1 + a.2.2.2 ∧ a.2.1 * ρ a.2.2.1 + a.2.2.2 ≤ hi) → ∃ E', hb_rfs E θ F = some E' ∧ hb_env ρ E' ∧ E'.length = E.length
  | [], E, F, he, _, _ => ⟨E, by cases F <;> rfl, he, rfl⟩
  | _ :: _, E, [], he, _, _ => ⟨E, rfl, he, rfl⟩
  | a :: r, E, (lo, hi) :: F, he, hk, hb => by
    have h0 := hb 0 a lo hi rfl rfl
    obtain ⟨E1, q1, q2, q3⟩ := hb_leB_ok (m := a.2.1) (k := a.2.2.1) (c := a.2.2.2) (B := hi) he (hk a List.mem_cons_self) h0.2
    obtain ⟨E2, r1, r2, r3⟩ := hb_geB_ok (m := a.2.1) (k := a.2.2.1) (c := a.2.2.2) (B := lo) q2 (by rw [q3]; exact hk a List.mem_cons_self) h0.1
    obtain ⟨E', t1, t2, t3⟩ := hb_rfs_ok (θ := r) (E := E2) (F := F) r2 (fun b hb' => by rw [r3, q3]; exact hk b (List.mem_cons_of_mem _ hb')) (fun k b lo' hi' h1 h2 => hb (k + 1) b lo' hi' h1 h2)
    refine ⟨E', ?_, t2, by omega⟩
    unfold hb_rfs
    rw [q1]
    dsimp only
    rw [r1]
    exact t1
/-- a fact of the callee in the caller's numbers -/
theorem hb_v.un {n N : Nat} {U S : Nat → Nat} {ρ ρ' : Nat → Int} {θ : List hbA} {a b : hbA} {v : Value} (hv : hb_v n U S ρ' a v) (h : hb_th θ a = some b) (hr : ∀ k, k < n → hb_rt ρ θ k = ρ' k) (hk : ∀ a ∈ θ, a.2.2.1 < N) : hb_v N U S ρ b v := by
  cases ht : Nat.ble a.1 1 with
  | true =>
    obtain ⟨k1, k2, k3⟩ := hb_th_ok (ρ := ρ) h ht
    have hbk : b.2.2.1 < N := by
      obtain ⟨t, m, k, c⟩ := a
      unfold hb_th at h
      dsimp only at h ht
      rw [ht, cond_true] at h
      cases hq : θ[k]? with
      | none => rw [hq] at h; cases h
      | some q =>
        obtain ⟨t', m', k', c'⟩ := q
        rw [hq] at h
        cases h
        exact hk (t', m', k', c') (List.mem_of_getElem? hq)
    have h01 : a.1 = 0 ∨ a.1 = 1 := by
      have := Nat.le_of_ble_eq_true ht
      omega
    rcases h01 with h0 | h0
    · obtain ⟨kn, x, ex, ev⟩ := hv.int (by rw [h0]; rfl)
      subst ex
      exact hb_v.ofI (by rw [k2, h0]) hbk (by rw [ev, k3, hr _ kn])
    · obtain ⟨kn, x, ex, ev⟩ := hv.long (by rw [h0]; rfl)
      subst ex
      exact hb_v.ofL (by rw [k2, h0]) hbk (by rw [ev, k3, hr _ kn])
  | false =>
    obtain ⟨t, m, k, c⟩ := a
    unfold hb_th at h
    dsimp only at h ht
    rw [ht, cond_false] at h
    cases h
    match t, ht, hv with
    | 0, ht, _ => cases ht
    | 1, ht, _ => cases ht
    | 2, _, hv => exact hv
    | 3, _, hv => exact hv
    | t + 4, _, hv => exact hv
def hb_ths (θ : List hbA) : List hbA → Option (List hbA)
  | [] => some []
  | a :: r => match hb_th θ a, hb_ths θ r with
    | some b, some q => some (b :: q)
    | _, _ => none
theorem hb_ths_ok {n N : Nat} {U S : Nat → Nat} {ρ ρ' : Nat → Int} {θ : List hbA} (hr : ∀ k, k < n → hb_rt ρ θ k = ρ' k) (hk : ∀ a ∈ θ, a.2.2.1 < N) : ∀ {as bs : List hbA} {vs : List Value}, hb_stk n U S ρ' as vs → hb_ths θ as = some bs → hb_stk N U S ρ bs vs
  | [], bs, [], _, h => by cases h; trivial
  | [], _, _ :: _, h, _ => h.elim
  | _ :: _, _, [], h, _ => h.elim
  | a :: as, bs, v :: vs, hs, h => by
    unfold hb_ths at h
    cases h1 : hb_th θ a with
    | none => rw [h1] at h; cases h
    | some b =>
      cases h2 : hb_ths θ as with
      | none => rw [h1, h2] at h; cases h
      | some q =>
        rw [h1, h2] at h
        cases h
        exact ⟨hs.1.un h1 hr hk, hb_ths_ok hr hk hs.2 h2⟩
def hb_thR (θ : List hbA) (R : List (Nat × Nat × Int)) : List (Nat × Nat × Int) := R.filterMap (fun r => match θ[r.1]?, θ[r.2.1]? with
  | some a, some b => cond (hb_one a.2.1 && hb_one b.2.1) (some (a.2.2.1, b.2.2.1, r.2.2 + b.2.2.2 - a.2.2.2)) none
  | _, _ => none)
theorem hb_thR_ok {n N : Nat} {ρ ρ' : Nat → Int} {θ : List hbA} {R : List (Nat × Nat × Int)} (hR : hb_rels n ρ' R) (hr : ∀ k, k < n → hb_rt ρ θ k = ρ' k) (hk : ∀ a ∈ θ, a.2.2.1 < N) : hb_rels N ρ (hb_thR θ R) := by
  intro q hq
  obtain ⟨r, h1, h2⟩ := List.mem_filterMap.mp hq
  obtain ⟨g1, g2, g3⟩ := hR r h1
  cases ha : θ[r.1]? with
  | none => rw [ha] at h2; cases h2
  | some a =>
    cases hb : θ[r.2.1]? with
    | none => rw [ha, hb] at h2; cases h2
    | some b =>
      rw [ha, hb] at h2
      dsimp only at h2
      cases hc : (hb_one a.2.1 && hb_one b.2.1) with
      | false => rw [hc] at h2; cases h2
      | true =>
        rw [hc] at h2
        cases h2
        obtain ⟨c1, c2⟩ := hb_and2 hc
        have e1 := hb_one_t c1
        have e2 := hb_one_t c2
        have e3 := hr _ g1
        have e4 := hr _ g2
        rw [hb_rt_at ha, e1] at e3
        rw [hb_rt_at hb, e2] at e4
        exact ⟨hk a (List.mem_of_getElem? ha), hk b (List.mem_of_getElem? hb), by show ρ a.2.2.1 ≤ ρ b.2.2.1 + (r.2.2 + b.2.2.2 - a.2.2.2); omega⟩
def hb_thD (θ : List hbA) (D : List (Nat × Nat × Nat)) : List (Nat × Nat × Nat) := D.filterMap (fun d => match θ[d.1]?, θ[d.2.1]?, θ[d.2.2]? with
  | some x, some a, some b => cond (hb_one x.2.1 && hb_one a.2.1 && hb_one b.2.1 && hb_z (x.2.2.2 - a.2.2.2 + b.2.2.2)) (some (x.2.2.1, a.2.2.1, b.2.2.1)) none
  | _, _, _ => none)
theorem hb_thD_ok {n N : Nat} {ρ ρ' : Nat → Int} {θ : List hbA} {D : List (Nat × Nat × Nat)} (hD : hb_defs n ρ' D) (hr : ∀ k, k < n → hb_rt ρ θ k = ρ' k) (hk : ∀ a ∈ θ, a.2.2.1 < N) : hb_defs N ρ (hb_thD θ D) := by
  intro q hq
  obtain ⟨d, h1, h2⟩ := List.mem_filterMap.mp hq
  obtain ⟨g1, g2, g3, g4⟩ := hD d h1
  cases hx : θ[d.1]? with
  | none => rw [hx] at h2; cases h2
  | some x =>
    cases ha : θ[d.2.1]? with
    | none => rw [hx, ha] at h2; cases h2
    | some a =>
      cases hb : θ[d.2.2]? with
      | none => rw [hx, ha, hb] at h2; cases h2
      | some b =>
        rw [hx, ha, hb] at h2
        dsimp only at h2
        cases hc : (hb_one x.2.1 && hb_one a.2.1 && hb_one b.2.1 && hb_z (x.2.2.2 - a.2.2.2 + b.2.2.2)) with
        | false => rw [hc] at h2; cases h2
        | true =>
          rw [hc] at h2
          cases h2
          obtain ⟨c1, c4⟩ := hb_and2 hc
          obtain ⟨c1, c3⟩ := hb_and2 c1
          obtain ⟨c1, c2⟩ := hb_and2 c1
          have e1 := hb_one_t c1
          have e2 := hb_one_t c2
          have e3 := hb_one_t c3
          have e4 := hb_z_t c4
          have f1 := hr _ g1
          have f2 := hr _ g2
          have f3 := hr _ g3
          rw [hb_rt_at hx, e1] at f1
          rw [hb_rt_at ha, e2] at f2
          rw [hb_rt_at hb, e3] at f3
          exact ⟨hk x (List.mem_of_getElem? hx), hk a (List.mem_of_getElem? ha), hk b (List.mem_of_getElem? hb), by show ρ x.2.2.1 = ρ a.2.2.1 - ρ b.2.2.1; omega⟩
def hb_thC (θ : List hbA) (C : List (Nat × hbA × hbA)) : List (Nat × hbA × hbA) := C.filterMap (fun q => cond (Nat.beq q.2.2.1 9) (some q) <| cond (Nat.ble q.2.1.1 1) (match hb_th θ q.2.1, hb_th θ q.2.2 with
  | some ix, some a => some (q.1, ix, a)
  | _, _ => none) none)
theorem hb_thC_ok {n N : Nat} {U S : Nat → Nat} {ρ ρ' : Nat → Int} {θ : List hbA} {C : List (Nat × hbA × hbA)} {wd : va_W} (hC : hb_cch n U S ρ' C wd) (hr : ∀ k, k < n → hb_rt ρ θ k = ρ' k) (hk : ∀ a ∈ θ, a.2.2.1 < N) : hb_cch N U S ρ (hb_thC θ C) wd := by
  intro z hz
  obtain ⟨q, h1, h2⟩ := List.mem_filterMap.mp hz
  cases h9 : Nat.beq q.2.2.1 9 with
  | true =>
    rw [h9, cond_true] at h2
    have e := Option.some.inj h2
    rw [← e]
    rcases hC q h1 with y1 | y1
    · exact Or.inl y1
    · exact absurd (hb_lenE h9) y1.1
  | false =>
  rw [h9, cond_false] at h2
  have h99 : q.2.2.1 ≠ 9 := fun z => (by rw [z] at h9; cases h9)
  obtain ⟨g1, e, v, g2, g3, g4, g5⟩ := hC.pl h1 h99
  cases ht : Nat.ble q.2.1.1 1 with
  | false => rw [ht] at h2; cases h2
  | true =>
    rw [ht, cond_true] at h2
    cases hi : hb_th θ q.2.1 with
    | none => rw [hi] at h2; cases h2
    | some ix =>
      cases ha : hb_th θ q.2.2 with
      | none => rw [hi, ha] at h2; cases h2
      | some a =>
        rw [hi, ha] at h2
        cases h2
        obtain ⟨k1, k2, k3⟩ := hb_th_ok (ρ := ρ) hi ht
        rw [hr _ g1] at k3
        have hix : ix.2.2.1 < N := by
          obtain ⟨qc, ⟨t, m, k, cc⟩, qa⟩ := q
          unfold hb_th at hi
          dsimp only at hi ht
          rw [ht, cond_true] at hi
          cases hq : θ[k]? with
          | none => rw [hq] at hi; cases hi
          | some w =>
            obtain ⟨t', m', k', c'⟩ := w
            rw [hq] at hi
            cases hi
            exact hk (t', m', k', c') (List.mem_of_getElem? hq)
        have ha9 : a.1 = q.2.2.1 := by
          obtain ⟨qc, qi, ⟨t, m, k, cc⟩⟩ := q
          unfold hb_th at ha
          dsimp only at ha
          cases htt : Nat.ble t 1 with
          | false => rw [htt] at ha; cases ha; rfl
          | true =>
            rw [htt, cond_true] at ha
            cases hqq : θ[k]? with
            | none => rw [hqq] at ha; cases ha
            | some w =>
              obtain ⟨t', m', k', c'⟩ := w
              rw [hqq] at ha
              cases ha
              rfl
        refine Or.inr ⟨by show a.1 ≠ 9; rw [ha9]; exact h99, hix, e, v, g2, ?_, ?_, g5.un ha hr hk⟩
        · show 0 ≤ ix.2.1 * ρ ix.2.2.1 + ix.2.2.2
          rw [k3]; exact g3
        · show hb_get e (ix.2.1 * ρ ix.2.2.1 + ix.2.2.2).toNat = some v
          rw [k3]; exact g4
def hb_kpm (mods : List Nat) (q : Nat × hbA × hbA) : Bool := !(hb_mem q.1 mods) && (!(Nat.beq q.2.2.1 9) || !(hb_mem q.2.1.2.2.2.toNat mods))
/-- one end of a call in the caller's state; nothing if it can't be -/
def hb_end (V : hbV) (θ : List hbA) (mods : List Nat) (L : List (Nat × hbA)) (rest : List hbA) (C : List (Nat × hbA × hbA)) (T : hbS) : Option (List hbS) :=
  match hb_rfs V.1 θ T.1.1 with
  | none => some []
  | some E1 => match hb_ths (θ ++ hb_news V.1.length (T.1.1.length - θ.length)) T.2.2.1 with
    | none => none
    | some res => some [((E1 ++ T.1.1.drop θ.length, hb_thR (θ ++ hb_news V.1.length (T.1.1.length - θ.length)) T.1.2.1 ++ V.2.1, hb_thD (θ ++ hb_news V.1.length (T.1.1.length - θ.length)) T.1.2.2 ++ V.2.2), L, res ++ rest, hb_thC (θ ++ hb_news V.1.length (T.1.1.length - θ.length)) T.2.2.2 ++ C.filter (hb_kpm mods))]
theorem hb_stk.app {n : Nat} {U S : Nat → Nat} {ρ : Nat → Int} : ∀ {as bs : List hbA} {vs ws : List Value}, hb_stk n U S ρ as vs → hb_stk n U S ρ bs ws → hb_stk n U S ρ (as ++ bs) (vs ++ ws)
  | [], _, [], _, _, h => h
  | _ :: _, _, _ :: _, _, h, h' => ⟨h.1, hb_stk.app h.2 h'⟩
  | [], _, _ :: _, _, h, _ => h.elim
  | _ :: _, _, [], _, h, _ => h.elim
theorem hb_nmem {c : Nat} {L : List Nat} (h : (!(hb_mem c L)) = true) : c ∉ L := by
  intro hm
  have key : ∀ {L : List Nat}, c ∈ L → hb_mem c L = true := by
    intro L
    induction L with
    | nil => intro h; cases h
    | cons d r ih =>
      intro h
      unfold hb_mem
      rcases List.mem_cons.mp h with e | h
      · rw [← e]; simp
      · rw [ih h]; simp
  rw [key hm] at h
  cases h
theorem hb_cch.fr {n : Nat} {U S : Nat → Nat} {ρ : Nat → Int} {C : List (Nat × hbA × hbA)} {wd wd' : va_W} {mods : List Nat} (h : hb_cch n U S ρ C wd) (hf : hb_fr mods wd wd') : hb_cch n U S ρ (C.filter (hb_kpm mods)) wd' := by
  intro q hq
  obtain ⟨m1, m2⟩ := List.mem_filter.mp hq
  obtain ⟨m2, m3⟩ := hb_and2 m2
  have n1 := hb_nmem m2
  rcases h q m1 with ⟨z1, z2⟩ | ⟨ht, h1, e, v, h2, h3⟩
  · rw [show Nat.beq q.2.2.1 9 = true by rw [z1]; rfl] at m3
    have n2 := hb_nmem (show (!(hb_mem q.2.1.2.2.2.toNat mods)) = true from m3)
    refine Or.inl ⟨z1, ?_⟩
    intro a1 a2 e1 e2 k x y h1 h2 h3 h4 hx
    rw [(hf q.1).2 n1] at h1
    rw [(hf _).2 n2] at h2
    exact z2 a1 a2 e1 e2 k x y h1 h2 h3 h4 hx
  · exact Or.inr ⟨ht, h1, e, v, by rw [(hf q.1).2 n1]; exact h2, h3⟩
theorem hb_end_ok {X : hbX} {V : hbV} {L : List (Nat × hbA)} {rest : List hbA} {C : List (Nat × hbA × hbA)} {ρ ρ' : Nat → Int} {wd wd' : va_W} {ls : Array Slot} {st : List Value} {θ : List hbA} {mods : List Nat} {T : hbS} {v : Option Value} {as : List hbS}
    (hs : hb_sat X (V, L, rest, C) ρ wd ls st) (hθ : ∀ a ∈ θ, a.2.2.1 < V.1.length) (ha : hb_ag θ.length (hb_rt ρ θ) ρ') (hn : θ.length ≤ T.1.1.length) (hV : hb_V ρ' T.1) (hr : hb_stk T.1.1.length X.2.2.1.1 X.2.2.1.2 ρ' T.2.2.1 v.toList) (hC : hb_cch T.1.1.length X.2.2.1.1 X.2.2.1.2 ρ' T.2.2.2 wd') (hf : hb_fr mods wd wd')
    (h : hb_end V θ mods L rest C T = some as) : ∃ A ∈ as, ∃ ρ'', hb_sat X A ρ'' wd' ls (v.toList ++ st) := by
  obtain ⟨s1, ⟨s2, s2b, s2c⟩, s3, s4, s5⟩ := hs
  obtain ⟨E1, q1, q2, q3⟩ := hb_rfs_ok (θ := θ) (F := T.1.1) s1.1 hθ (fun k a lo hi h1 h2 => by
    have hk : k < θ.length := (List.getElem?_eq_some_iff.mp h1).1
    have e1 := ha k hk
    rw [hb_rt_at h1] at e1
    have := hV.1 k lo hi h2
    omega)
  unfold hb_end at h
  rw [q1] at h
  dsimp only at h
  generalize hθe : θ ++ hb_news V.1.length (T.1.1.length - θ.length) = θ' at h
  cases ht : hb_ths θ' T.2.2.1 with
  | none => rw [ht] at h; cases h
  | some res =>
    rw [ht] at h
    cases h
    refine ⟨_, List.mem_singleton.mpr rfl, fun k => if k < V.1.length then ρ k else ρ' (θ.length + (k - V.1.length)), ?_⟩
    generalize hρe : (fun k => if k < V.1.length then ρ k else ρ' (θ.length + (k - V.1.length))) = ρ''
    have agr : hb_ag V.1.length ρ ρ'' := fun k hk => by rw [← hρe]; exact if_pos hk
    have len : (E1 ++ T.1.1.drop θ.length).length = V.1.length + (T.1.1.length - θ.length) := by
      rw [List.length_append, List.length_drop]
      have q3 : E1.length = V.1.length := q3
      omega
    have hk' : ∀ a ∈ θ', a.2.2.1 < V.1.length + (T.1.1.length - θ.length) := by
      intro a haM
      rw [← hθe] at haM
      rcases List.mem_append.mp haM with z | z
      · have := hθ a z
        omega
      · obtain ⟨i, hi⟩ := List.getElem?_of_mem z
        have hil : i < T.1.1.length - θ.length := by
          have := (List.getElem?_eq_some_iff.mp hi).1
          rw [hb_news_len] at this
          exact this
        rw [hb_news_at _ hil] at hi
        cases hi
        show V.1.length + i < _
        omega
    have hrt : ∀ k, k < T.1.1.length → hb_rt ρ'' θ' k = ρ' k := by
      intro k hk
      by_cases hkn : k < θ.length
      · have h1 : θ'[k]? = some θ[k] := by
          rw [← hθe, List.getElem?_append_left hkn]
          exact List.getElem?_eq_getElem hkn
        have h2 : θ[k]? = some θ[k] := List.getElem?_eq_getElem hkn
        rw [hb_rt_at h1, agr _ (hθ _ (List.getElem_mem hkn)), ← hb_rt_at (ρ := ρ) h2]
        exact (ha k hkn).symm
      · have h1 : θ'[k]? = some (0, 1, V.1.length + (k - θ.length), 0) := by
          rw [← hθe, List.getElem?_append_right (by omega)]
          exact hb_news_at _ (by omega)
        rw [hb_rt_at h1]
        show 1 * ρ'' (V.1.length + (k - θ.length)) + 0 = ρ' k
        rw [← hρe]
        dsimp only
        rw [if_neg (by omega), show θ.length + (V.1.length + (k - θ.length) - V.1.length) = k by omega]
        omega
    have hle : V.1.length ≤ (E1 ++ T.1.1.drop θ.length).length := by rw [len]; omega
    refine ⟨⟨?_, ?_, ?_⟩, ⟨?_, ?_, ?_⟩, ?_, ?_, ?_⟩
    · intro k lo hi hk
      by_cases hl : k < E1.length
      · rw [List.getElem?_append_left hl] at hk
        rw [agr k (by rw [← q3]; exact hl)]
        exact q2 k lo hi hk
      · rw [List.getElem?_append_right (by omega), List.getElem?_drop] at hk
        have q3 : E1.length = V.1.length := q3
        have := hV.1 _ lo hi hk
        rw [← hρe]
        dsimp only
        rw [if_neg (by omega), ← q3]
        exact this
    · intro r hr'
      rw [len]
      rcases List.mem_append.mp hr' with z | z
      · exact hb_thR_ok hV.2.1 hrt hk' r z
      · exact hb_rels.ag s1.2.1 (Nat.le_add_right _ _) agr r z
    · intro d hd
      rw [len]
      rcases List.mem_append.mp hd with z | z
      · exact hb_thD_ok hV.2.2 hrt hk' d z
      · exact hb_defs.ag s1.2.2 (Nat.le_add_right _ _) agr d z
    · exact Nat.lt_of_lt_of_le s2 hle
    · exact Nat.le_trans s2b hle
    · exact s2c.trans s2b agr
    · exact s3.ext hle agr
    · rw [len]
      exact hb_stk.app (hb_ths_ok hrt hk' hr ht) (hb_stk.ext (by omega) agr s4)
    · intro q hq
      rw [len]
      rcases List.mem_append.mp hq with z | z
      · exact hb_thC_ok hC hrt hk' q z
      · exact hb_cch.ext (hb_cch.fr s5 hf) (Nat.le_add_right _ _) agr q z
