theorem hb_ths_ms {ρ : Nat → Int} {θ : List hbA} : ∀ {as bs : List hbA} {acc : Nat}, hb_ths θ as = some bs → as.all (fun a => Nat.ble a.1 1) = true → hb_msA (hb_rt ρ θ) acc as = hb_msA ρ acc bs
  | [], bs, acc, h, _ => by cases h; rfl
  | a :: as, bs, acc, h, ht => by
    unfold hb_ths at h
    rw [List.all_cons] at ht
    obtain ⟨t1, t2⟩ := hb_and2 ht
    cases h1 : hb_th θ a with
    | none => rw [h1] at h; cases h
    | some b =>
      cases h2 : hb_ths θ as with
      | none => rw [h1, h2] at h; cases h
      | some q =>
        rw [h1, h2] at h
        cases h
        have e := (hb_th_ok (ρ := ρ) h1 t1).2.2
        show hb_msA (hb_rt ρ θ) (acc * 1099511627776 + (hb_val (hb_rt ρ θ) a).toNat) as = hb_msA ρ (acc * 1099511627776 + (hb_val ρ b).toNat) q
        rw [show hb_val (hb_rt ρ θ) a = hb_val ρ b from e.symm]
        exact hb_ths_ms h2 t2
theorem hb_msA_ag {n : Nat} {ρ ρ' : Nat → Int} (ha : hb_ag n ρ ρ') : ∀ {as : List hbA} {acc : Nat}, (∀ a ∈ as, a.2.2.1 < n) → hb_msA ρ' acc as = hb_msA ρ acc as
  | [], _, _ => rfl
  | a :: as, acc, h => by
    show hb_msA ρ' (acc * 1099511627776 + (hb_val ρ' a).toNat) as = hb_msA ρ (acc * 1099511627776 + (hb_val ρ a).toNat) as
    rw [show hb_val ρ' a = hb_val ρ a by unfold hb_val; rw [ha _ (h a List.mem_cons_self)]]
    exact hb_msA_ag ha (fun b hb => h b (List.mem_cons_of_mem _ hb))
/-- the same machine and world, other first numbers -/
def hb_like (X X' : hbX) : Prop := X'.1 = X.1 ∧ X'.2.1 = X.2.1 ∧ X'.2.2.1 = X.2.2.1 ∧ X'.2.2.2.2 = X.2.2.2.2 ∧ X.2.2.2.1.2 ≤ X'.2.2.2.1.2 ∧ hb_ag X.2.2.2.1.2 X.2.2.2.1.1 X'.2.2.2.1.1
theorem hb_sat.like {X X' : hbX} (h : hb_like X X') {A : hbS} {ρ : Nat → Int} {wd : va_W} {ls : Array Slot} {st : List Value} (hs : hb_sat X' A ρ wd ls st) : hb_sat X A ρ wd ls st := by
  obtain ⟨x1, x2, ⟨x3, x3'⟩, ⟨x4, x4'⟩, x5⟩ := X
  obtain ⟨y1, y2, ⟨y3, y3'⟩, ⟨y4, y4'⟩, y5⟩ := X'
  obtain ⟨h1, h2, h3, h4, h5, h6⟩ := h
  dsimp only at h1 h2 h3 h4 h5 h6
  cases h1; cases h2; cases h3; cases h4
  obtain ⟨s1, ⟨s2, s3, s4⟩, s5⟩ := hs
  exact ⟨s1, ⟨s2, Nat.le_trans h5 s3, h6.trans h5 s4⟩, s5⟩
theorem hb_hp.like {X X' : hbX} (h : hb_like X X') {wd : va_W} {H : Heap} {locs : List Loc} (hh : hb_hp X' wd H locs) : hb_hp X wd H locs := by
  obtain ⟨x1, x2, x3, x4, x5⟩ := X
  obtain ⟨y1, y2, y3, y4, y5⟩ := X'
  obtain ⟨h1, h2, h3, h4, h5, h6⟩ := h
  dsimp only at h1 h2 h3 h4
  cases h1; cases h2; cases h3; cases h4
  exact hh
section HBRN
variable {p : Program} {l : Launch} {e : Env} {R : Room} {s : State} {m : MethodId} {args : Array Value} {below : List Frame} {meth : Method} {c : Code} {cc : ByteArray} {X : hbX} {G : hbG} {posts : List (hbS × List (Nat × Nat × Int))} {hd : hbH} {sp : List (Nat × Nat)} {ins : Nat → Option (Instr × Nat)} {stp : Instr → Nat → Nat → hbS → hbR} {fp mods : List Nat} {rc : Nat}
/-- what a method's end must say -/
abbrev hb_QX (below : List Frame) (args : Array Value) (s : State) (G : hbG) (X : hbX) (fp mods : List Nat) (posts : List (hbS × List (Nat × Nat × Int))) : State → Prop := MQ below (hb_Post G X.1.2.1 X.2.2.1.1 X.2.2.1.2 X.2.2.2.1.1 X.2.2.2.1.2 X.2.2.2.2.1 s.heap.size fp mods posts) args s 0 0 (va_A X.2.2.2.2.1 s.heap.size)
theorem hb_ret_ok {A : hbS} {v : Option Value} (hXs : X.1.1 = s) (hXc : X.1.2.2 = G.1.2) (hXk : X.2.1 = (G.1.1, fp, mods)) (hAd : X.2.2.2.2.2.2 = va_A X.2.2.2.2.1 s.heap.size) (h : hb_retQ X.2.2.2.1.2 posts A = true) {ρ : Nat → Int} {wd : va_W} {H : Heap} {locs : List Loc} {ls : Array Slot} {st : List Value} (hv : v.toList = st) (hs : hb_sat X A ρ wd ls st) (hh : hb_hp X wd H locs) :
    (∀ t : State, t.heap = H → s.WarmedH t.vm → hb_Post G X.1.2.1 X.2.2.1.1 X.2.2.1.2 X.2.2.2.1.1 X.2.2.2.1.2 X.2.2.2.2.1 s.heap.size fp mods posts args s (.returned v) t) ∧ ∀ q ∈ locs, va_A X.2.2.2.2.1 s.heap.size q.base := by
  obtain ⟨q, q1, q2⟩ := List.any_eq_true.mp h
  cases hθ : hb_bd2 A (hb_idl X.2.2.2.1.2) q.2 with
  | none => rw [hθ] at q2; cases q2
  | some θ =>
    rw [hθ] at q2
    obtain ⟨q2, m4⟩ := hb_and2 q2
    obtain ⟨q2, m3⟩ := hb_and2 q2
    obtain ⟨m1, m2⟩ := hb_and2 q2
    obtain ⟨s1, ⟨s2, s2b, s2c⟩, s3, s4, s5⟩ := hs
    obtain ⟨g1, g2⟩ := hb_mV_ok s1 m2
    obtain ⟨i1, i2⟩ := hb_idn_ok (ρ := ρ) m1
    refine ⟨fun t ht hW => ⟨⟨v, wd, hb_rt ρ θ, q, q1, rfl, s2c.trans (Nat.le_refl _) i2, by rw [← g1]; exact i1, g2, ?_, ?_, ?_, ?_, ?_⟩, ?_⟩, ?_⟩
    · rw [hv, ← g1]; exact hb_mS_ok s4 m3
    · rw [← g1]; exact hb_mC_ok s5 m4
    · rw [ht, ← hXc]; exact hh.1
    · have := hh.2.2.2.1
      rw [hXk, hXs] at this
      exact this.moved hW.alike
    · have := hh.2.2.2.2
      rw [hXk] at this
      exact this
    · have := hh.2.2.1
      rw [hAd, hXs] at this
      exact this.F ht
    · have := hh.2.2.1.2.2
      rw [hAd] at this
      exact this
set_option maxHeartbeats 4000000 in
theorem hb_run_ok (hx : p.tables.exec = Jvm.exec) (hb : c.code = cc) (hlocks : meth.locks = false) (hins : ∀ q z, ins q = some z → decode cc q = .ok z) (hrc : (rc = 0 → meth.sig.returnType = none) ∧ (rc = 1 → meth.sig.returnType = some .int) ∧ (rc = 2 → meth.sig.returnType = some .boolean) ∧ (rc = 3 → meth.sig.returnType = some .long) ∧ (rc = 4 → ∃ n, meth.sig.returnType = some (.object n)))
    (hXs : X.1.1 = s) (hXc : X.1.2.2 = G.1.2) (hXk : X.2.1 = (G.1.1, fp, mods)) (hAd : X.2.2.2.2.2.2 = va_A X.2.2.2.2.1 s.heap.size) (hn0 : 0 < X.2.2.2.1.2) {X' : hbX} (hX : hb_like X X')
    (hst : ∀ (i : Instr) (len pc : Nat) (A : hbS) (lst : List (Nat × hbS)), decode cc pc = .ok (i, len) → stp i len pc A = some lst → (∀ z ∈ lst, hb_J X' (hb_w p l e R s m args below meth c (hb_QX below args s G X fp mods posts)) m z.2 z.1) → hb_J X' (hb_w p l e R s m args below meth c (hb_QX below args s G X fp mods posts)) m A pc)
    {ms0 : Option (List hbA)} (hms : ∀ ms, ms0 = some ms → ∀ a ∈ ms, a.2.2.1 < X'.2.2.2.1.2)
    (hHJ : ∀ h ∈ hd, ∀ (ρ : Nat → Int) (wd : va_W) (H : Heap) (locs : List Loc) (ls : Array Slot) (st : List Value), hb_sat X h.2.1 ρ wd ls st → hb_hp X wd H locs → (∀ ms, ms0 = some ms → hb_msA ρ 0 h.2.2.2 < hb_msA X'.2.2.2.1.1 0 ms) → W p l e R s m args below meth c H locs 0 0 (hb_QX below args s G X fp mods posts) (F0 m h.1 ls st)) :
    ∀ (f : Nat) (first : Bool) (pc : Nat) (A : hbS), hb_run X.2.2.2.1.2 rc posts hd sp ins stp ms0 f first pc A = true → hb_J X' (hb_w p l e R s m args below meth c (hb_QX below args s G X fp mods posts)) m A pc := by
  intro f
  induction f with
  | zero => intro first pc A h; cases h
  | succ f ih =>
    intro first pc A h
    unfold hb_run at h
    rw [Bool.or_eq_true] at h
    rcases h with h | h
    · obtain ⟨-, h⟩ := hb_and2 h
      obtain ⟨hh0, k1, k2⟩ := List.any_eq_true.mp h
      obtain ⟨k2, k3⟩ := hb_and2 k2
      cases hθ : hb_bd2 A (hb_idl X.2.2.2.1.2) hh0.2.2.1 with
      | none => rw [hθ] at k3; cases k3
      | some θ =>
        rw [hθ] at k3
        dsimp only at k3
        obtain ⟨k3, k7⟩ := hb_and2 k3
        obtain ⟨k3, k6⟩ := hb_and2 k3
        obtain ⟨k4, k5⟩ := hb_and2 k3
        intro ρ wd H locs ls st hs hh
        have epc : hh0.1 = pc := hb_lenE k2
        have hsX := hs.like hX
        have hl0 : Nat.blt 0 hh0.2.1.1.1.length = true := by
          have g1 := (hb_mV_ok hs.1 (hb_and2 (hb_and2 (hb_and2 k5).1).1).1).1
          have i1 := (hb_idn_ok (ρ := ρ) k4).1
          rw [← g1]
          exact Nat.ble_eq_true_of_le (Nat.lt_of_lt_of_le hn0 i1)
        have hT := hb_m_ok hsX k5 k4 hl0
        rw [← epc]
        refine hHJ hh0 k1 (hb_rt ρ θ) wd H locs ls st hT (hh.like hX) (fun ms hms' => ?_)
        subst hms'
        cases hx' : hb_ths θ hh0.2.2.2 with
        | none => rw [hx'] at k7; cases k7
        | some xs =>
          rw [hx'] at k7
          rw [hb_ths_ms hx' k6, ← hb_msA_ag hs.2.1.2.2 (hms ms rfl)]
          exact hb_lex_ok hs.1 (Nat.le_refl 0) k7
    · cases hi : ins pc with
      | none => rw [hi] at h; cases h
      | some z =>
        obtain ⟨i, len⟩ := z
        rw [hi] at h
        dsimp only at h
        have hdg := hins _ _ hi
        obtain ⟨V, L, S, C⟩ := A
        dsimp only at h
        split at h
        next =>
          obtain ⟨h, h3⟩ := hb_and2 h
          obtain ⟨h1, h2⟩ := hb_and2 h
          have e1 := hb_lenE h1; subst e1
          intro ρ wd H locs ls st hs hh
          have est := hb_stk.nil hs.2.2.2.1
          subst est
          obtain ⟨r1, r2⟩ := hb_ret_ok (args := args) (v := none) hXs hXc hXk hAd h3 rfl (hs.like hX) (hh.like hX)
          exact W.vret hx hb (hrc.1 (hb_lenE h2)) r1 r2 hdg hlocks
        next a =>
          obtain ⟨h, h3⟩ := hb_and2 h
          obtain ⟨h1, h2⟩ := hb_and2 h
          have e1 := hb_lenE h1; subst e1
          intro ρ wd H locs ls st hs hh
          obtain ⟨v, st1, rfl, g1, hs1⟩ := hs.pop
          have est := hb_stk.nil hs1.2.2.2.1
          subst est
          rw [Bool.or_eq_true] at h2
          rcases h2 with h2 | h2
          · obtain ⟨c1, c2⟩ := hb_and2 h2
            obtain ⟨-, x, rfl, -⟩ := g1.int c2
            obtain ⟨r1, r2⟩ := hb_ret_ok (args := args) (v := some (.int x)) hXs hXc hXk hAd h3 rfl (hs.like hX) (hh.like hX)
            exact W.iret hx hb (hrc.2.1 (hb_lenE c1)) r1 r2 hdg hlocks
          · obtain ⟨c1, c2⟩ := hb_and2 h2
            obtain ⟨x, rfl, b1, b2⟩ := hb_fit_ok hs1.1 g1 c2
            obtain ⟨r1, r2⟩ := hb_ret_ok (args := args) (v := some (.int x)) hXs hXc hXk hAd h3 rfl (hs.like hX) (hh.like hX)
            exact W.zret hx hb (hrc.2.2.1 (hb_lenE c1)) (hb_nar_bool b1 b2).2.1 r1 r2 hdg hlocks
        next a =>
          obtain ⟨h, h3⟩ := hb_and2 h
          obtain ⟨h, h4⟩ := hb_and2 h
          obtain ⟨h1, h2⟩ := hb_and2 h
          have e1 := hb_lenE h1; subst e1
          intro ρ wd H locs ls st hs hh
          obtain ⟨v, st1, rfl, g1, hs1⟩ := hs.pop
          have est := hb_stk.nil hs1.2.2.2.1
          subst est
          obtain ⟨-, x, rfl, -⟩ := g1.long h4
          obtain ⟨r1, r2⟩ := hb_ret_ok (args := args) (v := some (.long x)) hXs hXc hXk hAd h3 rfl (hs.like hX) (hh.like hX)
          exact W.lret hx hb (hrc.2.2.2.1 (hb_lenE h2)) r1 r2 hdg hlocks
        next a =>
          obtain ⟨h, h3⟩ := hb_and2 h
          obtain ⟨h, h4⟩ := hb_and2 h
          obtain ⟨h1, h2⟩ := hb_and2 h
          have e1 := hb_lenE h1; subst e1
          intro ρ wd H locs ls st hs hh
          obtain ⟨v, st1, rfl, g1, hs1⟩ := hs.pop
          have est := hb_stk.nil hs1.2.2.2.1
          subst est
          obtain ⟨nn, hrt⟩ := hrc.2.2.2.2 (hb_lenE h2)
          obtain ⟨r1, r2⟩ := hb_ret_ok (args := args) (v := some v) hXs hXc hXk hAd h3 rfl (hs.like hX) (hh.like hX)
          exact W.aret hx hb hrt (Or.inl ⟨nn, rfl⟩) (by rcases g1.refs h4 with ⟨y, rfl⟩ | rfl; exact Or.inr ⟨y, rfl⟩; exact Or.inl rfl) r1 r2 hdg hlocks
        next =>
          split at h
          next jj Vs hVs =>
            obtain ⟨j, w1, w2⟩ := hb_ob_some hVs
            obtain ⟨a, w3, w4⟩ := hb_ob_some w2
            cases hcc : (hb_isc a || !(Nat.beq a.1 0)) with
            | true => rw [hcc] at w4; cases w4
            | false =>
              rw [hcc, cond_false] at w4
              obtain ⟨zs, w5, w6⟩ := hb_ob_some w4
              cases w6
              have ht : Nat.beq a.1 0 = true := by
                cases hq : Nat.beq a.1 0 with
                | true => rfl
                | false => rw [hq] at hcc; simp at hcc
              intro ρ wd H locs ls st hs hh
              obtain ⟨v, g1, g2⟩ := hs.loc w3
              obtain ⟨ka, x, rfl, ex⟩ := g2.int ht
              have hmem := hb_all_ok hs.1 ex w5
              obtain ⟨V', b1, b2, b3⟩ := hb_tk_ok (cnd := .eq) (b := (0, 0, 0, x.toInt)) (y := x.toInt) hs.1 ka hs.2.1.1 ex (show x.toInt = 0 * ρ 0 + x.toInt by omega) rfl
              have hr := List.all_eq_true.mp h (x.toInt, V') (hb_spl_mem hmem b1)
              refine ih true pc (V', hb_st1 L jj (0, 0, 0, x.toInt), S, C) hr ρ wd H locs ls st ?_ hh
              obtain ⟨n1, n2, n3, n4, n5⟩ := hs.num (V' := V') (Nat.le_of_eq b3.symm) hb_ag.rf b2
              refine ⟨n1, n2, ⟨n3.1, n3.2.1, fun w hw => ?_⟩, n4, n5⟩
              rcases List.mem_cons.mp hw with rfl | hw
              · exact ⟨.int x, g1, hb_kI rfl n2.1⟩
              · exact n3.2.2 w (List.mem_filter.mp hw).1
          next =>
            cases hs' : stp i len pc (V, L, S, C) with
            | none => rw [hs'] at h; cases h
            | some lst =>
              rw [hs'] at h
              exact hst i len pc (V, L, S, C) lst hdg hs' (fun z hz => ih false z.1 z.2 (List.all_eq_true.mp h z hz))
end HBRN
