/-! hb_: System.arraycopy between rows of ints or of longs of one type -/
def hb_cp (own : String) (cpo : List Nat) (args : Array Value) (s : State) : Prop := ∀ x ∈ cpo, (Cond.methodLink own x arraycopyName).before args s = true ∧ (Cond.native arraycopyName).before args s = true ∧ (Cond.static arraycopyName).before args s = true ∧ (Cond.initialized "java/lang/System").before args s = true
def hb_nn (V : hbV) (a : hbA) : Bool := Nat.beq a.1 0 && (match hb_iv V.1 a.2.1 a.2.2.1 a.2.2.2 with
  | some (l, _) => hb_le 0 l
  | none => false)
theorem hb_nn_ok {ρ : Nat → Int} {U T : Nat → Nat} {V : hbV} {a : hbA} {v : Value} (hV : hb_V ρ V) (hv : hb_v V.1.length U T ρ a v) (h : hb_nn V a = true) : ∃ x : Int32, v = .int x ∧ x.toInt = a.2.1 * ρ a.2.2.1 + a.2.2.2 ∧ 0 ≤ x.toInt := by
  obtain ⟨h1, h2⟩ := hb_and2 h
  obtain ⟨-, x, e, ex⟩ := hv.int h1
  refine ⟨x, e, ex, ?_⟩
  cases hq : hb_iv V.1 a.2.1 a.2.2.1 a.2.2.2 with
  | none => rw [hq] at h2; cases h2
  | some q =>
    obtain ⟨l, u⟩ := q
    rw [hq] at h2
    have := hb_iv_ok hV.1 hq
    have := hb_le_t h2
    omega
def hb_tone (t : List hbT) (u : List hbT) : Bool := match t, u with
  | [a], [b] => hb_teq a b
  | _, _ => false
def hb_acw : Nat := nativeFrameWords "java/lang/System" "arraycopy" 5 + 11
def hb_step6 (KT : List hbK) (fp mods cpo : List Nat) (RF RL acw : Nat) (i : Instr) (len pc : Nat) (V : hbV) (L : List (Nat × hbA)) (S : List hbA) (C : List (Nat × hbA × hbA)) : hbR := match i, S with
  | .invokestatic x, n :: dp :: d :: sp :: a :: r => match KT[a.2.2.1]?, KT[d.2.2.1]? with
    | some ka, some kd => cond (hb_mem x cpo && Nat.beq len 3 && hb_tt 2 2 a d && hb_mem a.2.2.1 fp && hb_mem d.2.2.1 fp && hb_mem d.2.2.1 mods && Nat.beq ka.1 kd.1 && (Nat.beq ka.1 1 || Nat.beq ka.1 4) && hb_tone ka.2.2.2 kd.2.2.2 && hb_nn V n && hb_nn V dp && hb_nn V sp && hb_sumQ V sp n (.ofNat ka.2.2.1) && hb_sumQ V dp n (.ofNat kd.2.2.1) && Nat.ble 1 RF && Nat.ble (hb_cats r + acw) RL)
        (some [(pc + 3, (V, L, r, C.filter (hb_kpm [d.2.2.1])))]) none
    | _, _ => none
  | _, _ => none
theorem hb_tone_ok {t u : List hbT} (h : hb_tone t u = true) : ∃ a, t = [a] ∧ u = [a] := by
  match t, u, h with
  | [], _, h => cases h
  | [a], [], h => cases h
  | [a], [b], h => exact ⟨a, rfl, by rw [hb_teq_ok h]⟩
  | [a], _ :: _ :: _, h => cases h
  | _ :: _ :: _, _, h => cases h
theorem hb_fr1 {wd : va_W} {c a : Nat} {e e' : va_E} (hc : wd[c]? = some (a, e)) : hb_fr [c] wd (wd.set c (a, e')) := by
  have h0 : hb_fr [c] wd wd := fun d => ⟨rfl, fun _ => rfl⟩
  exact h0.upd (List.mem_singleton.mpr rfl) hc
section HBS6
variable {p : Program} {l : Launch} {e : Env} {R : Room} {s : State} {m : MethodId} {args : Array Value} {below : List Frame} {meth : Method} {c : Code} {Q : State → Prop} {cc : ByteArray} {pc nL : Nat} {X : hbX} {V : hbV} {L : List (Nat × hbA)} {S : List hbA} {C : List (Nat × hbA × hbA)} {own : String} {KT : List hbK} {fp mods cpo : List Nat}
theorem hb_tyAt1 {kd : hbK} {t : hbT} (h : kd.2.2.2 = [t]) (k : Nat) : hb_tyAt kd k = some t := by
  unfold hb_tyAt
  rw [h]
  simp [Nat.mod_one]
theorem hb_copied {X : hbX} {V : hbV} {L : List (Nat × hbA)} {r : List hbA} {C : List (Nat × hbA × hbA)} {cD : Nat} {kd : hbK} {t : hbT} {nx : Nat} (hJ : hb_J X (hb_w p l e R s m args below meth c Q) m (V, L, r, C.filter (hb_kpm [cD])) nx) {ρ : Nat → Int} {wd : va_W} {H : Heap} {locs : List Loc} {ls : Array Slot} {st : List Value} (hs : hb_sat X (V, L, r, C) ρ wd ls st) (hh : hb_hp X wd H locs) {ec ec' : va_E}
    (hk : X.2.1.1[cD]? = some kd) (he : wd[cD]? = some (X.2.2.1.1 cD, ec)) (hm : cD ∈ X.2.1.2.2) (ht : kd.2.2.2 = [t]) (hsh : hb_shape X.1.1 kd ec') (hel : ∀ k, k < kd.2.2.1 → ∃ v, hb_get ec' k = some v ∧ hb_ty X.2.2.1.1 t v)
    {H1 : Heap} {locs1 : List Loc} (hP : va_P X.1.2.1 X.1.2.2 (wd.set cD (X.2.2.1.1 cD, ec')) H1) (hD : va_D X.2.2.2.2.2.2 (wd.set cD (X.2.2.1.1 cD, ec'))) (hS : va_S X.2.2.2.2.2.2 X.1.1.heap H1 locs1) : W p l e R s m args below meth c H1 locs1 0 0 Q (F0 m nx ls st) := by
  obtain ⟨-, -, -, h4, h5⟩ := hh
  obtain ⟨w1, w2, w3, w4, w5⟩ := hs
  have hc2 : hb_cell X.1.1 X.2.2.1.1 kd ec' := ⟨hsh, fun k hk' => by
    obtain ⟨v, g1, g2⟩ := hel k hk'
    exact ⟨v, t, g1, hb_tyAt1 ht k, g2⟩⟩
  exact hJ ρ _ H1 locs1 ls st ⟨w1, w2, w3, w4, hb_cch.fr w5 (hb_fr1 he)⟩ ⟨hP, hD, hS, h4.upd hk he hc2, h5.upd hm he⟩
theorem hb_cpI {f g : Nat → Int32} {U : Nat → Nat} {t : hbT} {cA nd ns sp dp n k : Nat} {cB : Nat} (hf : ∀ k, k < ns → ∃ v, hb_get (.inl (cB, ns, .inl f)) k = some v ∧ hb_ty U t v) (hg : ∀ k, k < nd → ∃ v, hb_get (.inl (cA, nd, .inl g)) k = some v ∧ hb_ty U t v) (h1 : sp + n ≤ ns) (hk : k < nd) : ∃ v, hb_get (.inl (cA, nd, .inl (va_cpy f g sp dp n))) k = some v ∧ hb_ty U t v := by
  rw [hb_getI hk]
  by_cases q : dp ≤ k ∧ k < dp + n
  · obtain ⟨v, g1, g2⟩ := hf (sp + (k - dp)) (by omega)
    rw [hb_getI (by omega)] at g1
    cases g1
    exact ⟨_, rfl, by rw [pk_cpy_in q.1 q.2]; exact g2⟩
  · obtain ⟨v, g1, g2⟩ := hg k hk
    rw [hb_getI hk] at g1
    cases g1
    exact ⟨_, rfl, by rw [pk_cpy_out (by omega)]; exact g2⟩
theorem hb_cpL {f g : Nat → Int64} {U : Nat → Nat} {t : hbT} {cA nd ns sp dp n k : Nat} {cB : Nat} (hf : ∀ k, k < ns → ∃ v, hb_get (.inl (cB, ns, .inr (.inl f))) k = some v ∧ hb_ty U t v) (hg : ∀ k, k < nd → ∃ v, hb_get (.inl (cA, nd, .inr (.inl g))) k = some v ∧ hb_ty U t v) (h1 : sp + n ≤ ns) (hk : k < nd) : ∃ v, hb_get (.inl (cA, nd, .inr (.inl (va_cpy f g sp dp n)))) k = some v ∧ hb_ty U t v := by
  rw [hb_getL hk]
  by_cases q : dp ≤ k ∧ k < dp + n
  · obtain ⟨v, g1, g2⟩ := hf (sp + (k - dp)) (by omega)
    rw [hb_getL (by omega)] at g1
    cases g1
    exact ⟨_, rfl, by rw [pk_cpy_in q.1 q.2]; exact g2⟩
  · obtain ⟨v, g1, g2⟩ := hg k hk
    rw [hb_getL hk] at g1
    cases g1
    exact ⟨_, rfl, by rw [pk_cpy_out (by omega)]; exact g2⟩
theorem hb_one1 {s : State} {U : Nat → Nat} {kd : hbK} {ec : va_E} {t : hbT} (h : hb_cell s U kd ec) (ht : kd.2.2.2 = [t]) : ∀ k, k < kd.2.2.1 → ∃ v, hb_get ec k = some v ∧ hb_ty U t v := fun k hk => by
  obtain ⟨v, ty, g1, g2, g3⟩ := h.2 k hk
  rw [hb_tyAt1 ht] at g2
  cases g2
  exact ⟨v, g1, g3⟩
theorem hb_nlt {x : Int32} (h : 0 ≤ x.toInt) : ¬ x < 0 := fun q => by
  have := Int32.lt_iff_toInt_lt.mp q
  have z : (0 : Int32).toInt = 0 := by decide
  omega
set_option maxHeartbeats 2000000 in
theorem hb_step6_ok {i : Instr} {len : Nat} {lst : List (Nat × hbS)} (hx : p.tables.exec = Jvm.exec) (hb : c.code = cc) (hml : c.maxLocals = nL) (hown : s.vm.findClass own = some m.cls) (hdg : decode cc pc = .ok (i, len)) (hXs : X.1.1 = s) (hXk : X.2.1 = (KT, fp, mods)) (hXn : X.2.2.2.2.2.1 = nL) (hK : va_K X.1.2.1 X.1.2.2 [] s) (hcp : hb_cp own cpo args s)
    (h : hb_step6 KT fp mods cpo R.frames R.locals hb_acw i len pc V L S C = some lst) (hJ : ∀ z ∈ lst, hb_J X (hb_w p l e R s m args below meth c Q) m z.2 z.1) : hb_J X (hb_w p l e R s m args below meth c Q) m (V, L, S, C) pc := by
  unfold hb_step6 at h
  split at h
  next x n dp d sp a r =>
    cases hka : KT[a.2.2.1]? with
    | none => rw [hka] at h; cases h
    | some ka =>
      cases hkd : KT[d.2.2.1]? with
      | none => rw [hka, hkd] at h; cases h
      | some kd =>
        rw [hka, hkd] at h
        dsimp only at h
        generalize hce : (hb_mem x cpo && Nat.beq len 3 && hb_tt 2 2 a d && hb_mem a.2.2.1 fp && hb_mem d.2.2.1 fp && hb_mem d.2.2.1 mods && Nat.beq ka.1 kd.1 && (Nat.beq ka.1 1 || Nat.beq ka.1 4) && hb_tone ka.2.2.2 kd.2.2.2 && hb_nn V n && hb_nn V dp && hb_nn V sp && hb_sumQ V sp n (.ofNat ka.2.2.1) && hb_sumQ V dp n (.ofNat kd.2.2.1) && Nat.ble 1 R.frames && Nat.ble (hb_cats r + hb_acw) R.locals) = ce at h
        cases ce with
        | false => cases h
        | true =>
          rw [cond_true] at h
          cases h
          obtain ⟨hce, c16⟩ := hb_and2 hce
          obtain ⟨hce, c15⟩ := hb_and2 hce
          obtain ⟨hce, c14⟩ := hb_and2 hce
          obtain ⟨hce, c13⟩ := hb_and2 hce
          obtain ⟨hce, c12⟩ := hb_and2 hce
          obtain ⟨hce, c11⟩ := hb_and2 hce
          obtain ⟨hce, c10⟩ := hb_and2 hce
          obtain ⟨hce, c9⟩ := hb_and2 hce
          obtain ⟨hce, c8⟩ := hb_and2 hce
          obtain ⟨hce, c7⟩ := hb_and2 hce
          obtain ⟨hce, c6⟩ := hb_and2 hce
          obtain ⟨hce, c5⟩ := hb_and2 hce
          obtain ⟨hce, c4⟩ := hb_and2 hce
          obtain ⟨hce, c3⟩ := hb_and2 hce
          obtain ⟨c1, c2⟩ := hb_and2 hce
          have e1 := hb_lenE c2; subst e1
          have hJ := hJ _ (List.mem_singleton.mpr rfl)
          obtain ⟨l1, l2, l3, l4⟩ := hcp x (hb_mem_ok c1)
          obtain ⟨t, ta, td⟩ := hb_tone_ok c9
          intro ρ wd H locs ls st hs hh
          obtain ⟨v1, st1, rfl, g1, hs1⟩ := hs.pop
          obtain ⟨v2, st2, rfl, g2, hs2⟩ := hs1.pop
          obtain ⟨v3, st3, rfl, g3, hs3⟩ := hs2.pop
          obtain ⟨v4, st4, rfl, g4, hs4⟩ := hs3.pop
          obtain ⟨v5, st5, rfl, g5, hs5⟩ := hs4.pop
          obtain ⟨xn, rfl, en, nn⟩ := hb_nn_ok hs5.1 g1 c10
          obtain ⟨xd, rfl, ed, nd⟩ := hb_nn_ok hs5.1 g2 c11
          obtain ⟨xs, rfl, es, ns⟩ := hb_nn_ok hs5.1 g4 c12
          have ev3 := g3.ref (hb_tt_t c3).2
          have ev5 := g5.ref (hb_tt_t c3).1
          subst ev3; subst ev5
          have b1 := hb_sumQ_ok hs5.1 es en c13
          have b2 := hb_sumQ_ok hs5.1 ed en c14
          have b1 : xs.toInt + xn.toInt ≤ (ka.2.2.1 : Int) := b1
          have b2 : xd.toInt + xn.toInt ≤ (kd.2.2.1 : Int) := b2
          obtain ⟨ka', ea, p1, p2, p3, p4⟩ := hh.2.2.2.1 a.2.2.1 (by rw [hXk]; exact hb_mem_ok c4)
          obtain ⟨kd', ed', q1, q2, q3, q4⟩ := hh.2.2.2.1 d.2.2.1 (by rw [hXk]; exact hb_mem_ok c5)
          have q1' := q1
          rw [hXk, hka] at p1
          cases p1
          rw [hXk, hkd] at q1
          cases q1
          have hsz : c.maxLocals = ls.size := by rw [hml, ← hXn]; exact hs5.2.2.1.1.symm
          have hlo : (st5.map fun v => v.category).sum + (nativeFrameWords "java/lang/System" "arraycopy" 5 + 11) ≤ R.locals := by
            rw [hb_stk.cats hs5.2.2.2.1]
            exact Nat.le_of_ble_eq_true c16
          have hm : d.2.2.1 ∈ X.2.1.2.2 := by rw [hXk]; exact hb_mem_ok c6
          have cs : xs.toNatClampNeg = xs.toInt.toNat := rfl
          have cd : xd.toNatClampNeg = xd.toInt.toNat := rfl
          have cn : xn.toNatClampNeg = xn.toInt.toNat := rfl
          have eform := hb_lenE c7
          rw [Bool.or_eq_true] at c8
          rcases c8 with c8 | c8
          · have c8' : Nat.beq kd.1 1 = true := by rw [← eform]; exact c8
            obtain ⟨cA, f, e3, e4, e5⟩ := hb_sh1 p3.1 c8
            obtain ⟨cB, g, e6, e7, e8⟩ := hb_sh1 q3.1 c8'
            subst e3; subst e6
            have hK2 : va_K X.1.2.1 X.1.2.2 [(cA, .int), (cB, .int)] s := (hb_Karr hK (by rw [← hXs]; exact e4) (by rw [← hXs]; exact e5)).app (hb_Karr hK (by rw [← hXs]; exact e7) (by rw [← hXs]; exact e8))
            refine va_copyi (H0 := X.1.1.heap) hx hb hsz hown l1 l2 l3 l4 hK2 hh.1 hh.2.1 hh.2.2.1 a.2.2.1 d.2.2.1 0 1 (ty := .int) p2 q2 rfl rfl rfl (hb_nlt ns) (hb_nlt nd) (hb_nlt nn) (by rw [cs, cn]; omega) (by rw [cd, cn]; omega) (fun i _ => rfl) (Nat.le_of_ble_eq_true c15) hlo hdg (fun H1 locs1 hP hD hS => ?_)
            refine hb_copied hJ hs5 hh q1' q2 hm td ?_ (fun k hk => hb_cpI (hb_one1 p3 ta) (hb_one1 q3 td) (by rw [cs, cn]; omega) hk) hP hD hS
            obtain ⟨fm, ci', n', tys⟩ := kd
            have ef : fm = 1 := hb_lenE c8'
            subst ef
            exact ⟨cB, _, rfl, e7, e8⟩
          · have c8' : Nat.beq kd.1 4 = true := by rw [← eform]; exact c8
            obtain ⟨cA, f, e3, e4, e5⟩ := hb_sh4 p3.1 c8
            obtain ⟨cB, g, e6, e7, e8⟩ := hb_sh4 q3.1 c8'
            subst e3; subst e6
            have hK2 : va_K X.1.2.1 X.1.2.2 [(cA, .long), (cB, .long)] s := (hb_Karr hK (by rw [← hXs]; exact e4) (by rw [← hXs]; exact e5)).app (hb_Karr hK (by rw [← hXs]; exact e7) (by rw [← hXs]; exact e8))
            refine va_copyl (H0 := X.1.1.heap) hx hb hsz hown l1 l2 l3 l4 hK2 hh.1 hh.2.1 hh.2.2.1 a.2.2.1 d.2.2.1 0 1 (ty := .long) p2 q2 rfl rfl rfl (hb_nlt ns) (hb_nlt nd) (hb_nlt nn) (by rw [cs, cn]; omega) (by rw [cd, cn]; omega) (fun i _ => rfl) (Nat.le_of_ble_eq_true c15) hlo hdg (fun H1 locs1 hP hD hS => ?_)
            refine hb_copied hJ hs5 hh q1' q2 hm td ?_ (fun k hk => hb_cpL (hb_one1 p3 ta) (hb_one1 q3 td) (by rw [cs, cn]; omega) hk) hP hD hS
            obtain ⟨fm, ci', n', tys⟩ := kd
            have ef : fm = 4 := hb_lenE c8'
            subst ef
            exact ⟨cB, _, rfl, e7, e8⟩
  next => cases h
end HBS6
