/-! hb_: constants, and Math.max, Math.min -/
/-- index, kind (0 int, 1 long, 2 text), value or the text's number -/
def hb_kp (own : String) (S : Nat → Nat) (kpo : List (Nat × Nat × Int)) (args : Array Value) (s : State) : Prop := ∀ q ∈ kpo,
  (q.2.1 = 0 → ∃ v : Int32, v.toInt = q.2.2 ∧ (Cond.constant own q.1 v).before args s = true) ∧ (q.2.1 = 1 → ∃ v : Int64, v.toInt = q.2.2 ∧ (Cond.constantLong own q.1 v).before args s = true) ∧ (q.2.1 = 2 → ∃ tx : String, vk_R own q.1 tx (S q.2.2.toNat) s)
def hb_kl (kpo : List (Nat × Nat × Int)) (i : Nat) : Option (Nat × Int) := match kpo with
  | [] => none
  | (j, q) :: r => cond (Nat.beq j i) (some q) (hb_kl r i)
theorem hb_kl_mem {i : Nat} {q : Nat × Int} : ∀ {kpo : List (Nat × Nat × Int)}, hb_kl kpo i = some q → (i, q) ∈ kpo
  | [], h => by cases h
  | (j, q') :: r, h => by
    unfold hb_kl at h
    cases hj : Nat.beq j i with
    | true =>
      rw [hj] at h
      cases h
      rw [hb_lenE hj]
      exact List.mem_cons_self
    | false =>
      rw [hj] at h
      exact List.mem_cons_of_mem _ (hb_kl_mem h)
/-- links of Math.max (0) and Math.min (1) -/
def hb_xp (own : String) (xpo : List (Nat × Nat)) (args : Array Value) (s : State) : Prop := ∀ q ∈ xpo, (Cond.initialized "java/lang/Math").before args s = true ∧
  (q.2 = 0 → (Cond.methodLink own q.1 Lib.Math.max.name).before args s = true ∧ (Cond.static Lib.Math.max.name).before args s = true ∧ (Cond.code Lib.Math.max.name Lib.Math.max.code 2 (some .int)).before args s = true) ∧
  (q.2 = 1 → (Cond.methodLink own q.1 Lib.Math.min.name).before args s = true ∧ (Cond.static Lib.Math.min.name).before args s = true ∧ (Cond.code Lib.Math.min.name Lib.Math.min.code 2 (some .int)).before args s = true)
def hb_xl (xpo : List (Nat × Nat)) (i : Nat) : Option Nat := match xpo with
  | [] => none
  | (j, q) :: r => cond (Nat.beq j i) (some q) (hb_xl r i)
theorem hb_xl_mem {i q : Nat} : ∀ {xpo : List (Nat × Nat)}, hb_xl xpo i = some q → (i, q) ∈ xpo
  | [], h => by cases h
  | (j, q') :: r, h => by
    unfold hb_xl at h
    cases hj : Nat.beq j i with
    | true =>
      rw [hj] at h
      cases h
      rw [hb_lenE hj]
      exact List.mem_cons_self
    | false =>
      rw [hj] at h
      exact List.mem_cons_of_mem _ (hb_xl_mem h)
def hb_step5 (RF RL : Nat) (kpo : List (Nat × Nat × Int)) (xpo : List (Nat × Nat)) (i : Instr) (len pc : Nat) (V : hbV) (L : List (Nat × hbA)) (S : List hbA) (C : List (Nat × hbA × hbA)) : hbR := match i with
  | .ldc x => match hb_kl kpo x with
    | some (0, z) => hb_nul (Nat.beq len 2) (pc + 2, (V, L, (0, 0, 0, z) :: S, C))
    | some (2, z) => hb_nul (Nat.beq len 2) (pc + 2, (V, L, (4, 0, z.toNat, 0) :: S, C))
    | _ => none
  | .ldc_w x => match hb_kl kpo x with
    | some (0, z) => hb_nul (Nat.beq len 3) (pc + 3, (V, L, (0, 0, 0, z) :: S, C))
    | _ => none
  | .ldc2_w x => match hb_kl kpo x with
    | some (1, z) => hb_nul (Nat.beq len 3) (pc + 3, (V, L, (1, 0, 0, z) :: S, C))
    | _ => none
  | .invokestatic x => match hb_xl xpo x, S with
    | some k, b :: a :: r => cond (Nat.beq len 3 && hb_tt 0 0 a b && Nat.ble 1 RF && Nat.ble (hb_cats r + 13) RL && Nat.ble k 1)
        (some ((hb_tk V .lt a b).map (fun V' => (pc + 3, (V', L, cond (Nat.beq k 0) b a :: r, C))) ++ (hb_tk V .ge a b).map (fun V' => (pc + 3, (V', L, cond (Nat.beq k 0) a b :: r, C))))) none
    | _, _ => none
  | _ => none
section HBS5
variable {p : Program} {l : Launch} {e : Env} {R : Room} {s : State} {m : MethodId} {args : Array Value} {below : List Frame} {meth : Method} {c : Code} {Q : State → Prop} {cc : ByteArray} {pc nL : Nat} {X : hbX} {V : hbV} {L : List (Nat × hbA)} {S : List hbA} {C : List (Nat × hbA × hbA)} {own : String} {kpo : List (Nat × Nat × Int)} {xpo : List (Nat × Nat)}
set_option maxHeartbeats 2000000 in
theorem hb_step5_ok {i : Instr} {len : Nat} {lst : List (Nat × hbS)} (hx : p.tables.exec = Jvm.exec) (hb : c.code = cc) (hml : c.maxLocals = nL) (hown : s.vm.findClass own = some m.cls) (hdg : decode cc pc = .ok (i, len)) (hXn : X.2.2.2.2.2.1 = nL) (hkp : hb_kp own X.2.2.1.2 kpo args s) (hxp : hb_xp own xpo args s)
    (h : hb_step5 R.frames R.locals kpo xpo i len pc V L S C = some lst) (hJ : ∀ z ∈ lst, hb_J X (hb_w p l e R s m args below meth c Q) m z.2 z.1) : hb_J X (hb_w p l e R s m args below meth c Q) m (V, L, S, C) pc := by
  unfold hb_step5 at h
  split at h
  next x =>
    cases hq : hb_kl kpo x with
    | none => rw [hq] at h; cases h
    | some q =>
      obtain ⟨k, z⟩ := q
      have hk := hkp _ (hb_kl_mem hq)
      rw [hq] at h
      split at h
      next z' e' =>
        cases e'
        obtain ⟨hc, hm⟩ := hb_nul_inv h
        have e1 := hb_lenE hc; subst e1
        obtain ⟨v, h1, h2⟩ := hk.1 rfl
        exact hb_i_push (fun _ _ _ _ h0 => hb_kI h1 h0) (fun ls rest H locs kk => lv_ldc hx hb hown h2 hdg kk) (hJ _ hm)
      next z' e' =>
        cases e'
        obtain ⟨hc, hm⟩ := hb_nul_inv h
        have e1 := hb_lenE hc; subst e1
        obtain ⟨tx, h1⟩ := hk.2.2 rfl
        intro ρ wd H locs ls st hs hh
        exact va_ldcS hx hb hown h1 hdg (hJ _ hm ρ wd H locs ls _ (hs.push rfl) hh)
      next => cases h
  next x =>
    cases hq : hb_kl kpo x with
    | none => rw [hq] at h; cases h
    | some q =>
      obtain ⟨k, z⟩ := q
      have hk := hkp _ (hb_kl_mem hq)
      rw [hq] at h
      split at h
      next z' e' =>
        cases e'
        obtain ⟨hc, hm⟩ := hb_nul_inv h
        have e1 := hb_lenE hc; subst e1
        obtain ⟨v, h1, h2⟩ := hk.1 rfl
        exact hb_i_push (fun _ _ _ _ h0 => hb_kI h1 h0) (fun ls rest H locs kk => lv_ldcw hx hb hown h2 hdg kk) (hJ _ hm)
      next => cases h
  next x =>
    cases hq : hb_kl kpo x with
    | none => rw [hq] at h; cases h
    | some q =>
      obtain ⟨k, z⟩ := q
      have hk := hkp _ (hb_kl_mem hq)
      rw [hq] at h
      split at h
      next z' e' =>
        cases e'
        obtain ⟨hc, hm⟩ := hb_nul_inv h
        have e1 := hb_lenE hc; subst e1
        obtain ⟨v, h1, h2⟩ := hk.2.1 rfl
        exact hb_i_push (fun _ _ _ _ h0 => hb_kL h1 h0) (fun ls rest H locs kk => lv_ldc2 hx hb hown h2 hdg kk) (hJ _ hm)
      next => cases h
  next x =>
    cases S with
    | nil => cases hq : hb_xl xpo x <;> rw [hq] at h <;> cases h
    | cons b S1 =>
      cases S1 with
      | nil => cases hq : hb_xl xpo x <;> rw [hq] at h <;> cases h
      | cons a r =>
        cases hq : hb_xl xpo x with
        | none => rw [hq] at h; cases h
        | some k =>
          rw [hq] at h
          dsimp only at h
          generalize hce : (Nat.beq len 3 && hb_tt 0 0 a b && Nat.ble 1 R.frames && Nat.ble (hb_cats r + 13) R.locals && Nat.ble k 1) = ce at h
          cases ce with
          | false => cases h
          | true =>
            rw [cond_true] at h
            cases h
            obtain ⟨hce, c5⟩ := hb_and2 hce
            obtain ⟨hce, c4⟩ := hb_and2 hce
            obtain ⟨hce, c3⟩ := hb_and2 hce
            obtain ⟨c1, c2⟩ := hb_and2 hce
            have e1 := hb_lenE c1; subst e1
            obtain ⟨n1, n2, n3⟩ := hxp _ (hb_xl_mem hq)
            intro ρ wd H locs ls st hs hh
            obtain ⟨v, st1, rfl, g1, hs1⟩ := hs.pop
            obtain ⟨u, st2, rfl, g2, hs2⟩ := hs1.pop
            have g1' := g1
            have g2' := g2
            obtain ⟨kb, y, rfl, ey⟩ := g1.int (hb_tt_t c2).2
            obtain ⟨ka, w, rfl, ew⟩ := g2.int (hb_tt_t c2).1
            have hsz : c.maxLocals = ls.size := by rw [hml, ← hXn]; exact hs2.2.2.1.1.symm
            have hlo : (st2.map fun v => v.category).sum + 13 ≤ R.locals := by
              rw [hb_stk.cats hs2.2.2.2.1]
              exact Nat.le_of_ble_eq_true c4
            have hlt : w < y → w.toInt < y.toInt := fun q => Int32.lt_iff_toInt_lt.mp q
            have hge : ¬ w < y → y.toInt ≤ w.toInt := fun q => by
              have : ¬ w.toInt < y.toInt := fun z => q (Int32.lt_iff_toInt_lt.mpr z)
              omega
            have key : ∀ (z : Int32) (za : hbA) (cnd : hbC), hb_holds cnd w.toInt y.toInt → hb_v V.1.length X.2.2.1.1 X.2.2.1.2 ρ za (.int z) → (∀ V', V' ∈ hb_tk V cnd a b → hb_J X (hb_w p l e R s m args below meth c Q) m (V', L, za :: r, C) (pc + 3)) → W p l e R s m args below meth c H locs 0 0 Q (F0 m (pc + 3) ls (.int z :: st2)) := by
              intro z za cnd hcn hza hJ'
              obtain ⟨V', b1, b2, b3⟩ := hb_tk_ok hs2.1 ka kb ew ey hcn
              exact hJ' V' b1 ρ wd H locs ls _ ((hs2.push hza).num (Nat.le_of_eq b3.symm) hb_ag.rf b2) hh
            rcases (show k = 0 ∨ k = 1 by have := Nat.le_of_ble_eq_true c5; omega) with rfl | rfl
            · obtain ⟨l1, l2, l3⟩ := n2 rfl
              refine va_mmax hx hb hsz hown l1 l2 n1 l3 (Nat.le_of_ble_eq_true c3) hlo (Nat.zero_le _) (Nat.zero_le _) hdg ?_
              by_cases hc : w < y
              · rw [if_pos hc]
                exact key y b .lt (hlt hc) g1' (fun V' hV' => hJ _ (List.mem_append.mpr (Or.inl (List.mem_map.mpr ⟨V', hV', rfl⟩))))
              · rw [if_neg hc]
                exact key w a .ge (hge hc) g2' (fun V' hV' => hJ _ (List.mem_append.mpr (Or.inr (List.mem_map.mpr ⟨V', hV', rfl⟩))))
            · obtain ⟨l1, l2, l3⟩ := n3 rfl
              refine va_mmin hx hb hsz hown l1 l2 n1 l3 (Nat.le_of_ble_eq_true c3) hlo (Nat.zero_le _) (Nat.zero_le _) hdg ?_
              by_cases hc : w < y
              · have hc2 : ¬ y < w := fun q => by
                  have q1 := Int32.lt_iff_toInt_lt.mp q
                  have q2 := hlt hc
                  omega
                rw [if_neg hc2]
                exact key w a .lt (hlt hc) g2' (fun V' hV' => hJ _ (List.mem_append.mpr (Or.inl (List.mem_map.mpr ⟨V', hV', rfl⟩))))
              · have hz : (if y < w then y else w) = y := by
                  by_cases q : y < w
                  · rw [if_pos q]
                  · rw [if_neg q]
                    have q2 : ¬ y.toInt < w.toInt := fun z => q (Int32.lt_iff_toInt_lt.mpr z)
                    have q1 := hge hc
                    exact Int32.toInt_inj.mp (by omega)
                rw [hz]
                exact key y b .ge (hge hc) g1' (fun V' hV' => hJ _ (List.mem_append.mpr (Or.inr (List.mem_map.mpr ⟨V', hV', rfl⟩))))
  next => cases h
end HBS5
