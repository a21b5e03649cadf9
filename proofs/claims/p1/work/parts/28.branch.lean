/-! hb_: branches -/
abbrev hbC : Type := Jvm.ClassFile.Cond
def hb_neg : hbC → hbC
  | .eq => .ne
  | .ne => .eq
  | .lt => .ge
  | .ge => .lt
  | .gt => .le
  | .le => .gt
def hb_holds (cnd : hbC) (x y : Int) : Prop := match cnd with
  | .eq => x = y
  | .ne => x < y ∨ y < x
  | .lt => x < y
  | .ge => y ≤ x
  | .gt => y < x
  | .le => x ≤ y
def hb_ol {α : Type} (x : Option α) : List α := match x with
  | none => []
  | some a => [a]
theorem hb_ol_mem {α : Type} {x : Option α} {a : α} (h : x = some a) : a ∈ hb_ol x := by rw [h]; exact List.mem_singleton.mpr rfl
def hb_tk0 (V : hbV) (cnd : hbC) (a b : hbA) : List hbV := match cnd with
  | .lt => hb_ol (hb_refLe V a b (-1))
  | .ge => hb_ol (hb_refLe V b a 0)
  | .gt => hb_ol (hb_refLe V b a (-1))
  | .le => hb_ol (hb_refLe V a b 0)
  | .eq => match hb_refLe V a b 0 with
    | none => []
    | some V1 => hb_ol (hb_refLe V1 b a 0)
  | .ne => hb_ol (hb_refLe V a b (-1)) ++ hb_ol (hb_refLe V b a (-1))
theorem hb_tk0_ok {ρ : Nat → Int} {V : hbV} {cnd : hbC} {a b : hbA} {x y : Int} (hV : hb_V ρ V) (ha : a.2.2.1 < V.1.length) (hb : b.2.2.1 < V.1.length) (hx : x = a.2.1 * ρ a.2.2.1 + a.2.2.2) (hy : y = b.2.1 * ρ b.2.2.1 + b.2.2.2) (h : hb_holds cnd x y) : ∃ V', V' ∈ hb_tk0 V cnd a b ∧ hb_V ρ V' ∧ V'.1.length = V.1.length := by
  cases cnd with
  | lt =>
    have h : x < y := h
    obtain ⟨V', h1, h2, h3⟩ := hb_refLe_ok (d := -1) hV ha hb hx hy (by omega)
    exact ⟨V', hb_ol_mem h1, h2, h3⟩
  | ge =>
    have h : y ≤ x := h
    obtain ⟨V', h1, h2, h3⟩ := hb_refLe_ok (d := 0) hV hb ha hy hx (by omega)
    exact ⟨V', hb_ol_mem h1, h2, h3⟩
  | gt =>
    have h : y < x := h
    obtain ⟨V', h1, h2, h3⟩ := hb_refLe_ok (d := -1) hV hb ha hy hx (by omega)
    exact ⟨V', hb_ol_mem h1, h2, h3⟩
  | le =>
    have h : x ≤ y := h
    obtain ⟨V', h1, h2, h3⟩ := hb_refLe_ok (d := 0) hV ha hb hx hy (by omega)
    exact ⟨V', hb_ol_mem h1, h2, h3⟩
  | eq =>
    have h : x = y := h
    obtain ⟨V1, h1, h2, h3⟩ := hb_refLe_ok (d := 0) hV ha hb hx hy (by omega)
    obtain ⟨V', g1, g2, g3⟩ := hb_refLe_ok (d := 0) h2 (by omega) (by omega) hy hx (by omega)
    refine ⟨V', ?_, g2, by omega⟩
    show V' ∈ (match hb_refLe V a b 0 with
      | none => []
      | some V1 => hb_ol (hb_refLe V1 b a 0))
    rw [h1]
    exact hb_ol_mem g1
  | ne =>
    rcases (show x < y ∨ y < x from h) with h | h
    · obtain ⟨V', h1, h2, h3⟩ := hb_refLe_ok (d := -1) hV ha hb hx hy (by omega)
      exact ⟨V', List.mem_append.mpr (Or.inl (hb_ol_mem h1)), h2, h3⟩
    · obtain ⟨V', h1, h2, h3⟩ := hb_refLe_ok (d := -1) hV hb ha hy hx (by omega)
      exact ⟨V', List.mem_append.mpr (Or.inr (hb_ol_mem h1)), h2, h3⟩
/-- bounds of one number -/
def hb_bt (E : hbE) (k : Nat) (lo hi : Int) : Option hbE := hb_ob (hb_up E k hi) (fun E1 => hb_lw E1 k lo)
theorem hb_bt_ok {ρ : Nat → Int} {E : hbE} {k : Nat} {lo hi : Int} (he : hb_env ρ E) (hk : k < E.length) (h1 : lo ≤ ρ k) (h2 : ρ k ≤ hi) : ∃ E', hb_bt E k lo hi = some E' ∧ hb_env ρ E' ∧ E'.length = E.length := by
  obtain ⟨E1, a1, a2, a3⟩ := hb_up_ok he hk h2
  obtain ⟨E2, b1, b2, b3⟩ := hb_lw_ok a2 (by omega) h1
  refine ⟨E2, ?_, b2, by omega⟩
  unfold hb_bt
  rw [a1]
  exact b1
/-- what a difference tells of its three numbers -/
def hb_clo3 (E : hbE) (t : Nat × Nat × Nat) : Option hbE := match E[t.1]?, E[t.2.1]?, E[t.2.2]? with
  | some (dl, dh), some (al, ah), some (bl, bh) => hb_ob (hb_bt E t.1 (al - bh) (ah - bl)) (fun E1 => hb_ob (hb_bt E1 t.2.1 (dl + bl) (dh + bh)) (fun E2 => hb_bt E2 t.2.2 (al - dh) (ah - dl)))
  | _, _, _ => some E
def hb_cloL : List (Nat × Nat × Nat) → hbE → Option hbE
  | [], E => some E
  | t :: r, E => hb_ob (hb_clo3 E t) (hb_cloL r)
def hb_clo (V : hbV) : Option hbV := match V.2.2 with
  | [] => some V
  | _ => hb_ob (hb_cloL V.2.2 V.1) (fun E => some (E, V.2))
theorem hb_clo3_ok {ρ : Nat → Int} {E : hbE} {t : Nat × Nat × Nat} (he : hb_env ρ E) (hd : ρ t.1 = ρ t.2.1 - ρ t.2.2) : ∃ E', hb_clo3 E t = some E' ∧ hb_env ρ E' ∧ E'.length = E.length := by
  unfold hb_clo3
  cases h1 : E[t.1]? with
  | none => exact ⟨E, rfl, he, rfl⟩
  | some q1 =>
    obtain ⟨dl, dh⟩ := q1
    cases h2 : E[t.2.1]? with
    | none => exact ⟨E, rfl, he, rfl⟩
    | some q2 =>
      obtain ⟨al, ah⟩ := q2
      cases h3 : E[t.2.2]? with
      | none => exact ⟨E, rfl, he, rfl⟩
      | some q3 =>
        obtain ⟨bl, bh⟩ := q3
        have l1 := (List.getElem?_eq_some_iff.mp h1).1
        have l2 := (List.getElem?_eq_some_iff.mp h2).1
        have l3 := (List.getElem?_eq_some_iff.mp h3).1
        have g1 := he _ _ _ h1
        have g2 := he _ _ _ h2
        have g3 := he _ _ _ h3
        dsimp only
        obtain ⟨E1, a1, a2, a3⟩ := hb_bt_ok (lo := al - bh) (hi := ah - bl) he l1 (by omega) (by omega)
        obtain ⟨E2, b1, b2, b3⟩ := hb_bt_ok (k := t.2.1) (lo := dl + bl) (hi := dh + bh) a2 (by omega) (by omega) (by omega)
        obtain ⟨E3, c1, c2, c3⟩ := hb_bt_ok (k := t.2.2) (lo := al - dh) (hi := ah - dl) b2 (by omega) (by omega) (by omega)
        refine ⟨E3, ?_, c2, by omega⟩
        rw [a1]
        show hb_ob (hb_bt E1 t.2.1 (dl + bl) (dh + bh)) (fun E2 => hb_bt E2 t.2.2 (al - dh) (ah - dl)) = _
        rw [b1]
        exact c1
theorem hb_cloL_ok {ρ : Nat → Int} {n : Nat} : ∀ {D : List (Nat × Nat × Nat)} {E : hbE}, hb_env ρ E → hb_defs n ρ D → ∃ E', hb_cloL D E = some E' ∧ hb_env ρ E' ∧ E'.length = E.length
  | [], E, he, _ => ⟨E, rfl, he, rfl⟩
  | t :: r, E, he, hD => by
    obtain ⟨E1, a1, a2, a3⟩ := hb_clo3_ok (t := t) he (hD t List.mem_cons_self).2.2.2
    obtain ⟨E2, b1, b2, b3⟩ := hb_cloL_ok (D := r) (E := E1) a2 (fun d hd => hD d (List.mem_cons_of_mem _ hd))
    refine ⟨E2, ?_, b2, by omega⟩
    unfold hb_cloL
    rw [a1]
    exact b1
theorem hb_clo_ok {ρ : Nat → Int} {V : hbV} (hV : hb_V ρ V) : ∃ V', hb_clo V = some V' ∧ hb_V ρ V' ∧ V'.1.length = V.1.length := by
  obtain ⟨E, R, D⟩ := V
  cases D with
  | nil => exact ⟨_, rfl, hV, rfl⟩
  | cons t r =>
    obtain ⟨E', a1, a2, a3⟩ := hb_cloL_ok (D := t :: r) hV.1 hV.2.2
    refine ⟨(E', R, t :: r), ?_, ⟨a2, ?_, ?_⟩, a3⟩
    · show hb_ob (hb_cloL (t :: r) E) (fun E => some (E, R, t :: r)) = _
      rw [a1]
      rfl
    · show hb_rels E'.length ρ R
      rw [a3]; exact hV.2.1
    · show hb_defs E'.length ρ (t :: r)
      rw [a3]; exact hV.2.2
def hb_tk (V : hbV) (cnd : hbC) (a b : hbA) : List hbV := (hb_tk0 V cnd a b).filterMap hb_clo
theorem hb_tk_ok {ρ : Nat → Int} {V : hbV} {cnd : hbC} {a b : hbA} {x y : Int} (hV : hb_V ρ V) (ha : a.2.2.1 < V.1.length) (hb : b.2.2.1 < V.1.length) (hx : x = a.2.1 * ρ a.2.2.1 + a.2.2.2) (hy : y = b.2.1 * ρ b.2.2.1 + b.2.2.2) (h : hb_holds cnd x y) : ∃ V', V' ∈ hb_tk V cnd a b ∧ hb_V ρ V' ∧ V'.1.length = V.1.length := by
  obtain ⟨V1, a1, a2, a3⟩ := hb_tk0_ok hV ha hb hx hy h
  obtain ⟨V2, b1, b2, b3⟩ := hb_clo_ok a2
  exact ⟨V2, List.mem_filterMap.mpr ⟨V1, a1, b1⟩, b2, by omega⟩
def hb_tg (pc : Nat) (off : Int) : Option Nat := match Int.ofNat pc + off with
  | .ofNat t => some t
  | .negSucc _ => none
theorem hb_tg_ok {pc t : Nat} {off : Int} (h : hb_tg pc off = some t) : (pc : Int) + off = (t : Int) := by
  unfold hb_tg at h
  cases hq : Int.ofNat pc + off with
  | ofNat u =>
    rw [hq] at h
    cases h
    rfl
  | negSucc u => rw [hq] at h; cases h
/-- both ways of a comparison of a with b -/
def hb_fork (tgt : Option Nat) (nx : Nat) (cnd : hbC) (V : hbV) (a b : hbA) (L : List (Nat × hbA)) (r : List hbA) (C : List (Nat × hbA × hbA)) : hbR := match tgt with
  | none => none
  | some t => some ((hb_tk V cnd a b).map (fun V' => (t, (V', L, r, C))) ++ (hb_tk V (hb_neg cnd) a b).map (fun V' => (nx, (V', L, r, C))))
def hb_tbl (pc : Nat) (lo : Int) (V : hbV) (a : hbA) (L : List (Nat × hbA)) (r : List hbA) (C : List (Nat × hbA × hbA)) : List Int → hbR
  | [] => some []
  | o :: os => match hb_tg pc o, hb_tbl pc (lo + 1) V a L r C os with
    | some t, some q => some ((hb_tk V .eq a (0, 0, 0, lo)).map (fun V' => (t, (V', L, r, C))) ++ q)
    | _, _ => none
def hb_step2 (ins : Nat → Option (Instr × Nat)) (i : Instr) (len pc : Nat) (V : hbV) (L : List (Nat × hbA)) (S : List hbA) (C : List (Nat × hbA × hbA)) : hbR := match i with
  | .goto off => match hb_tg pc off with
    | some t => hb_nul (Nat.beq len 3) (t, (V, L, S, C))
    | none => none
  | .ifCond cnd off => match S with
    | a :: r => cond (Nat.beq len 3 && Nat.beq a.1 0) (hb_fork (hb_tg pc off) (pc + 3) cnd V a (0, 0, 0, 0) L r C) none
    | _ => none
  | .if_icmp cnd off => match S with
    | b :: a :: r => cond (Nat.beq len 3 && hb_tt 0 0 a b) (hb_fork (hb_tg pc off) (pc + 3) cnd V a b L r C) none
    | _ => none
  | .lcmp => match S, ins (pc + 1) with
    | b :: a :: r, some (.ifCond cnd off, 3) => cond (Nat.beq len 1 && hb_tt 1 1 a b) (hb_fork (hb_tg (pc + 1) off) (pc + 4) cnd V a b L r C) none
    | _, _ => none
  | .ifnull off => match S, hb_tg pc off with
    | a :: r, some t => cond (Nat.beq len 3 && Nat.ble 2 a.1) (some [(cond (Nat.beq a.1 3) t (pc + 3), (V, L, r, C))]) none
    | _, _ => none
  | .ifnonnull off => match S, hb_tg pc off with
    | a :: r, some t => cond (Nat.beq len 3 && Nat.ble 2 a.1) (some [(cond (Nat.beq a.1 3) (pc + 3) t, (V, L, r, C))]) none
    | _, _ => none
  | .tableswitch d lo hi offs => match S, hb_tg pc d with
    | a :: r, some t => match hb_tbl pc lo V a L r C offs.toList with
      | some q => cond (Nat.beq a.1 0 && hb_le (hi - lo + 1) (.ofNat offs.toList.length)) (some (((hb_tk V .lt a (0, 0, 0, lo)).map (fun V' => (t, (V', L, r, C))) ++ (hb_tk V .gt a (0, 0, 0, hi)).map (fun V' => (t, (V', L, r, C)))) ++ q)) none
      | none => none
    | _, _ => none
  | _ => none
section HBB
variable {p : Program} {l : Launch} {e : Env} {R : Room} {s : State} {m : MethodId} {args : Array Value} {below : List Frame} {meth : Method} {c : Code} {Q : State → Prop} {cc : ByteArray} {pc : Nat} {X : hbX} {V : hbV} {L : List (Nat × hbA)} {S : List hbA} {C : List (Nat × hbA × hbA)} {H : Heap} {locs : List Loc} {ls : Array Slot} {rest : List Value}
theorem hb_eq32 (x y : Int32) : x = y ↔ x.toInt = y.toInt := Int32.toInt_inj.symm
theorem hb_row_icmp {cnd : hbC} {x y : Int32} {off : Int} {tgt : Nat} (hx : p.tables.exec = Jvm.exec) (hb : c.code = cc) (hdg : decode cc pc = .ok (.if_icmp cnd off, 3)) (ht : (pc : Int) + off = (tgt : Int))
    (kt : hb_holds cnd x.toInt y.toInt → W p l e R s m args below meth c H locs 0 0 Q (F0 m tgt ls rest)) (kf : hb_holds (hb_neg cnd) x.toInt y.toInt → W p l e R s m args below meth c H locs 0 0 Q (F0 m (pc + 3) ls rest)) : W p l e R s m args below meth c H locs 0 0 Q (F0 m pc ls (.int y :: .int x :: rest)) := by
  have e1 := hb_eq32 x y
  have e2 := @Int32.lt_iff_toInt_lt x y
  have e3 := @Int32.le_iff_toInt_le x y
  have e4 := @Int32.lt_iff_toInt_lt y x
  have e5 := @Int32.le_iff_toInt_le y x
  cases cnd with
  | eq => exact lv_icmp_eq hx hb hdg ht (fun h => kt (e1.mp h)) (fun h => kf (by have : ¬ x.toInt = y.toInt := fun q => h (e1.mpr q); show x.toInt < y.toInt ∨ y.toInt < x.toInt; omega))
  | ne => exact lv_icmp_ne hx hb hdg ht (fun h => kt (by have : ¬ x.toInt = y.toInt := fun q => h (e1.mpr q); show x.toInt < y.toInt ∨ y.toInt < x.toInt; omega)) (fun h => kf (e1.mp h))
  | lt => exact lv_icmp_lt hx hb hdg ht (fun h => kt (e2.mp h)) (fun h => kf (by have : ¬ x.toInt < y.toInt := fun q => h (e2.mpr q); show y.toInt ≤ x.toInt; omega))
  | ge => exact lv_icmp_ge hx hb hdg ht (fun h => kt (e5.mp h)) (fun h => kf (by have : ¬ y.toInt ≤ x.toInt := fun q => h (e5.mpr q); show x.toInt < y.toInt; omega))
  | gt => exact lv_icmp_gt hx hb hdg ht (fun h => kt (e4.mp h)) (fun h => kf (by have : ¬ y.toInt < x.toInt := fun q => h (e4.mpr q); show x.toInt ≤ y.toInt; omega))
  | le => exact lv_icmp_le hx hb hdg ht (fun h => kt (e3.mp h)) (fun h => kf (by have : ¬ x.toInt ≤ y.toInt := fun q => h (e3.mpr q); show y.toInt < x.toInt; omega))
theorem hb_row_if {cnd : hbC} {x : Int32} {off : Int} {tgt : Nat} (hx : p.tables.exec = Jvm.exec) (hb : c.code = cc) (hdg : decode cc pc = .ok (.ifCond cnd off, 3)) (ht : (pc : Int) + off = (tgt : Int))
    (kt : hb_holds cnd x.toInt 0 → W p l e R s m args below meth c H locs 0 0 Q (F0 m tgt ls rest)) (kf : hb_holds (hb_neg cnd) x.toInt 0 → W p l e R s m args below meth c H locs 0 0 Q (F0 m (pc + 3) ls rest)) : W p l e R s m args below meth c H locs 0 0 Q (F0 m pc ls (.int x :: rest)) := by
  have z : (0 : Int32).toInt = 0 := by decide
  have e1 := hb_eq32 x 0
  have e2 := @Int32.lt_iff_toInt_lt x 0
  have e3 := @Int32.le_iff_toInt_le x 0
  have e4 := @Int32.lt_iff_toInt_lt 0 x
  have e5 := @Int32.le_iff_toInt_le 0 x
  rw [z] at e1 e2 e3 e4 e5
  cases cnd with
  | eq => exact lv_if_eq hx hb hdg ht (fun h => kt (e1.mp h)) (fun h => kf (by have : ¬ x.toInt = 0 := fun q => h (e1.mpr q); show x.toInt < 0 ∨ 0 < x.toInt; omega))
  | ne => exact lv_if_ne hx hb hdg ht (fun h => kt (by have : ¬ x.toInt = 0 := fun q => h (e1.mpr q); show x.toInt < 0 ∨ 0 < x.toInt; omega)) (fun h => kf (e1.mp h))
  | lt => exact lv_if_lt hx hb hdg ht (fun h => kt (e2.mp h)) (fun h => kf (by have : ¬ x.toInt < 0 := fun q => h (e2.mpr q); show 0 ≤ x.toInt; omega))
  | ge => exact lv_if_ge hx hb hdg ht (fun h => kt (e5.mp h)) (fun h => kf (by have : ¬ 0 ≤ x.toInt := fun q => h (e5.mpr q); show x.toInt < 0; omega))
  | gt => exact lv_if_gt hx hb hdg ht (fun h => kt (e4.mp h)) (fun h => kf (by have : ¬ 0 < x.toInt := fun q => h (e4.mpr q); show x.toInt ≤ 0; omega))
  | le => exact lv_if_le hx hb hdg ht (fun h => kt (e3.mp h)) (fun h => kf (by have : ¬ x.toInt ≤ 0 := fun q => h (e3.mpr q); show 0 < x.toInt; omega))
theorem hb_lgc (x y : Int64) (cnd : hbC) : hb_holds cnd (lg_cmp x y).toInt 0 → hb_holds cnd x.toInt y.toInt := by
  have m1 : ((-1 : Int32)).toInt = -1 := by decide
  have z : (0 : Int32).toInt = 0 := by decide
  have o : (1 : Int32).toInt = 1 := by decide
  unfold lg_cmp
  by_cases h1 : x > y
  · have h1' : y.toInt < x.toInt := Int64.lt_iff_toInt_lt.mp h1
    rw [if_pos h1, o]
    cases cnd <;> intro h <;> simp only [hb_holds] at h ⊢ <;> omega
  · have h1' : ¬ y.toInt < x.toInt := fun q => h1 (Int64.lt_iff_toInt_lt.mpr q)
    rw [if_neg h1]
    by_cases h2 : x = y
    · subst h2
      rw [if_pos rfl, z]
      cases cnd <;> intro h <;> simp only [hb_holds] at h ⊢ <;> omega
    · have h2' : ¬ x.toInt = y.toInt := fun q => h2 (Int64.toInt_inj.mp q)
      rw [if_neg h2, m1]
      cases cnd <;> intro h <;> simp only [hb_holds] at h ⊢ <;> omega
/-- the two ways, each with what the comparison tells -/
theorem hb_fork_ok {tgt : Option Nat} {nx : Nat} {cnd : hbC} {a b : hbA} {lst : List (Nat × hbS)} (hf : hb_fork tgt nx cnd V a b L S C = some lst) (hJ : ∀ q ∈ lst, hb_J X (hb_w p l e R s m args below meth c Q) m q.2 q.1)
    {ρ : Nat → Int} {wd : va_W} {st : List Value} {x y : Int} (hs : hb_sat X (V, L, S, C) ρ wd ls st) (hh : hb_hp X wd H locs) (ha : a.2.2.1 < V.1.length) (hb : b.2.2.1 < V.1.length) (hx : x = a.2.1 * ρ a.2.2.1 + a.2.2.2) (hy : y = b.2.1 * ρ b.2.2.1 + b.2.2.2) :
    ∃ t, tgt = some t ∧ (hb_holds cnd x y → W p l e R s m args below meth c H locs 0 0 Q (F0 m t ls st)) ∧ (hb_holds (hb_neg cnd) x y → W p l e R s m args below meth c H locs 0 0 Q (F0 m nx ls st)) := by
  cases tgt with
  | none => cases hf
  | some t =>
    cases hf
    refine ⟨t, rfl, fun h => ?_, fun h => ?_⟩
    · obtain ⟨V', h1, h2, h3⟩ := hb_tk_ok hs.1 ha hb hx hy h
      exact hJ (t, (V', L, S, C)) (List.mem_append.mpr (Or.inl (List.mem_map.mpr ⟨V', h1, rfl⟩))) ρ wd H locs ls st (hs.num (Nat.le_of_eq h3.symm) hb_ag.rf h2) hh
    · obtain ⟨V', h1, h2, h3⟩ := hb_tk_ok hs.1 ha hb hx hy h
      exact hJ (nx, (V', L, S, C)) (List.mem_append.mpr (Or.inr (List.mem_map.mpr ⟨V', h1, rfl⟩))) ρ wd H locs ls st (hs.num (Nat.le_of_eq h3.symm) hb_ag.rf h2) hh
theorem hb_tbl_ok {a : hbA} {r : List hbA} : ∀ {offs : List Int} {lo : Int} {q : List (Nat × hbS)} {j : Nat} {o : Int}, hb_tbl pc lo V a L r C offs = some q → offs[j]? = some o → ∃ t : Nat, (pc : Int) + o = (t : Int) ∧ ∀ V', V' ∈ hb_tk V .eq a (0, 0, 0, lo + j) → (t, (V', L, r, C)) ∈ q
  | [], _, _, j, o, _, h => by simp at h
  | o' :: os, lo, q, j, o, h, hj => by
    unfold hb_tbl at h
    cases h1 : hb_tg pc o' with
    | none => rw [h1] at h; cases h
    | some t =>
      cases h2 : hb_tbl pc (lo + 1) V a L r C os with
      | none => rw [h1, h2] at h; cases h
      | some q' =>
        rw [h1, h2] at h
        cases h
        cases j with
        | zero =>
          cases hj
          refine ⟨t, hb_tg_ok h1, fun V' hV' => List.mem_append.mpr (Or.inl (List.mem_map.mpr ⟨V', ?_, rfl⟩))⟩
          have e : lo + ((0 : Nat) : Int) = lo := by omega
          rw [e] at hV'
          exact hV'
        | succ j =>
          obtain ⟨t', g1, g2⟩ := hb_tbl_ok (j := j) h2 hj
          refine ⟨t', g1, fun V' hV' => List.mem_append.mpr (Or.inr (g2 V' ?_))⟩
          have e : lo + ((j + 1 : Nat) : Int) = lo + 1 + (j : Int) := by omega
          rw [e] at hV'
          exact hV'
set_option maxHeartbeats 2000000 in
theorem hb_step2_ok {ins : Nat → Option (Instr × Nat)} {i : Instr} {len : Nat} {lst : List (Nat × hbS)} (hx : p.tables.exec = Jvm.exec) (hb : c.code = cc) (hins : ∀ q z, ins q = some z → decode cc q = .ok z) (hdg : decode cc pc = .ok (i, len)) (h : hb_step2 ins i len pc V L S C = some lst) (hJ : ∀ q ∈ lst, hb_J X (hb_w p l e R s m args below meth c Q) m q.2 q.1) : hb_J X (hb_w p l e R s m args below meth c Q) m (V, L, S, C) pc := by
  unfold hb_step2 at h
  split at h
  next off =>
    cases ht : hb_tg pc off with
    | none => rw [ht] at h; cases h
    | some t =>
      rw [ht] at h
      obtain ⟨hc, hm⟩ := hb_nul_inv h
      have e := hb_lenE hc; subst e
      intro ρ wd H locs ls st hs hh
      exact lv_goto hx hb hdg (hb_tg_ok ht) (hJ _ hm ρ wd H locs ls st hs hh)
  next cnd off =>
    cases S with
    | nil => cases h
    | cons a r =>
      dsimp only at h
      cases hc : (Nat.beq len 3 && Nat.beq a.1 0) with
      | false => rw [hc] at h; cases h
      | true =>
        rw [hc, cond_true] at h
        obtain ⟨h1, h2⟩ := hb_and2 hc
        have e := hb_lenE h1; subst e
        intro ρ wd H locs ls st hs hh
        obtain ⟨v, st1, rfl, g1, hs1⟩ := hs.pop
        obtain ⟨ka, x, rfl, ex⟩ := g1.int h2
        obtain ⟨t, e1, kt, kf⟩ := hb_fork_ok h hJ hs1 hh ka hs1.2.1.1 ex (show (0 : Int) = 0 * ρ 0 + 0 by omega)
        exact hb_row_if hx hb hdg (hb_tg_ok e1) kt kf
  next cnd off =>
    cases S with
    | nil => cases h
    | cons b S1 =>
     cases S1 with
     | nil => cases h
     | cons a r =>
      dsimp only at h
      cases hc : (Nat.beq len 3 && hb_tt 0 0 a b) with
      | false => rw [hc] at h; cases h
      | true =>
        rw [hc, cond_true] at h
        obtain ⟨h1, h2⟩ := hb_and2 hc
        have e := hb_lenE h1; subst e
        intro ρ wd H locs ls st hs hh
        obtain ⟨v, st1, rfl, g1, hs1⟩ := hs.pop
        obtain ⟨u, st2, rfl, g2, hs2⟩ := hs1.pop
        obtain ⟨kb, y, rfl, ey⟩ := g1.int (hb_tt_t h2).2
        obtain ⟨ka, x, rfl, ex⟩ := g2.int (hb_tt_t h2).1
        obtain ⟨t, e1, kt, kf⟩ := hb_fork_ok h hJ hs2 hh ka kb ex ey
        exact hb_row_icmp hx hb hdg (hb_tg_ok e1) kt kf
  next =>
    cases S with
    | nil => cases h
    | cons b S1 =>
     cases S1 with
     | nil => cases h
     | cons a r =>
      split at h
      next b' a' r' cnd off heq hin =>
        cases heq
        cases hc : (Nat.beq len 1 && hb_tt 1 1 a b) with
        | false => rw [hc] at h; cases h
        | true =>
          rw [hc, cond_true] at h
          obtain ⟨h1, h2⟩ := hb_and2 hc
          have e := hb_lenE h1; subst e
          intro ρ wd H locs ls st hs hh
          obtain ⟨v, st1, rfl, g1, hs1⟩ := hs.pop
          obtain ⟨u, st2, rfl, g2, hs2⟩ := hs1.pop
          obtain ⟨kb, y, rfl, ey⟩ := g1.long (hb_tt_t h2).2
          obtain ⟨ka, x, rfl, ex⟩ := g2.long (hb_tt_t h2).1
          obtain ⟨t, e1, kt, kf⟩ := hb_fork_ok h hJ hs2 hh ka kb ex ey
          refine W.lcmp hx hb hdg ?_
          exact hb_row_if hx hb (hins _ _ hin) (hb_tg_ok e1) (fun q => kt (hb_lgc x y _ q)) (fun q => kf (hb_lgc x y _ q))
      next => cases h
  next off =>
    cases S with
    | nil => cases h
    | cons a r =>
      cases ht : hb_tg pc off with
      | none => rw [ht] at h; cases h
      | some t =>
        rw [ht] at h
        dsimp only at h
        cases hc : (Nat.beq len 3 && Nat.ble 2 a.1) with
        | false => rw [hc] at h; cases h
        | true =>
          rw [hc, cond_true] at h
          cases h
          obtain ⟨h1, h2⟩ := hb_and2 hc
          have e := hb_lenE h1; subst e
          have hJ := hJ _ (List.mem_singleton.mpr rfl)
          intro ρ wd H locs ls st hs hh
          obtain ⟨v, st1, rfl, g1, hs1⟩ := hs.pop
          obtain ⟨ta, ma, ka, ca⟩ := a
          match ta, h2, g1, hJ with
          | 0, h2, _, _ => cases h2
          | 1, h2, _, _ => cases h2
          | 2, _, g1, hJ => have g1 : v = _ := g1; subst g1; exact lv_ifnull hx hb hdg (hJ ρ wd H locs ls st1 hs1 hh)
          | 3, _, g1, hJ => have g1 : v = .null := g1; subst g1; exact lv_ifnullN hx hb hdg (hb_tg_ok ht) (hJ ρ wd H locs ls st1 hs1 hh)
          | t' + 4, _, g1, hJ => have g1 : v = _ := g1; subst g1; exact lv_ifnull hx hb hdg (hJ ρ wd H locs ls st1 hs1 hh)
  next off =>
    cases S with
    | nil => cases h
    | cons a r =>
      cases ht : hb_tg pc off with
      | none => rw [ht] at h; cases h
      | some t =>
        rw [ht] at h
        dsimp only at h
        cases hc : (Nat.beq len 3 && Nat.ble 2 a.1) with
        | false => rw [hc] at h; cases h
        | true =>
          rw [hc, cond_true] at h
          cases h
          obtain ⟨h1, h2⟩ := hb_and2 hc
          have e := hb_lenE h1; subst e
          have hJ := hJ _ (List.mem_singleton.mpr rfl)
          intro ρ wd H locs ls st hs hh
          obtain ⟨v, st1, rfl, g1, hs1⟩ := hs.pop
          obtain ⟨ta, ma, ka, ca⟩ := a
          match ta, h2, g1, hJ with
          | 0, h2, _, _ => cases h2
          | 1, h2, _, _ => cases h2
          | 2, _, g1, hJ => have g1 : v = _ := g1; subst g1; exact lv_ifnonnull hx hb hdg (hb_tg_ok ht) (hJ ρ wd H locs ls st1 hs1 hh)
          | 3, _, g1, hJ => have g1 : v = .null := g1; subst g1; exact lv_ifnonnullN hx hb hdg (hJ ρ wd H locs ls st1 hs1 hh)
          | t' + 4, _, g1, hJ => have g1 : v = _ := g1; subst g1; exact lv_ifnonnull hx hb hdg (hb_tg_ok ht) (hJ ρ wd H locs ls st1 hs1 hh)
  next d lo hi offs =>
    cases S with
    | nil => cases h
    | cons a r =>
      cases ht : hb_tg pc d with
      | none => rw [ht] at h; cases h
      | some t =>
        rw [ht] at h
        dsimp only at h
        cases hq : hb_tbl pc lo V a L r C offs.toList with
        | none => rw [hq] at h; cases h
        | some q =>
          rw [hq] at h
          dsimp only at h
          cases hc : (Nat.beq a.1 0 && hb_le (hi - lo + 1) (.ofNat offs.toList.length)) with
          | false => rw [hc] at h; cases h
          | true =>
            rw [hc, cond_true] at h
            cases h
            obtain ⟨h1, h2⟩ := hb_and2 hc
            have h3 := hb_le_t h2
            intro ρ wd H locs ls st hs hh
            obtain ⟨v, st1, rfl, g1, hs1⟩ := hs.pop
            obtain ⟨ka, x, rfl, ex⟩ := g1.int h1
            by_cases c1 : x.toInt < lo
            · obtain ⟨V', g1, g2, g3⟩ := hb_tk_ok (cnd := .lt) (b := (0, 0, 0, lo)) (y := lo) hs1.1 ka hs1.2.1.1 ex (show lo = 0 * ρ 0 + lo by omega) c1
              exact lv_tableOut hx hb hdg (Or.inl c1) (hb_tg_ok ht) (hJ (t, (V', L, r, C)) (List.mem_append.mpr (Or.inl (List.mem_append.mpr (Or.inl (List.mem_map.mpr ⟨V', g1, rfl⟩))))) ρ wd H locs ls st1 (hs1.num (Nat.le_of_eq g3.symm) hb_ag.rf g2) hh)
            · by_cases c2 : hi < x.toInt
              · obtain ⟨V', g1, g2, g3⟩ := hb_tk_ok (cnd := .gt) (b := (0, 0, 0, hi)) (y := hi) hs1.1 ka hs1.2.1.1 ex (show hi = 0 * ρ 0 + hi by omega) c2
                exact lv_tableOut hx hb hdg (Or.inr c2) (hb_tg_ok ht) (hJ (t, (V', L, r, C)) (List.mem_append.mpr (Or.inl (List.mem_append.mpr (Or.inr (List.mem_map.mpr ⟨V', g1, rfl⟩))))) ρ wd H locs ls st1 (hs1.num (Nat.le_of_eq g3.symm) hb_ag.rf g2) hh)
              · obtain ⟨j, hj⟩ : ∃ j : Nat, x.toInt - lo = (j : Int) := ⟨(x.toInt - lo).toNat, by omega⟩
                have hjl : j < offs.toList.length := by
                  have : (Int.ofNat offs.toList.length) = (offs.toList.length : Int) := rfl
                  omega
                have ho : offs.toList[j]? = some offs.toList[j] := List.getElem?_eq_getElem hjl
                obtain ⟨t', k1, k2⟩ := hb_tbl_ok hq ho
                have ev : x.toInt = lo + (j : Int) := by omega
                obtain ⟨V', g1, g2, g3⟩ := hb_tk_ok (cnd := .eq) (b := (0, 0, 0, lo + j)) (y := lo + j) hs1.1 ka hs1.2.1.1 ex (show lo + (j : Int) = 0 * ρ 0 + (lo + j) by omega) ev
                refine lv_tableIn hx hb hdg c1 c2 (off := offs.toList[j]) ?_ k1 (hJ (t', (V', L, r, C)) (List.mem_append.mpr (Or.inr (k2 V' g1))) ρ wd H locs ls st1 (hs1.num (Nat.le_of_eq g3.symm) hb_ag.rf g2) hh)
                rw [hj, Int.toNat_natCast, ← Array.getElem?_toList]
                exact ho
  next => cases h
end HBB
