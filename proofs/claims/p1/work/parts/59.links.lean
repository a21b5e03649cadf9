/-! hb_: a class's links, tested word by word by their places in the tables -/
def hb_gdw (w : Cond) : Bool := (w.onTables && w.keeps) || (match w with
  | .arrayClass _ => true
  | _ => false)
theorem hb_gdw_ok {w : Cond} (h1 : hb_gdw w = true) : (w.onTables && w.keeps) = true ∨ ∃ ty, w = .arrayClass ty := by
  unfold hb_gdw at h1
  rw [Bool.or_eq_true] at h1
  rcases h1 with h1 | h1
  · exact Or.inl h1
  · right
    cases w with
    | arrayClass ty => exact ⟨ty, rfl⟩
    | _ => cases h1
def hb_wi (Ts : List Cond) (i : Nat) (w : Cond) : Bool := (match Ts[i]? with
  | some v => decide (v = w)
  | none => false) && hb_gdw w
theorem hb_wi_ok {Ts : List Cond} {i : Nat} {w : Cond} (h : hb_wi Ts i w = true) : w ∈ Ts.filter hb_gdw := by
  obtain ⟨h, hg⟩ := hb_and2 h
  cases hq : Ts[i]? with
  | none => rw [hq] at h; cases h
  | some v =>
    rw [hq] at h
    have e : v = w := of_decide_eq_true h
    rw [← e] at hg ⊢
    exact List.mem_filter.mpr ⟨List.mem_of_getElem? hq, hg⟩
def hb_nthD (l : List Nat) (k : Nat) : Nat := l.getD k 0
/-- a field's link -/
def hb_pc1 (Ts : List Cond) (own : String) (cl : List vw_C) (q : Nat × Nat × Nat × Nat) (ix : List Nat) : Bool := match cl[q.2.1]? with
  | some (_, T, N) => Nat.blt q.2.2.1 N && hb_wi Ts (hb_nthD ix 0) (.fieldLink own q.1 (T q.2.2.1).1 (T q.2.2.1).2.1 (T q.2.2.1).2.2.1) &&
      (!(Nat.beq q.2.2.2 0) || (decide (parseFieldDescriptor (T q.2.2.1).2.2.1 = some .int) && !(T q.2.2.1).2.2.2)) &&
      (!(Nat.beq q.2.2.2 1) || (decide (parseFieldDescriptor (T q.2.2.1).2.2.1 = some .boolean) && !(T q.2.2.1).2.2.2)) &&
      (!(Nat.beq q.2.2.2 2) || (decide (parseFieldDescriptor (T q.2.2.1).2.2.1 = some .long) && !(T q.2.2.1).2.2.2))
  | none => false
def hb_lz {α : Type} (f : α → List Nat → Bool) : List α → List (List Nat) → Bool
  | [], _ => true
  | a :: r, i :: is => f a i && hb_lz f r is
  | _ :: _, [] => false
theorem hb_lz_ok {α : Type} {f : α → List Nat → Bool} : ∀ {l : List α} {is : List (List Nat)}, hb_lz f l is = true → ∀ a ∈ l, ∃ i, f a i = true
  | [], _, _, _, h => by cases h
  | a :: r, [], h, _, _ => by cases h
  | a :: r, i :: is, h, b, hb => by
    obtain ⟨h1, h2⟩ := hb_and2 h
    rcases List.mem_cons.mp hb with rfl | hb
    · exact ⟨i, h1⟩
    · exact hb_lz_ok h2 b hb
theorem hb_imp3 {a b c : Bool} (h : (!a || (b && !c)) = true) (ha : a = true) : b = true ∧ c = false := by
  rw [ha] at h
  obtain ⟨h1, h2⟩ := hb_and2 h
  refine ⟨h1, ?_⟩
  cases c
  · rfl
  · cases h2
theorem hb_pool_of {Ts : List Cond} {own : String} {cl : List vw_C} {po : List (Nat × Nat × Nat × Nat)} {is : List (List Nat)} {args : Array Value} {s : State} (h : hb_lz (hb_pc1 Ts own cl) po is = true) (hts : ∀ w ∈ Ts.filter hb_gdw, w.before args s = true) : hb_pool own cl po args s := by
  intro q hq
  obtain ⟨i, hi⟩ := hb_lz_ok h q hq
  unfold hb_pc1 at hi
  cases hc : cl[q.2.1]? with
  | none => rw [hc] at hi; cases hi
  | some z =>
    obtain ⟨C, T, N⟩ := z
    rw [hc] at hi
    dsimp only at hi
    obtain ⟨hi, h5⟩ := hb_and2 hi
    obtain ⟨hi, h4⟩ := hb_and2 hi
    obtain ⟨hi, h3⟩ := hb_and2 hi
    obtain ⟨h1, h2⟩ := hb_and2 hi
    refine ⟨C, T, N, rfl, hb_blt h1, Or.inl (hts _ (hb_wi_ok h2)), fun e => ?_, fun e => ?_, fun e => ?_⟩
    · obtain ⟨a, b⟩ := hb_imp3 h3 (by rw [e]; rfl)
      exact ⟨of_decide_eq_true a, b⟩
    · obtain ⟨a, b⟩ := hb_imp3 h4 (by rw [e]; rfl)
      exact ⟨of_decide_eq_true a, b⟩
    · obtain ⟨a, b⟩ := hb_imp3 h5 (by rw [e]; rfl)
      exact ⟨of_decide_eq_true a, b⟩
/-- a method's link: initialized, the link, instance or static, selects; hosts of nest mates -/
def hb_mc1 (Ts NW : List Cond) (own : String) (cl : List vw_C) (MT : List hbY) (host : String) (q : Nat × Nat × Nat × Nat × Nat) (ix : List Nat) : Bool := match MT[q.2.1]? with
  | some y => hb_wi Ts (hb_nthD ix 0) (.initialized y.1.cls) && decide (y.1.cls ≠ "java/lang/invoke/MethodHandle" ∧ y.1.cls ≠ "java/lang/invoke/VarHandle") && (match parseMethodDescriptor y.1.desc with
      | some sig => Nat.beq q.2.2.2.1 sig.parameters.length
      | none => true) && Nat.ble q.2.2.1 4 &&
      cond (Nat.beq q.2.2.1 0 || Nat.beq q.2.2.1 2 || Nat.beq q.2.2.1 4) (hb_wi Ts (hb_nthD ix 1) (.methodLink own q.1 y.1)) (match NW[hb_nthD ix 1]? with
        | some v => decide (v = .methodLinkNest own q.1 y.1 host)
        | none => false) &&
      cond (Nat.beq q.2.2.1 4) (hb_wi Ts (hb_nthD ix 2) (.instanceMethod y.1) && hb_wi Ts (hb_nthD ix 3) (.selects y.1.cls y.1 y.1) && decide (y.1.cls = "java/lang/String")) (cond (Nat.ble q.2.2.1 1) (hb_wi Ts (hb_nthD ix 2) (.instanceMethod y.1) && hb_wi Ts (hb_nthD ix 3) (.selects y.1.cls y.1 y.1) && (match cl[q.2.2.2.2]? with
        | some (C, _, _) => decide (C = y.1.cls)
        | none => false)) (hb_wi Ts (hb_nthD ix 2) (.static y.1)))
  | none => false
theorem hb_mp_of {Ts NW : List Cond} {own host : String} {cl : List vw_C} {MT : List hbY} {mp : hbMP} {is : List (List Nat)} {args : Array Value} {s : State} (h : hb_lz (hb_mc1 Ts NW own cl MT host) mp is = true) (hts : ∀ w ∈ Ts.filter hb_gdw, w.before args s = true) (hnw : ∀ w ∈ NW, va_Nw w s) : hb_mp own cl MT mp args s := by
  intro q hq
  obtain ⟨i, hi⟩ := hb_lz_ok h q hq
  unfold hb_mc1 at hi
  cases hc : MT[q.2.1]? with
  | none => rw [hc] at hi; cases hi
  | some y =>
    rw [hc] at hi
    dsimp only at hi
    obtain ⟨hi, h6⟩ := hb_and2 hi
    obtain ⟨hi, h5⟩ := hb_and2 hi
    obtain ⟨hi, h4⟩ := hb_and2 hi
    obtain ⟨hi, h3⟩ := hb_and2 hi
    obtain ⟨h1, h2⟩ := hb_and2 hi
    have virt : Nat.ble q.2.2.1 1 = true → (Cond.instanceMethod y.1).before args s = true ∧ (Cond.selects y.1.cls y.1 y.1).before args s = true ∧ ∃ T N, cl[q.2.2.2.2]? = some (y.1.cls, T, N) := by
      intro hk
      rw [show Nat.beq q.2.2.1 4 = false by
        have := Nat.le_of_ble_eq_true hk
        cases hz : Nat.beq q.2.2.1 4 with
        | false => rfl
        | true => have := hb_lenE hz; omega, cond_false, hk, cond_true] at h6
      obtain ⟨h6, a3⟩ := hb_and2 h6
      obtain ⟨a1, a2⟩ := hb_and2 h6
      refine ⟨hts _ (hb_wi_ok a1), hts _ (hb_wi_ok a2), ?_⟩
      cases hz : cl[q.2.2.2.2]? with
      | none => rw [hz] at a3; cases a3
      | some z =>
        obtain ⟨C, T, N⟩ := z
        rw [hz] at a3
        have e : C = y.1.cls := of_decide_eq_true a3
        exact ⟨T, N, by rw [e]⟩
    have nest : ((match NW[hb_nthD i 1]? with
        | some v => decide (v = .methodLinkNest own q.1 y.1 host)
        | none => false) = true) → (Cond.methodLinkNest own q.1 y.1 host).before args s = true := by
      intro hn
      cases hz : NW[hb_nthD i 1]? with
      | none => rw [hz] at hn; cases hn
      | some v =>
        rw [hz] at hn
        have e : v = .methodLinkNest own q.1 y.1 host := of_decide_eq_true hn
        have := hnw v (List.mem_of_getElem? hz)
        rw [e] at this
        exact this.use rfl
    refine ⟨y, rfl, hts _ (hb_wi_ok h1), of_decide_eq_true h2, fun sig hs => ?_, fun e => ?_, fun e => ?_, fun e => ?_, fun e => ?_, fun e => ?_⟩
    · rw [hs] at h3
      exact hb_lenE h3
    · obtain ⟨v1, v2, v3⟩ := virt (by rw [e]; rfl)
      rw [show (Nat.beq q.2.2.1 0 || Nat.beq q.2.2.1 2 || Nat.beq q.2.2.1 4) = true by rw [e]; rfl, cond_true] at h5
      exact ⟨hts _ (hb_wi_ok h5), v1, v2, v3⟩
    · obtain ⟨v1, v2, v3⟩ := virt (by rw [e]; rfl)
      rw [show (Nat.beq q.2.2.1 0 || Nat.beq q.2.2.1 2 || Nat.beq q.2.2.1 4) = false by rw [e]; rfl, cond_false] at h5
      exact ⟨⟨host, nest h5⟩, v1, v2, v3⟩
    · rw [show (Nat.beq q.2.2.1 0 || Nat.beq q.2.2.1 2 || Nat.beq q.2.2.1 4) = true by rw [e]; rfl, cond_true] at h5
      rw [show Nat.beq q.2.2.1 4 = false by rw [e]; rfl, cond_false, show Nat.ble q.2.2.1 1 = false by rw [e]; rfl, cond_false] at h6
      exact ⟨hts _ (hb_wi_ok h5), hts _ (hb_wi_ok h6)⟩
    · rw [show (Nat.beq q.2.2.1 0 || Nat.beq q.2.2.1 2 || Nat.beq q.2.2.1 4) = false by rw [e]; rfl, cond_false] at h5
      rw [show Nat.beq q.2.2.1 4 = false by rw [e]; rfl, cond_false, show Nat.ble q.2.2.1 1 = false by rw [e]; rfl, cond_false] at h6
      exact ⟨⟨host, nest h5⟩, hts _ (hb_wi_ok h6)⟩
    · rw [show (Nat.beq q.2.2.1 0 || Nat.beq q.2.2.1 2 || Nat.beq q.2.2.1 4) = true by rw [e]; rfl, cond_true] at h5
      rw [show Nat.beq q.2.2.1 4 = true by rw [e]; rfl, cond_true] at h6
      obtain ⟨h6, a3⟩ := hb_and2 h6
      obtain ⟨a1, a2⟩ := hb_and2 h6
      exact ⟨hts _ (hb_wi_ok h5), hts _ (hb_wi_ok a1), hts _ (hb_wi_ok a2), of_decide_eq_true a3⟩
/-- constants -/
def hb_kc1 (Ts : List Cond) (own : String) (SL : List (String × Nat × Nat)) (q : Nat × Nat × Int) (ix : List Nat) : Bool := match q.2.1 with
  | 0 => hb_le (-2147483648) q.2.2 && hb_le q.2.2 2147483647 && hb_wi Ts (hb_nthD ix 0) (.constant own q.1 (Int32.ofInt q.2.2))
  | 1 => hb_le (-9223372036854775808) q.2.2 && hb_le q.2.2 9223372036854775807 && hb_wi Ts (hb_nthD ix 0) (.constantLong own q.1 (Int64.ofInt q.2.2))
  | _ => match SL[hb_nthD ix 0]? with
    | some z => decide (z = (own, q.1, q.2.2.toNat))
    | none => false
theorem hb_kp_of {Ts : List Cond} {own : String} {SL : List (String × Nat × Nat)} {tx : Nat → String} {S : Nat → Nat} {kp : List (Nat × Nat × Int)} {is : List (List Nat)} {args : Array Value} {s : State} (h : hb_lz (hb_kc1 Ts own SL) kp is = true) (hts : ∀ w ∈ Ts.filter hb_gdw, w.before args s = true) (hS : ∀ z ∈ SL, vk_R z.1 z.2.1 (tx z.2.2) (S z.2.2) s) : hb_kp own S kp args s := by
  intro q hq
  obtain ⟨i, hi⟩ := hb_lz_ok h q hq
  obtain ⟨x, k, v⟩ := q
  refine ⟨fun e => ?_, fun e => ?_, fun e => ?_⟩
  · have e : k = 0 := e
    subst e
    obtain ⟨hi, h3⟩ := hb_and2 (show (hb_le (-2147483648) v && hb_le v 2147483647 && hb_wi Ts (hb_nthD i 0) (.constant own x (Int32.ofInt v))) = true from hi)
    obtain ⟨h1, h2⟩ := hb_and2 hi
    have g1 := hb_le_t h1
    have g2 := hb_le_t h2
    exact ⟨Int32.ofInt v, fb_ofI (by omega) (by omega), hts _ (hb_wi_ok h3)⟩
  · have e : k = 1 := e
    subst e
    obtain ⟨hi, h3⟩ := hb_and2 (show (hb_le (-9223372036854775808) v && hb_le v 9223372036854775807 && hb_wi Ts (hb_nthD i 0) (.constantLong own x (Int64.ofInt v))) = true from hi)
    obtain ⟨h1, h2⟩ := hb_and2 hi
    have g1 := hb_le_t h1
    have g2 := hb_le_t h2
    exact ⟨Int64.ofInt v, by rw [Int64.toInt_ofInt, fb_bmodL (by omega) (by omega)], hts _ (hb_wi_ok h3)⟩
  · have e : k = 2 := e
    subst e
    have hi : (match SL[hb_nthD i 0]? with
      | some z => decide (z = (own, x, v.toNat))
      | none => false) = true := hi
    cases hz : SL[hb_nthD i 0]? with
    | none => rw [hz] at hi; cases hi
    | some z =>
      rw [hz] at hi
      have e : z = (own, x, v.toNat) := of_decide_eq_true hi
      have := hS z (List.mem_of_getElem? hz)
      rw [e] at this
      exact ⟨tx v.toNat, this⟩
/-- Math.max, Math.min, arraycopy -/
def hb_xc1 (Ts : List Cond) (own : String) (q : Nat × Nat) (ix : List Nat) : Bool := hb_wi Ts (hb_nthD ix 0) (.initialized "java/lang/Math") && Nat.ble q.2 1 &&
  cond (Nat.beq q.2 0) (hb_wi Ts (hb_nthD ix 1) (.methodLink own q.1 Lib.Math.max.name) && hb_wi Ts (hb_nthD ix 2) (.static Lib.Math.max.name) && hb_wi Ts (hb_nthD ix 3) (.code Lib.Math.max.name Lib.Math.max.code 2 (some .int)))
    (hb_wi Ts (hb_nthD ix 1) (.methodLink own q.1 Lib.Math.min.name) && hb_wi Ts (hb_nthD ix 2) (.static Lib.Math.min.name) && hb_wi Ts (hb_nthD ix 3) (.code Lib.Math.min.name Lib.Math.min.code 2 (some .int)))
theorem hb_xp_of {Ts : List Cond} {own : String} {xp : List (Nat × Nat)} {is : List (List Nat)} {args : Array Value} {s : State} (h : hb_lz (hb_xc1 Ts own) xp is = true) (hts : ∀ w ∈ Ts.filter hb_gdw, w.before args s = true) : hb_xp own xp args s := by
  intro q hq
  obtain ⟨i, hi⟩ := hb_lz_ok h q hq
  unfold hb_xc1 at hi
  obtain ⟨hi, h3⟩ := hb_and2 hi
  obtain ⟨h1, h2⟩ := hb_and2 hi
  refine ⟨hts _ (hb_wi_ok h1), fun e => ?_, fun e => ?_⟩
  · rw [show Nat.beq q.2 0 = true by rw [e]; rfl, cond_true] at h3
    obtain ⟨h3, a3⟩ := hb_and2 h3
    obtain ⟨a1, a2⟩ := hb_and2 h3
    exact ⟨hts _ (hb_wi_ok a1), hts _ (hb_wi_ok a2), hts _ (hb_wi_ok a3)⟩
  · rw [show Nat.beq q.2 0 = false by rw [e]; rfl, cond_false] at h3
    obtain ⟨h3, a3⟩ := hb_and2 h3
    obtain ⟨a1, a2⟩ := hb_and2 h3
    exact ⟨hts _ (hb_wi_ok a1), hts _ (hb_wi_ok a2), hts _ (hb_wi_ok a3)⟩
def hb_cc1 (Ts : List Cond) (own : String) (x : Nat) (ix : List Nat) : Bool := hb_wi Ts (hb_nthD ix 0) (.methodLink own x arraycopyName) && hb_wi Ts (hb_nthD ix 1) (.native arraycopyName) && hb_wi Ts (hb_nthD ix 2) (.static arraycopyName) && hb_wi Ts (hb_nthD ix 3) (.initialized "java/lang/System")
theorem hb_cp_of {Ts : List Cond} {own : String} {cp : List Nat} {is : List (List Nat)} {args : Array Value} {s : State} (h : hb_lz (hb_cc1 Ts own) cp is = true) (hts : ∀ w ∈ Ts.filter hb_gdw, w.before args s = true) : hb_cp own cp args s := by
  intro q hq
  obtain ⟨i, hi⟩ := hb_lz_ok h q hq
  unfold hb_cc1 at hi
  obtain ⟨hi, h4⟩ := hb_and2 hi
  obtain ⟨hi, h3⟩ := hb_and2 hi
  obtain ⟨h1, h2⟩ := hb_and2 hi
  exact ⟨hts _ (hb_wi_ok h1), hts _ (hb_wi_ok h2), hts _ (hb_wi_ok h3), hts _ (hb_wi_ok h4)⟩
theorem hb_tr_of {N : Nat} {len : List Nat} {byt : List (List Int32)} {adV : Nat → Nat} {A : Nat → Prop} {S : Nat → Nat} {mp : hbMP} {s : State} (h : mp.all (fun q => !(Nat.beq q.2.2.1 4) || Nat.ble q.2.2.2.2 N) = true) (hE : vk_S N len byt S adV A s s.heap) : hb_tr A S mp s := by
  intro q hq e k hk H locs hS
  have h1 := List.all_eq_true.mp h q hq
  rw [e] at h1
  have h2 : q.2.2.2.2 ≤ N := Nat.le_of_ble_eq_true h1
  exact vk_recv hE (by omega) hS
