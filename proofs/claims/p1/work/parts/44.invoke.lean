/-! hb_: a step over a call -/
/-- index, method, kind (0 virtual, 1 virtual of a nest mate, 2 static, 3 static of a nest mate), parameters, class of the receiver -/
abbrev hbMP : Type := List (Nat × Nat × Nat × Nat × Nat)
def hb_mp (own : String) (cl : List vw_C) (MT : List hbY) (mpo : hbMP) (args : Array Value) (s : State) : Prop := ∀ q ∈ mpo, ∃ y, MT[q.2.1]? = some y ∧ (Cond.initialized y.1.cls).before args s = true ∧ (y.1.cls ≠ "java/lang/invoke/MethodHandle" ∧ y.1.cls ≠ "java/lang/invoke/VarHandle") ∧ (∀ sig, parseMethodDescriptor y.1.desc = some sig → q.2.2.2.1 = sig.parameters.length) ∧
  (q.2.2.1 = 0 → (Cond.methodLink own q.1 y.1).before args s = true ∧ (Cond.instanceMethod y.1).before args s = true ∧ (Cond.selects y.1.cls y.1 y.1).before args s = true ∧ ∃ T N, cl[q.2.2.2.2]? = some (y.1.cls, T, N)) ∧
  (q.2.2.1 = 1 → (∃ host, (Cond.methodLinkNest own q.1 y.1 host).before args s = true) ∧ (Cond.instanceMethod y.1).before args s = true ∧ (Cond.selects y.1.cls y.1 y.1).before args s = true ∧ ∃ T N, cl[q.2.2.2.2]? = some (y.1.cls, T, N)) ∧
  (q.2.2.1 = 2 → (Cond.methodLink own q.1 y.1).before args s = true ∧ (Cond.static y.1).before args s = true) ∧
  (q.2.2.1 = 3 → (∃ host, (Cond.methodLinkNest own q.1 y.1 host).before args s = true) ∧ (Cond.static y.1).before args s = true) ∧
  (q.2.2.1 = 4 → (Cond.methodLink own q.1 y.1).before args s = true ∧ (Cond.instanceMethod y.1).before args s = true ∧ (Cond.selects y.1.cls y.1 y.1).before args s = true ∧ y.1.cls = "java/lang/String")
/-- texts can be called: kind 4, the receiver a text, fewer than so many -/
def hb_tr (A : Nat → Prop) (S : Nat → Nat) (mpo : hbMP) (s : State) : Prop := ∀ q ∈ mpo, q.2.2.1 = 4 → ∀ k, k < q.2.2.2.2 → ∀ (H : Heap) (locs : List Loc), va_S A s.heap H locs → ∃ cell : Cell, H[S k]? = some cell ∧ cell.vm.isStatics = false ∧ s.vm.findClass "java/lang/String" = some cell.cls
def hb_rcvT (ci : Nat) : List hbA → Bool
  | a :: _ => Nat.ble 4 a.1 && Nat.blt a.2.2.1 ci
  | [] => false
theorem hb_v.txt {n : Nat} {U S : Nat → Nat} {ρ : Nat → Int} {a : hbA} {v : Value} (h : hb_v n U S ρ a v) (ht : Nat.ble 4 a.1 = true) : v = .ref (S a.2.2.1) := by
  obtain ⟨t, m, k, c⟩ := a
  match t, ht, h with
  | 0, ht, _ => cases ht
  | 1, ht, _ => cases ht
  | 2, ht, _ => cases ht
  | 3, ht, _ => cases ht
  | t + 4, _, h => exact h
def hb_ml (mpo : hbMP) (i : Nat) : Option (Nat × Nat × Nat × Nat) := match mpo with
  | [] => none
  | (j, q) :: r => cond (Nat.beq j i) (some q) (hb_ml r i)
theorem hb_ml_mem {i : Nat} {q : Nat × Nat × Nat × Nat} : ∀ {mpo : hbMP}, hb_ml mpo i = some q → (i, q) ∈ mpo
  | [], h => by cases h
  | (j, q') :: r, h => by
    unfold hb_ml at h
    cases hj : Nat.beq j i with
    | true =>
      rw [hj] at h
      cases h
      rw [hb_lenE hj]
      exact List.mem_cons_self
    | false =>
      rw [hj] at h
      exact List.mem_cons_of_mem _ (hb_ml_mem h)
def hb_subl (a b : List Nat) : Bool := a.all (fun c => hb_mem c b)
theorem hb_subl_ok {a b : List Nat} (h : hb_subl a b = true) : ∀ c ∈ a, c ∈ b := fun c hc => hb_mem_ok (List.all_eq_true.mp h c hc)
def hb_orE {α : Type} (a b : Option α) : Option α := match a with
  | some r => some r
  | none => b
theorem hb_orE_inv {α : Type} {a b : Option α} {r : α} (h : hb_orE a b = some r) : a = some r ∨ b = some r := by
  cases a with
  | some x => exact Or.inl h
  | none => exact Or.inr h
/-- the callee's numbers by its arguments and known places (any values will do: they are tested) -/
def hb_fa (k : Nat) : List hbA → List hbA → Option hbA
  | b :: bs, a :: as => cond (Nat.ble a.1 1 && hb_one a.2.1 && Nat.beq a.2.2.1 k && hb_z a.2.2.2) (some b) (hb_fa k bs as)
  | _, _ => none
def hb_fc (θ : List hbA) (k : Nat) (C : List (Nat × hbA × hbA)) : List (Nat × hbA × hbA) → Option hbA
  | [] => none
  | q :: r => cond ((hb_z q.2.1.2.1 || Nat.blt q.2.1.2.2.1 k) && Nat.ble q.2.2.1 1 && hb_one q.2.2.2.1 && Nat.beq q.2.2.2.2.1 k && hb_z q.2.2.2.2.2) (hb_ob (hb_th θ q.2.1) (hb_ck C q.1)) (hb_fc θ k C r)
def hb_fz (θ : List hbA) (k : Nat) (D : List (Nat × Nat × Nat)) : List (Nat × Nat × Nat) → Option hbA
  | [] => none
  | q :: r => cond (Nat.beq q.1 k && Nat.blt q.2.1 k && Nat.blt q.2.2 k) (match θ[q.2.1]?, θ[q.2.2]? with
    | some x, some y => hb_ob (hb_fd D x.2.2.1 y.2.2.1) (fun d => some (0, 1, d, x.2.2.2 - y.2.2.2))
    | _, _ => none) (hb_fz θ k D r)
def hb_bp (act as : List hbA) (C C0 : List (Nat × hbA × hbA)) (D D0 : List (Nat × Nat × Nat)) : Nat → Option (List hbA)
  | 0 => some []
  | k + 1 => match hb_bp act as C C0 D D0 k with
    | some l => hb_ob (cond (Nat.beq k 0) (some (0, 0, 0, 0)) (hb_orE (hb_fa k act as) (hb_orE (hb_fc l k C C0) (hb_fz l k D D0)))) (fun b => some (l ++ [b]))
    | none => none
def hb_cats (S : List hbA) : Nat := match S with
  | [] => 0
  | a :: r => hb_cat a + hb_cats r
def hb_ends (V : hbV) (θ : List hbA) (mods : List Nat) (L : List (Nat × hbA)) (rest : List hbA) (C : List (Nat × hbA × hbA)) : List (hbS × List (Nat × Nat × Int)) → Option (List hbS)
  | [] => some []
  | q :: r => match hb_end V θ mods L rest C q.1, hb_ends V θ mods L rest C r with
    | some a, some b => some (a ++ b)
    | _, _ => none
theorem hb_ends_mem {V : hbV} {θ : List hbA} {mods : List Nat} {L : List (Nat × hbA)} {rest : List hbA} {C : List (Nat × hbA × hbA)} : ∀ {ps : List (hbS × List (Nat × Nat × Int))} {as : List hbS} {q : hbS × List (Nat × Nat × Int)}, hb_ends V θ mods L rest C ps = some as → q ∈ ps → ∃ a, hb_end V θ mods L rest C q.1 = some a ∧ ∀ A ∈ a, A ∈ as
  | [], _, _, _, hq => by cases hq
  | p :: r, as, q, h, hq => by
    unfold hb_ends at h
    cases h1 : hb_end V θ mods L rest C p.1 with
    | none => rw [h1] at h; cases h
    | some a =>
      cases h2 : hb_ends V θ mods L rest C r with
      | none => rw [h1, h2] at h; cases h
      | some b =>
        rw [h1, h2] at h
        cases h
        rcases List.mem_cons.mp hq with rfl | hq
        · exact ⟨a, h1, fun A hA => List.mem_append.mpr (Or.inl hA)⟩
        · obtain ⟨a', g1, g2⟩ := hb_ends_mem h2 hq
          exact ⟨a', g1, fun A hA => List.mem_append.mpr (Or.inr (g2 A hA))⟩
/-- is the receiver an object of class ci? -/
def hb_rcv (KT : List hbK) (fp : List Nat) (ci : Nat) : List hbA → Bool
  | a :: _ => Nat.beq a.1 2 && hb_mem a.2.2.1 fp && (match KT[a.2.2.1]? with
    | some kd => Nat.beq kd.1 0 && Nat.beq kd.2.1 ci
    | none => false)
  | [] => false
/-- a call by one contract -/
def hb_inv1 (KT : List hbK) (MT : List hbY) (QT : List hbQ) (j0 RF RL : Nat) (fp mods : List Nat) (yi n1 : Nat) (ok : Bool) (nx : Nat) (V : hbV) (L : List (Nat × hbA)) (S : List hbA) (C : List (Nat × hbA × hbA)) (j : Nat) : hbR := match QT[j]?, MT[yi]? with
  | some q, some y => cond (ok && Nat.blt j j0 && Nat.beq q.1 yi && Nat.ble (q.2.2.2.2.1 + 1) RF && Nat.ble (8 + (y.2.2.1 + 11) + q.2.2.2.2.2) RL && hb_subl q.2.2.2.1.1 fp && hb_subl q.2.2.2.1.2 mods && hb_subl q.2.2.2.1.2 q.2.2.2.1.1 && Nat.beq q.2.1.2.1.length n1 && Nat.ble (hb_cats (S.drop n1)) 8 && Nat.blt 0 q.2.1.1.1.length)
      (match hb_bp (S.take n1).reverse q.2.1.2.1 C q.2.1.2.2 V.2.2 q.2.1.1.2.2 q.2.1.1.1.length with
        | some θ => cond (hb_mV V θ q.2.1.1 && hb_mS θ (S.take n1).reverse q.2.1.2.1 && hb_mC θ C q.2.1.2.2)
            (match hb_ends V θ q.2.2.2.1.2 L (S.drop n1) C q.2.2.1 with
              | some as => some (as.map (fun A => (nx, A)))
              | none => none) none
        | none => none) none
  | _, _ => none
def hb_invs (f : Nat → hbR) : List Nat → hbR
  | [] => none
  | j :: js => match f j with
    | some r => some r
    | none => hb_invs f js
theorem hb_invs_inv {f : Nat → hbR} : ∀ {js : List Nat} {l : List (Nat × hbS)}, hb_invs f js = some l → ∃ j, f j = some l
  | [], _, h => by cases h
  | j :: js, l, h => by
    unfold hb_invs at h
    cases hj : f j with
    | some r =>
      rw [hj] at h
      cases h
      exact ⟨j, hj⟩
    | none =>
      rw [hj] at h
      exact hb_invs_inv h
def hb_step4 (KT : List hbK) (MT : List hbY) (QT : List hbQ) (j0 RF RL : Nat) (fp mods : List Nat) (mpo : hbMP) (cs : List Nat) (i : Instr) (len pc : Nat) (V : hbV) (L : List (Nat × hbA)) (S : List hbA) (C : List (Nat × hbA × hbA)) : hbR := match i with
  | .invokevirtual x => match hb_ml mpo x with
    | some (yi, kd, n, ci) => hb_gd (Nat.beq len 3 && (Nat.ble kd 1 || Nat.beq kd 4)) (hb_invs (hb_inv1 KT MT QT j0 RF RL fp mods yi (n + 1) (cond (Nat.beq kd 4) (hb_rcvT ci (S.take (n + 1)).reverse) (hb_rcv KT fp ci (S.take (n + 1)).reverse)) (pc + 3) V L S C) cs)
    | none => none
  | .invokestatic x => match hb_ml mpo x with
    | some (yi, kd, n, _) => hb_gd (Nat.beq len 3 && (Nat.beq kd 2 || Nat.beq kd 3)) (hb_invs (hb_inv1 KT MT QT j0 RF RL fp mods yi n true (pc + 3) V L S C) cs)
    | none => none
  | _ => none
theorem hb_stk.split {n : Nat} {U Z : Nat → Nat} {ρ : Nat → Int} : ∀ (k : Nat) {S : List hbA} {st : List Value}, hb_stk n U Z ρ S st → ∃ st1 st2, st = st1 ++ st2 ∧ hb_stk n U Z ρ (S.take k) st1 ∧ hb_stk n U Z ρ (S.drop k) st2
  | 0, S, st, h => ⟨[], st, rfl, trivial, h⟩
  | k + 1, [], [], _ => ⟨[], [], rfl, trivial, trivial⟩
  | k + 1, [], _ :: _, h => h.elim
  | k + 1, _ :: _, [], h => h.elim
  | k + 1, a :: S, v :: st, h => by
    obtain ⟨s1, s2, e, h1, h2⟩ := hb_stk.split k h.2
    exact ⟨v :: s1, s2, by rw [e]; rfl, ⟨h.1, h1⟩, h2⟩
theorem hb_stk.rev {n : Nat} {U Z : Nat → Nat} {ρ : Nat → Int} : ∀ {S : List hbA} {st : List Value}, hb_stk n U Z ρ S st → hb_stk n U Z ρ S.reverse st.reverse
  | [], [], _ => trivial
  | [], _ :: _, h => h.elim
  | _ :: _, [], h => h.elim
  | a :: S, v :: st, h => by
    rw [List.reverse_cons, List.reverse_cons]
    exact hb_stk.app (hb_stk.rev h.2) ⟨h.1, trivial⟩
theorem hb_stk.len {n : Nat} {U Z : Nat → Nat} {ρ : Nat → Int} : ∀ {S : List hbA} {st : List Value}, hb_stk n U Z ρ S st → S.length = st.length
  | [], [], _ => rfl
  | [], _ :: _, h => h.elim
  | _ :: _, [], h => h.elim
  | a :: S, v :: st, h => by simp [hb_stk.len h.2]
theorem hb_stk.cats {n : Nat} {U Z : Nat → Nat} {ρ : Nat → Int} : ∀ {S : List hbA} {st : List Value}, hb_stk n U Z ρ S st → (st.map fun v => v.category).sum = hb_cats S
  | [], [], _ => rfl
  | [], _ :: _, h => h.elim
  | _ :: _, [], h => h.elim
  | a :: S, v :: st, h => by
    rw [List.map_cons, List.sum_cons, h.1.cat, hb_stk.cats h.2]
    rfl
theorem hb_mE_lt {V : hbV} : ∀ {θ : List hbA} {E : hbE}, hb_mE V θ E = true → ∀ a ∈ θ, a.2.2.1 < V.1.length
  | [], _, _, _, h => by cases h
  | _ :: _, [], h, _, _ => by cases h
  | a :: r, (lo, hi) :: E, h, b, hb => by
    obtain ⟨h1, h2⟩ := hb_and2 h
    rcases List.mem_cons.mp hb with rfl | hb
    · cases hq : hb_iv V.1 b.2.1 b.2.2.1 b.2.2.2 with
      | none => rw [hq] at h1; cases h1
      | some q => exact hb_iv_lt hq
    · exact hb_mE_lt h2 b hb
section HBIV
variable {p : Program} {l : Launch} {e : Env} {R : Room} {s : State} {m : MethodId} {args : Array Value} {below : List Frame} {meth : Method} {c : Code} {Q : State → Prop} {cc : ByteArray} {pc nL : Nat} {X : hbX} {V : hbV} {L : List (Nat × hbA)} {S : List hbA} {C : List (Nat × hbA × hbA)} {own : String} {G : hbG} {QT : List hbQ} {j0 : Nat} {fp mods : List Nat} {mpo : hbMP}
/-- what a call by a contract needs, beside the link itself -/
theorem hb_inv1_ok {yi n1 nx j : Nat} {ok : Bool} {lst : List (Nat × hbS)} (hG : hb_Gok G) (hTw : ∀ w ∈ G.2.1.1, w.before args s = true) (hgood : ∀ w ∈ G.2.1.1, (w.onTables && w.keeps) = true ∨ ∃ ty, w = .arrayClass ty) (hcode : ∀ y ∈ G.2.2.2, Cond.code y.1 y.2.1 y.2.2.1 y.2.2.2 ∈ G.2.1.1)
    (hXs : X.1.1 = s) (hXc : X.1.2.2 = G.1.2) (hXk : X.2.1 = (G.1.1, fp, mods)) (hAd : X.2.2.2.2.2.2 = va_A X.2.2.2.2.1 s.heap.size) (hGs : hb_Gs G X.1.2.1 X.2.2.2.2.2.2 X.2.2.1.2 s) (hQ : ∀ j q, j < j0 → QT[j]? = some q → hb_Met G q)
    (h : hb_inv1 G.1.1 G.2.2.2 QT j0 R.frames R.locals fp mods yi n1 ok nx V L S C j = some lst) (hJ : ∀ z ∈ lst, hb_J X (hb_w p l e R s m args below meth c Q) m z.2 z.1) {ρ : Nat → Int} {wd : va_W} {H : Heap} {locs : List Loc} {ls : Array Slot} {st : List Value} (hs : hb_sat X (V, L, S, C) ρ wd ls st) (hh : hb_hp X wd H locs) :
    ok = true ∧ ∃ (q : hbQ) (y : hbY) (vs rest : List Value) (P : Option Value → State → Prop), G.2.2.2[yi]? = some y ∧ st = vs.reverse ++ rest ∧ vs.length = n1 ∧ (rest.map fun v => v.category).sum ≤ 8 ∧ hb_stk V.1.length X.2.2.1.1 X.2.2.1.2 ρ (S.take n1).reverse vs ∧
      Met l y.1 (.code y.1 y.2.1 y.2.2.1 y.2.2.2 :: G.2.1.1) (hb_rm q) (va_Pc vs (hb_Pre G X.1.2.1 X.2.2.1.1 X.2.2.1.2 wd H.size q.2.2.2.1.1)) (fun _ st oc t => (∃ v, oc = .returned v ∧ P v t) ∧ va_F (va_A wd H.size) st t) 0 0 (va_A wd H.size) ∧
      (hb_rm q).frames + 1 ≤ R.frames ∧ 8 + (y.2.2.1 + 11) + (hb_rm q).locals ≤ R.locals ∧ (∀ w ∈ (Cond.code y.1 y.2.1 y.2.2.1 y.2.2.2 :: G.2.1.1), ∀ (a' : Array Value) (U : State), s.WarmedH U.vm → w.before a' U = true) ∧ (Cond.code y.1 y.2.1 y.2.2.1 y.2.2.2).before args s = true ∧
      (∀ U : State, U.heap = H → s.WarmedH U.vm → va_Pc vs (hb_Pre G X.1.2.1 X.2.2.1.1 X.2.2.1.2 wd H.size q.2.2.2.1.1) vs.toArray U) ∧ (∀ q', va_A wd H.size q' → X.2.2.2.2.2.2 q') ∧
      (∀ (v : Option Value) (t : State) (H1 : Heap) (locs1 : List Loc), t.heap = H1 → s.vm.Alike t.vm → P v t → va_S X.2.2.2.2.2.2 X.1.1.heap H1 locs1 → W p l e R s m args below meth c H1 locs1 0 0 Q (F0 m nx ls (v.toList ++ rest))) := by
  unfold hb_inv1 at h
  cases hq : QT[j]? with
  | none => rw [hq] at h; cases h
  | some q =>
    cases hy : G.2.2.2[yi]? with
    | none => rw [hq, hy] at h; cases h
    | some y =>
      rw [hq, hy] at h
      dsimp only at h
      generalize hce : (ok && Nat.blt j j0 && Nat.beq q.1 yi && Nat.ble (q.2.2.2.2.1 + 1) R.frames && Nat.ble (8 + (y.2.2.1 + 11) + q.2.2.2.2.2) R.locals && hb_subl q.2.2.2.1.1 fp && hb_subl q.2.2.2.1.2 mods && hb_subl q.2.2.2.1.2 q.2.2.2.1.1 && Nat.beq q.2.1.2.1.length n1 && Nat.ble (hb_cats (S.drop n1)) 8 && Nat.blt 0 q.2.1.1.1.length) = ce at h
      cases ce with
      | false => cases h
      | true =>
        rw [cond_true] at h
        obtain ⟨hce, c11⟩ := hb_and2 hce
        obtain ⟨hce, c10⟩ := hb_and2 hce
        obtain ⟨hce, c9⟩ := hb_and2 hce
        obtain ⟨hce, c8⟩ := hb_and2 hce
        obtain ⟨hce, c7⟩ := hb_and2 hce
        obtain ⟨hce, c6⟩ := hb_and2 hce
        obtain ⟨hce, c5⟩ := hb_and2 hce
        obtain ⟨hce, c4⟩ := hb_and2 hce
        obtain ⟨hce, c3⟩ := hb_and2 hce
        obtain ⟨c1, c2⟩ := hb_and2 hce
        cases hθ : hb_bp (S.take n1).reverse q.2.1.2.1 C q.2.1.2.2 V.2.2 q.2.1.1.2.2 q.2.1.1.1.length with
        | none => rw [hθ] at h; cases h
        | some θ =>
          rw [hθ] at h
          dsimp only at h
          generalize hme : (hb_mV V θ q.2.1.1 && hb_mS θ (S.take n1).reverse q.2.1.2.1 && hb_mC θ C q.2.1.2.2) = me at h
          cases me with
          | false => cases h
          | true =>
            rw [cond_true] at h
            obtain ⟨hme, m3⟩ := hb_and2 hme
            obtain ⟨m1, m2⟩ := hb_and2 hme
            cases he : hb_ends V θ q.2.2.2.1.2 L (S.drop n1) C q.2.2.1 with
            | none => rw [he] at h; cases h
            | some as =>
              rw [he] at h
              cases h
              obtain ⟨s1, s2, s3, s4, s5⟩ := hs
              obtain ⟨g1, g2⟩ := hb_mV_ok s1 m1
              obtain ⟨st1, st2, e1, t1, t2⟩ := hb_stk.split n1 s4
              have t3 := hb_stk.rev t1
              have hargs := hb_mS_ok t3 m2
              have hC0 := hb_mC_ok s5 m3
              rw [g1] at hargs hC0
              have hlen : st1.reverse.length = n1 := by
                rw [← hb_stk.len hargs]
                exact hb_lenE c9
              have hθk := hb_mE_lt (hb_and2 (hb_and2 m1).1).1
              have hA1 : ∀ q', va_A wd H.size q' → X.2.2.2.2.2.2 q' := by
                intro q' hq'
                rw [hAd]
                rcases hb_fr.A hh.2.2.2.2 hq' with z | z
                · exact Or.inl z
                · exact Or.inr (Nat.le_trans (by have := hh.2.2.1.1; rw [hXs] at this; exact this) z)
              have hyi : q.1 = yi := hb_lenE c3
              have hM := hQ j q (hb_blt c2) hq y (by rw [hyi]; exact hy) l X.1.2.1 X.2.2.1.1 X.2.2.1.2 (hb_rt ρ θ) wd H.size st1.reverse g2 (hb_blt c11) hargs hC0
              have hymem : y ∈ G.2.2.2 := List.mem_of_getElem? hy
              refine ⟨c1, q, y, st1.reverse, st2, fun v t => ∃ (wd' : va_W) (ρ' : Nat → Int) (z : hbS × List (Nat × Nat × Int)), z ∈ q.2.2.1 ∧ hb_ag q.2.1.1.1.length (hb_rt ρ θ) ρ' ∧ q.2.1.1.1.length ≤ z.1.1.1.length ∧ hb_V ρ' z.1.1 ∧ hb_stk z.1.1.1.length X.2.2.1.1 X.2.2.1.2 ρ' z.1.2.2.1 v.toList ∧ hb_cch z.1.1.1.length X.2.2.1.1 X.2.2.1.2 ρ' z.1.2.2.2 wd' ∧ va_P X.1.2.1 G.1.2 wd' t.heap ∧ hb_wd G.1.1 t X.2.2.1.1 wd' q.2.2.2.1.1 ∧ hb_fr q.2.2.2.1.2 wd wd', rfl, ?_, hlen, ?_, t3, ?_, Nat.le_of_ble_eq_true c4, Nat.le_of_ble_eq_true c5, ?_, hTw _ (hcode y hymem), ?_, hA1, ?_⟩
              · rw [List.reverse_reverse]; exact e1
              · rw [hb_stk.cats t2]; exact Nat.le_of_ble_eq_true c10
              · have conv : ∀ (a : Array Value) (st : State) (oc : Outcome) (t : State), hb_Post G X.1.2.1 X.2.2.1.1 X.2.2.1.2 (hb_rt ρ θ) q.2.1.1.1.length wd H.size q.2.2.2.1.1 q.2.2.2.1.2 q.2.2.1 a st oc t → (∃ v, oc = .returned v ∧ ∃ (wd' : va_W) (ρ' : Nat → Int) (z : hbS × List (Nat × Nat × Int)), z ∈ q.2.2.1 ∧ hb_ag q.2.1.1.1.length (hb_rt ρ θ) ρ' ∧ q.2.1.1.1.length ≤ z.1.1.1.length ∧ hb_V ρ' z.1.1 ∧ hb_stk z.1.1.1.length X.2.2.1.1 X.2.2.1.2 ρ' z.1.2.2.1 v.toList ∧ hb_cch z.1.1.1.length X.2.2.1.1 X.2.2.1.2 ρ' z.1.2.2.2 wd' ∧ va_P X.1.2.1 G.1.2 wd' t.heap ∧ hb_wd G.1.1 t X.2.2.1.1 wd' q.2.2.2.1.1 ∧ hb_fr q.2.2.2.1.2 wd wd') ∧ va_F (va_A wd H.size) st t := by
                  intro a st oc t hp
                  obtain ⟨⟨v, wd', ρ', z, p1, p2, p3, p4, p5, p6, p7, p8, p9, p10⟩, p11⟩ := hp
                  exact ⟨⟨v, p2, wd', ρ', z, p1, p3, p4, p5, p6, p7, p8, p9, p10⟩, p11⟩
                intro p' e' ha' hc' hk' s' m' args' below' hf' hfit hP' hK'
                obtain ⟨k', o', w1, w2, w3, w4, w5⟩ := hM p' e' ha' hc' hk' s' m' args' below' hf' hfit hP' hK'
                exact ⟨k', o', w1, w2, w3, conv _ _ _ _ w4, w5⟩
              · intro w hw a' U hW
                rcases List.mem_cons.mp hw with rfl | hw
                · exact word_at hW (hgood _ (hcode y hymem)) (hTw _ (hcode y hymem))
                · exact word_at hW (hgood w hw) (hTw w hw)
              · intro U hU hW
                refine ⟨rfl, by rw [hU], by rw [hU, ← hXc]; exact hh.1, hh.2.1.weaken (fun _ _ _ _ => trivial), ?_, ?_⟩
                · have := hh.2.2.2.1
                  rw [hXk, hXs] at this
                  exact (this.moved hW.alike).less (hb_subl_ok c6)
                · exact hb_Gs.move hG hW (fun q' h1 h2 => by rw [hU]; exact hh.2.2.1.2.1 q' (by rw [hXs]; exact h1) h2 |>.trans (by rw [hXs])) hA1 hGs
              · intro v t H1 locs1 ht hvm hP hS
                obtain ⟨wd', ρ', z, p1, p3, p4, p5, p6, p7, p8, p9, p10⟩ := hP
                obtain ⟨a, b1, b2⟩ := hb_ends_mem he p1
                have hs2 : hb_sat X (V, L, S.drop n1, C) ρ wd ls st2 := ⟨s1, s2, s3, t2, s5⟩
                obtain ⟨A, d1, ρ'', d2⟩ := hb_end_ok (X := X) (v := v) hs2 hθk (by rw [g1]; exact p3) (by rw [g1]; exact p4) p5 p6 p7 p10 b1
                refine hJ _ (List.mem_map.mpr ⟨A, b2 A d1, rfl⟩) ρ'' wd' H1 locs1 ls _ d2 ⟨by rw [hXc, ← ht]; exact p8, p10.D hh.2.1, hS, ?_, ?_⟩
                · have := hh.2.2.2.1
                  rw [hXk] at this ⊢
                  rw [hXs] at this ⊢
                  exact this.back hvm.symm p9 p10 (hb_subl_ok c8)
                · have := hh.2.2.2.2
                  rw [hXk] at this ⊢
                  exact this.trans p10 (hb_subl_ok c7)
end HBIV
