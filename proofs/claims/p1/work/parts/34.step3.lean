/-! hb_: one step over an instruction that reads or writes a cell -/
/-- a place of the second of a pair, where the first is known not to be below nought -/
def hb_plf (V : hbV) (C : List (Nat × hbA × hbA)) (c : Nat) (ix : hbA) : Bool := C.any (fun q => Nat.beq q.2.2.1 9 && Nat.beq q.2.1.2.2.2.toNat c && hb_cge V C q.1 ix)
def hb_lif (b : Bool) (ty : hbT) : hbT := match ty with
  | (0, lo, hi) => (0, cond b (hb_max lo 0) lo, hi)
  | t => t
def hb_pairs : List (Nat × Nat) := [(135, 134)]
/-- pairs that hold since all places of the first are known to be below nought -/
def hb_mkp (V : hbV) (C : List (Nat × hbA × hbA)) (c n : Nat) : List (Nat × hbA × hbA) := (hb_pairs.filter (fun z => Nat.beq z.1 c && (List.range n).all (fun k => hb_clt V C c (0, 0, 0, .ofNat k)))).map (fun z => (z.1, (0, 0, 0, .ofNat z.2), (9, 0, 0, 0))) ++ C
def hb_see (fk : Bool) (kd : hbK) (V : hbV) (L : List (Nat × hbA)) (r : List hbA) (C : List (Nat × hbA × hbA)) (c : Nat) (ix : hbA) (nx : Nat) : hbR := match hb_ck C c ix with
  | some v => some [(nx, (V, L, v :: r, C))]
  | none => match hb_el kd V ix with
    | some ty => some ((hb_rd fk V (hb_lif (hb_plf V C c ix) ty)).map (fun q => (nx, (q.1, L, q.2 :: r, cond (Nat.ble q.2.1 1) ((c, ix, q.2) :: C) C))))
    | none => none
/-- every type that a place named by an index may have -/
def hb_els (kd : hbK) (V : hbV) (ix : hbA) : Option (List hbT) := match kd.2.2.2 with
  | [t] => some [t]
  | _ => hb_ob (hb_ixs V ix) (fun is => some (is.filterMap (fun i => hb_tyAt kd i)))
theorem hb_els_ok {ρ : Nat → Int} {kd : hbK} {V : hbV} {ix : hbA} {ts : List hbT} {ty : hbT} {x : Int} (hV : hb_V ρ V) (hx : x = ix.2.1 * ρ ix.2.2.1 + ix.2.2.2) (h0 : 0 ≤ x) (h : hb_els kd V ix = some ts) (ht : hb_tyAt kd x.toNat = some ty) : ty ∈ ts := by
  obtain ⟨f, ci, n, tys⟩ := kd
  unfold hb_els at h
  dsimp only at h
  split at h
  next t' =>
    cases h
    unfold hb_tyAt at ht
    simp [Nat.mod_one] at ht
    rw [← ht]
    exact List.mem_singleton.mpr rfl
  next =>
    obtain ⟨is, h1, h2⟩ := hb_ob_some h
    cases h2
    exact List.mem_filterMap.mpr ⟨x.toNat, hb_ixs_ok hV hx h0 h1, ht⟩
def hb_fits (kd : hbK) (V : hbV) (ix v : hbA) : Bool := match hb_els kd V ix with
  | some ts => ts.all (fun ty => hb_fit V ty v)
  | none => false
theorem hb_fits_ok {ρ : Nat → Int} {U T : Nat → Nat} {kd : hbK} {V : hbV} {ix va : hbA} {ty : hbT} {x : Int} {v : Value} (hV : hb_V ρ V) (hx : x = ix.2.1 * ρ ix.2.2.1 + ix.2.2.2) (h0 : 0 ≤ x) (h : hb_fits kd V ix va = true) (hv : hb_v V.1.length U T ρ va v) (ht : hb_tyAt kd x.toNat = some ty) : hb_ty U ty v := by
  unfold hb_fits at h
  cases hq : hb_els kd V ix with
  | none => rw [hq] at h; cases h
  | some ts =>
    rw [hq] at h
    exact hb_fit_ok hV hv (List.all_eq_true.mp h ty (hb_els_ok hV hx h0 hq ht))
/-- lists of types that are one -/
def hb_teqs : List hbT → List hbT → Bool
  | [], [] => true
  | a :: r, b :: q => hb_teq a b && hb_teqs r q
  | _, _ => false
theorem hb_teqs_ok : ∀ {a b : List hbT}, hb_teqs a b = true → a = b
  | [], [], _ => rfl
  | a :: r, b :: q, h => by
    obtain ⟨h1, h2⟩ := hb_and2 h
    rw [hb_teq_ok h1, hb_teqs_ok h2]
  | [], _ :: _, h => by cases h
  | _ :: _, [], h => by cases h
/-- the value is that of a place of the same type -/
def hb_cpf (KT : List hbK) (fp : List Nat) (kd : hbK) (C : List (Nat × hbA × hbA)) (ix v : hbA) : Bool := C.any (fun q => Nat.beq q.2.2.1 0 && hb_ah q.2.2 v && hb_mem q.1 fp && hb_z (q.2.1.2.1 - ix.2.1) && (hb_z ix.2.1 || Nat.beq q.2.1.2.2.1 ix.2.2.1) && hb_z ((ix.2.2.2 - q.2.1.2.2.2) % (.ofNat kd.2.2.2.length)) && (match KT[q.1]? with
  | some k2 => hb_teqs k2.2.2.2 kd.2.2.2
  | none => false))
theorem hb_cpf_ok {KT : List hbK} {fp : List Nat} {kd : hbK} {C : List (Nat × hbA × hbA)} {ix va : hbA} {ρ : Nat → Int} {U T : Nat → Nat} {n : Nat} {s : State} {wd : va_W} {z : Int} {x : Int32} {ty : hbT} (h : hb_cpf KT fp kd C ix va = true) (hC : hb_cch n U T ρ C wd) (hw : hb_wd KT s U wd fp) (hz : z = ix.2.1 * ρ ix.2.2.1 + ix.2.2.2) (h0 : 0 ≤ z) (hx : x.toInt = va.2.1 * ρ va.2.2.1 + va.2.2.2) (ht : hb_tyAt kd z.toNat = some ty) : hb_ty U ty (.int x) := by
  obtain ⟨q, q1, q2⟩ := List.any_eq_true.mp h
  obtain ⟨q2, a7⟩ := hb_and2 q2
  obtain ⟨q2, a6⟩ := hb_and2 q2
  obtain ⟨q2, a5⟩ := hb_and2 q2
  obtain ⟨q2, a4⟩ := hb_and2 q2
  obtain ⟨q2, a3⟩ := hb_and2 q2
  obtain ⟨a1, a2⟩ := hb_and2 q2
  obtain ⟨k1, e, v, k2, k3, k4, k5⟩ := hC.pl q1 (by rw [hb_lenE a1]; decide)
  obtain ⟨-, y, rfl, ey⟩ := k5.int a1
  have exy : x = y := Int32.toInt_inj.mp (by rw [hx, ey, hb_ah_ok (ρ := ρ) a2])
  subst exy
  obtain ⟨kd2, e2, w1, w2, w3, w4⟩ := hw q.1 (hb_mem_ok a3)
  rw [k2] at w2
  cases w2
  rw [w1] at a7
  have et := hb_teqs_ok a7
  generalize hz2 : q.2.1.2.1 * ρ q.2.1.2.2.1 + q.2.1.2.2.2 = z2 at k3 k4
  have hlt : z2.toNat < kd2.2.2.1 := by
    obtain ⟨f, ci, len, tys⟩ := kd2
    have hsh := w3.1
    by_cases hh : z2.toNat < len
    · exact hh
    · exfalso
      unfold hb_shape at hsh
      dsimp only at hsh
      split at hsh
      · obtain ⟨fs, rfl, hl⟩ := hsh
        have : fs[z2.toNat]? = some (.int x) := k4
        have := (List.getElem?_eq_some_iff.mp this).1
        omega
      · obtain ⟨cA, g, rfl, -⟩ := hsh
        have k4 : (if z2.toNat < len then some (Value.int (g z2.toNat)) else none) = some (.int x) := k4
        rw [if_neg hh] at k4; cases k4
      · obtain ⟨cA, g, rfl, -⟩ := hsh
        have k4 : (if z2.toNat < len then some (Value.int (g z2.toNat)) else none) = some (.int x) := k4
        rw [if_neg hh] at k4; cases k4
      · obtain ⟨cA, g, rfl, -⟩ := hsh
        have k4 : (if z2.toNat < len then some (Value.int (g z2.toNat)) else none) = some (.int x) := k4
        rw [if_neg hh] at k4; cases k4
      · obtain ⟨cA, g, rfl, -⟩ := hsh
        have k4 : (if z2.toNat < len then some (Value.long (g z2.toNat)) else none) = some (.int x) := k4
        rw [if_neg hh] at k4; cases k4
      · obtain ⟨cA, g, ty', rfl, -⟩ := hsh
        have k4 : (if z2.toNat < len then some (va_rf (g z2.toNat)) else none) = some (.int x) := k4
        rw [if_neg hh] at k4; cases k4
  obtain ⟨v', ty', t1, t2, t3⟩ := w3.2 z2.toNat hlt
  rw [k4] at t1
  cases t1
  have hmod : (z - z2) % (kd.2.2.2.length : Int) = 0 := by
    have e4 := hb_z_t a4
    have e6 : (ix.2.2.2 - q.2.1.2.2.2) % (kd.2.2.2.length : Int) = 0 := hb_z_t a6
    have e5 : q.2.1.2.1 * ρ q.2.1.2.2.1 = ix.2.1 * ρ ix.2.2.1 := by
      rw [Bool.or_eq_true] at a5
      rcases a5 with a5 | a5
      · have e7 := hb_z_t a5
        rw [show q.2.1.2.1 = 0 by omega, e7]
        omega
      · rw [hb_lenE a5, show q.2.1.2.1 = ix.2.1 by omega]
    rw [show z - z2 = ix.2.2.2 - q.2.1.2.2.2 by omega]
    exact e6
  have hnat : z.toNat % kd.2.2.2.length = z2.toNat % kd.2.2.2.length := by
    have e8 : ((z.toNat : Int)) % (kd.2.2.2.length : Int) = (z2.toNat : Int) % (kd.2.2.2.length : Int) := by
      rw [Int.toNat_of_nonneg h0, Int.toNat_of_nonneg k3]
      exact Int.emod_eq_emod_iff_emod_sub_eq_zero.mpr hmod
    exact_mod_cast e8
  unfold hb_tyAt at ht t2
  rw [hnat, ← et] at ht
  rw [ht] at t2
  cases t2
  exact t3
def hb_kd (KT : List hbK) (fp : List Nat) (a : hbA) (f : hbK → hbR) : hbR := cond (Nat.beq a.1 2 && hb_mem a.2.2.1 fp) (match KT[a.2.2.1]? with
  | some kd => f kd
  | none => none) none
theorem hb_kd_inv {KT : List hbK} {fp : List Nat} {a : hbA} {f : hbK → hbR} {l : List (Nat × hbS)} (h : hb_kd KT fp a f = some l) : Nat.beq a.1 2 = true ∧ a.2.2.1 ∈ fp ∧ ∃ kd, KT[a.2.2.1]? = some kd ∧ f kd = some l := by
  unfold hb_kd at h
  cases hc : (Nat.beq a.1 2 && hb_mem a.2.2.1 fp) with
  | false => rw [hc] at h; cases h
  | true =>
    rw [hc, cond_true] at h
    obtain ⟨h1, h2⟩ := hb_and2 hc
    cases hk : KT[a.2.2.1]? with
    | none => rw [hk] at h; cases h
    | some kd =>
      rw [hk] at h
      exact ⟨h1, hb_mem_ok h2, kd, rfl, h⟩
def hb_gd (b : Bool) (r : hbR) : hbR := cond b r none
theorem hb_gd_inv {b : Bool} {r : hbR} {l : List (Nat × hbS)} (h : hb_gd b r = some l) : b = true ∧ r = some l := by
  cases b with
  | false => cases h
  | true => exact ⟨rfl, h⟩
/-- each place of an array of references by itself -/
def hb_refs (kd : hbK) (V : hbV) (L : List (Nat × hbA)) (ix : hbA) (r : List hbA) (C : List (Nat × hbA × hbA)) (nx : Nat) : List Nat → hbR
  | [] => some []
  | j :: js => match hb_tyAt kd j, hb_refs kd V L ix r C nx js with
    | some (2, d, _), some q => some ((hb_tk V .eq ix (0, 0, 0, .ofNat j)).map (fun V' => (nx, (V', L, (2, 0, d.toNat, 0) :: r, C))) ++ q)
    | _, _ => none
def hb_step3 (fk : Bool) (KT : List hbK) (fp mods : List Nat) (po : List (Nat × Nat × Nat × Nat)) (i : Instr) (len pc : Nat) (V : hbV) (L : List (Nat × hbA)) (S : List hbA) (C : List (Nat × hbA × hbA)) : hbR := match i, S with
  | .getfield x, a :: r => match hb_pl po x with
    | some (ci, k, _) => hb_kd KT fp a (fun kd => hb_gd (Nat.beq len 3 && Nat.beq kd.1 0 && Nat.beq kd.2.1 ci && Nat.blt k kd.2.2.1) (hb_see false kd V L r C a.2.2.1 (0, 0, 0, .ofNat k) (pc + 3)))
    | none => none
  | .putfield x, v :: a :: r => match hb_pl po x with
    | some (ci, k, fc) => hb_kd KT fp a (fun kd => hb_gd (Nat.beq len 3 && Nat.beq kd.1 0 && Nat.beq kd.2.1 ci && Nat.blt k kd.2.2.1 && hb_mem a.2.2.1 mods && hb_fits kd V (0, 0, 0, .ofNat k) v &&
        ((Nat.beq fc 0 && Nat.beq v.1 0) || (Nat.beq fc 1 && hb_fit V (0, 0, 1) v) || (Nat.beq fc 2 && Nat.beq v.1 1)))
        (some [(pc + 3, (V, L, r, hb_wr V C a.2.2.1 (0, 0, 0, .ofNat k) v))]))
    | none => none
  | .arraylength, a :: r => hb_kd KT fp a (fun kd => hb_gd (Nat.beq len 1 && Nat.ble 1 kd.1) (some [(pc + 1, (V, L, (0, 0, 0, .ofNat kd.2.2.1) :: r, C))]))
  | .iaload, x :: a :: r => hb_kd KT fp a (fun kd => hb_gd (Nat.beq len 1 && Nat.beq x.1 0 && Nat.beq kd.1 1 && hb_inb V x kd.2.2.1) (hb_see fk kd V L r C a.2.2.1 x (pc + 1)))
  | .baload, x :: a :: r => hb_kd KT fp a (fun kd => hb_gd (Nat.beq len 1 && Nat.beq x.1 0 && (Nat.beq kd.1 2 || Nat.beq kd.1 3) && hb_inb V x kd.2.2.1) (hb_see fk kd V L r C a.2.2.1 x (pc + 1)))
  | .laload, x :: a :: r => hb_kd KT fp a (fun kd => hb_gd (Nat.beq len 1 && Nat.beq x.1 0 && Nat.beq kd.1 4 && hb_inb V x kd.2.2.1) (hb_see fk kd V L r C a.2.2.1 x (pc + 1)))
  | .aaload, x :: a :: r => hb_kd KT fp a (fun kd => hb_gd (Nat.beq len 1 && Nat.beq x.1 0 && Nat.beq kd.1 5 && hb_inb V x kd.2.2.1) (match hb_ixs V x with
      | some is => hb_refs kd V L x r C (pc + 1) is
      | none => none))
  | .iastore, v :: x :: a :: r => hb_kd KT fp a (fun kd => hb_gd (Nat.beq len 1 && Nat.beq x.1 0 && Nat.beq v.1 0 && Nat.beq kd.1 1 && hb_inb V x kd.2.2.1 && hb_mem a.2.2.1 mods && (hb_fits kd V x v || hb_cpf KT fp kd C x v)) (some [(pc + 1, (V, L, r, hb_mkp V (hb_wr V C a.2.2.1 x v) a.2.2.1 kd.2.2.1))]))
  | .bastore, v :: x :: a :: r => hb_kd KT fp a (fun kd => hb_gd (Nat.beq len 1 && Nat.beq x.1 0 && Nat.beq v.1 0 && ((Nat.beq kd.1 2 && hb_fit V (0, -128, 127) v) || (Nat.beq kd.1 3 && hb_fit V (0, 0, 1) v)) && hb_inb V x kd.2.2.1 && hb_mem a.2.2.1 mods && hb_fits kd V x v) (some [(pc + 1, (V, L, r, hb_wr V C a.2.2.1 x v))]))
  | .lastore, v :: x :: a :: r => hb_kd KT fp a (fun kd => hb_gd (Nat.beq len 1 && Nat.beq x.1 0 && Nat.beq v.1 1 && Nat.beq kd.1 4 && hb_inb V x kd.2.2.1 && hb_mem a.2.2.1 mods && hb_fits kd V x v) (some [(pc + 1, (V, L, r, hb_wr V C a.2.2.1 x v))]))
  | _, _ => none
section HBN
variable {p : Program} {l : Launch} {e : Env} {R : Room} {s : State} {m : MethodId} {args : Array Value} {below : List Frame} {meth : Method} {c : Code} {Q : State → Prop} {cc : ByteArray} {pc : Nat} {X : hbX} {V : hbV} {L : List (Nat × hbA)} {S : List hbA} {C : List (Nat × hbA × hbA)} {H : Heap} {locs : List Loc} {ls : Array Slot} {own : String} {Ts : List Cond} {po : List (Nat × Nat × Nat × Nat)}
/-- a read: whatever is known of the place, known or by its type -/
theorem hb_see_ok {fk : Bool} {kd : hbK} {cN nx : Nat} {ix : hbA} {r : List hbA} {lst : List (Nat × hbS)} (h : hb_see fk kd V L r C cN ix nx = some lst) (hJ : ∀ q ∈ lst, hb_J X (hb_w p l e R s m args below meth c Q) m q.2 q.1) {ρ : Nat → Int} {wd : va_W} {st : List Value} {z : Int} (hs : hb_sat X (V, L, r, C) ρ wd ls st) (hh : hb_hp X wd H locs) {ec : va_E} {v : Value} (he : wd[cN]? = some (X.2.2.1.1 cN, ec)) (hcell : hb_cell X.1.1 X.2.2.1.1 kd ec)
    (hi : ix.2.2.1 < V.1.length) (hz : z = ix.2.1 * ρ ix.2.2.1 + ix.2.2.2) (h0 : 0 ≤ z) (hn : z < kd.2.2.1) (hg : hb_get ec z.toNat = some v) : W p l e R s m args below meth c H locs 0 0 Q (F0 m nx ls (v :: st)) := by
  unfold hb_see at h
  cases hk : hb_ck C cN ix with
  | some va =>
    rw [hk] at h
    cases h
    obtain ⟨ix', g1, g2, g3⟩ := hb_ck_mem hk
    obtain ⟨k1, e2, v2, k2, k3, k4, k5⟩ := hs.2.2.2.2.pl g1 g3
    dsimp only at k1 k2 k3 k4 k5
    rw [he] at k2
    cases k2
    rw [hb_ah_ok g2, ← hz, hg] at k4
    cases k4
    exact hJ _ (List.mem_singleton.mpr rfl) ρ wd H locs ls _ (hs.push k5) hh
  | none =>
    rw [hk] at h
    dsimp only at h
    cases hel : hb_el kd V ix with
    | none => rw [hel] at h; cases h
    | some ty =>
      rw [hel] at h
      cases h
      obtain ⟨v', ty', q1, q2, q3⟩ := hcell.2 z.toNat (by omega)
      rw [hg] at q1
      cases q1
      have hty := hb_el_ok hs.1 hz h0 hel q2 q3
      have hty : hb_ty X.2.2.1.1 (hb_lif (hb_plf V C cN ix) ty) v := by
        cases hb : hb_plf V C cN ix with
        | false =>
          obtain ⟨t, lo, hi⟩ := ty
          match t, hty with
          | 0, hty => exact hty
          | 1, hty => exact hty
          | 2, hty => exact hty
          | t + 3, hty => exact hty
        | true =>
          obtain ⟨t, lo, hi⟩ := ty
          match t, hty with
          | 0, hty =>
            obtain ⟨x, e, b1, b2⟩ := hty
            subst e
            obtain ⟨w, w1, w2⟩ := List.any_eq_true.mp hb
            obtain ⟨w2, w5⟩ := hb_and2 w2
            obtain ⟨w3, w4⟩ := hb_and2 w2
            have hnn : 0 ≤ x.toInt := by
              rcases hs.2.2.2.2 w w1 with ⟨z1, z2⟩ | ⟨z1, -⟩
              · have hcg := w5
                unfold hb_cge at hcg
                cases hk2 : hb_ck C w.1 ix with
                | none => rw [hk2] at hcg; cases hcg
                | some b =>
                  obtain ⟨ix', g1, g2, g3⟩ := hb_ck_mem hk2
                  obtain ⟨k1, e2, v2, k2, k3, k4, k5⟩ := hs.2.2.2.2.pl g1 g3
                  rw [hk2] at hcg
                  obtain ⟨q3, -⟩ := hb_and2 hcg
                  obtain ⟨-, x2, ex2, -⟩ := k5.int q3
                  subst ex2
                  dsimp only at k2 k4
                  rw [hb_ah_ok g2, ← hz] at k4
                  have e9 := hb_lenE w4
                  rw [e9] at z2
                  exact z2 _ _ _ _ z.toNat x2 x k2 he k4 hg (hb_cge_ok hs.1 hs.2.2.2.2 w5 k2 (by rw [← hz]; exact k4))
              · exact absurd (hb_lenE w3) z1
            have g1 := hb_le_max lo 0
            exact ⟨x, rfl, by show hb_max lo 0 ≤ _; rcases g1.2.2 with q | q <;> omega, b2⟩
          | 1, hty => exact hty
          | 2, hty => exact hty
          | t + 3, hty => exact hty
      obtain ⟨rr, m1, ρ', a1, a2, a3, a4⟩ := hb_rd_ok (fk := fk) (T := X.2.2.1.2) hs.1 hs.2.1.1 hty
      have hs2 := hs.num a3 a1 a2
      refine hJ _ (List.mem_map.mpr ⟨rr, m1, rfl⟩) ρ' wd H locs ls _ ?_ hh
      obtain ⟨w1, w2, w3, w4, w5⟩ := hs2
      refine ⟨w1, w2, w3, ⟨a4, w4⟩, ?_⟩
      show hb_cch _ _ _ _ (cond (Nat.ble rr.2.1 1) ((cN, ix, rr.2) :: C) C) wd
      cases hble : Nat.ble rr.2.1 1 with
      | false => exact w5
      | true =>
        intro q hq
        rcases List.mem_cons.mp hq with rfl | hq
        · refine Or.inr ⟨fun z9 => ?_, Nat.lt_of_lt_of_le hi a3, ec, v, he, ?_, ?_, a4⟩
          · rw [show rr.2.1 = 9 from z9] at hble
            cases hble
          · show 0 ≤ ix.2.1 * ρ' ix.2.2.1 + ix.2.2.2
            rw [a1 _ hi, ← hz]; exact h0
          · show hb_get ec (ix.2.1 * ρ' ix.2.2.1 + ix.2.2.2).toNat = some v
            rw [a1 _ hi, ← hz]; exact hg
        · exact w5 q hq
theorem hb_refs_ok {kd : hbK} {ix : hbA} {r : List hbA} {nx : Nat} : ∀ {js : List Nat} {q : List (Nat × hbS)} {j : Nat}, hb_refs kd V L ix r C nx js = some q → j ∈ js → ∃ (d : Int) (u : Int), hb_tyAt kd j = some (2, d, u) ∧ ∀ V', V' ∈ hb_tk V .eq ix (0, 0, 0, .ofNat j) → (nx, (V', L, (2, 0, d.toNat, 0) :: r, C)) ∈ q
  | [], _, _, _, hj => by cases hj
  | i :: is, q, j, h, hj => by
    unfold hb_refs at h
    cases h2 : hb_refs kd V L ix r C nx is with
    | none =>
      rw [h2] at h
      split at h
      next hq => cases hq
      next => cases h
    | some q' =>
      rw [h2] at h
      split at h
      next d u q2 h1 e2 =>
        cases e2
        cases h
        rcases List.mem_cons.mp hj with rfl | hj
        · exact ⟨d, u, h1, fun V' hV' => List.mem_append.mpr (Or.inl (List.mem_map.mpr ⟨V', hV', rfl⟩))⟩
        · obtain ⟨d', u', g1, g2⟩ := hb_refs_ok h2 hj
          exact ⟨d', u', g1, fun V' hV' => List.mem_append.mpr (Or.inr (g2 V' hV'))⟩
      next => cases h
/-- behind a write -/
theorem hb_mkp_ok {V : hbV} {U S : Nat → Nat} {ρ : Nat → Int} {C : List (Nat × hbA × hbA)} {wd : va_W} {c n a : Nat} {e : va_E} (hV : hb_V ρ V) (h : hb_cch V.1.length U S ρ C wd) (he : wd[c]? = some (a, e)) (hn : ∀ k x, hb_get e k = some (.int x) → k < n) : hb_cch V.1.length U S ρ (hb_mkp V C c n) wd := by
  intro q hq
  rcases List.mem_append.mp hq with hq | hq
  · obtain ⟨z, z1, rfl⟩ := List.mem_map.mp hq
    obtain ⟨-, z3⟩ := List.mem_filter.mp z1
    obtain ⟨z4, z5⟩ := hb_and2 z3
    have e4 := hb_lenE z4
    refine Or.inl ⟨rfl, ?_⟩
    intro a1 a2 e1 e2 k x y h1 h2 h3 h4 hx
    rw [e4, he] at h1
    cases h1
    have hk := List.all_eq_true.mp z5 k (List.mem_range.mpr (hn k x h3))
    have := hb_clt_ok hV h hk he (y := x) (by
      show hb_get e (0 * ρ 0 + Int.ofNat k).toNat = _
      rw [show (0 * ρ 0 + Int.ofNat k).toNat = k by show (0 * ρ 0 + (k : Int)).toNat = k; omega]
      exact h3)
    omega
  · exact h q hq
theorem hb_wrote {kd : hbK} {cN nx : Nat} {ix va : hbA} {r : List hbA} {C' : List (Nat × hbA × hbA)} {ρ : Nat → Int} {ec' : va_E} (hJ : hb_J X (hb_w p l e R s m args below meth c Q) m (V, L, r, C') nx) (hC' : ∀ wd', hb_cch V.1.length X.2.2.1.1 X.2.2.1.2 ρ (hb_wr V C cN ix va) wd' → wd'[cN]? = some (X.2.2.1.1 cN, ec') → hb_cch V.1.length X.2.2.1.1 X.2.2.1.2 ρ C' wd') (hva : va.1 ≠ 9) {wd : va_W} {st : List Value} {z : Int} (hs : hb_sat X (V, L, r, C) ρ wd ls st) (hh : hb_hp X wd H locs) {ec : va_E} {v : Value} (hk : X.2.1.1[cN]? = some kd) (he : wd[cN]? = some (X.2.2.1.1 cN, ec)) (hcell : hb_cell X.1.1 X.2.2.1.1 kd ec) (hm : cN ∈ X.2.1.2.2)
    (hi : ix.2.2.1 < V.1.length) (hz : z = ix.2.1 * ρ ix.2.2.1 + ix.2.2.2) (h0 : 0 ≤ z) (hv : hb_v V.1.length X.2.2.1.1 X.2.2.1.2 ρ va v) (hf : ∀ ty, hb_tyAt kd z.toNat = some ty → hb_ty X.2.2.1.1 ty v) (hsh : hb_shape X.1.1 kd ec') (hg : hb_get ec' z.toNat = some v) (ho : ∀ k, k ≠ z.toNat → hb_get ec' k = hb_get ec k)
    {H1 : Heap} {locs1 : List Loc} (hP : va_P X.1.2.1 X.1.2.2 (wd.set cN (X.2.2.1.1 cN, ec')) H1) (hD : va_D X.2.2.2.2.2.2 (wd.set cN (X.2.2.1.1 cN, ec'))) (hS : va_S X.2.2.2.2.2.2 X.1.1.heap H1 locs1) : W p l e R s m args below meth c H1 locs1 0 0 Q (F0 m nx ls st) := by
  obtain ⟨-, -, -, h4, h5⟩ := hh
  obtain ⟨w1, w2, w3, w4, w5⟩ := hs
  have hc2 := hcell.upd hsh ho hg hf
  exact hJ ρ _ H1 locs1 ls st ⟨w1, w2, w3, w4, hC' _ (hb_cch.upd w1 w5 he hi (by rw [← hz]; exact h0) (by rw [← hz]; exact ho) (by rw [← hz]; exact hg) hv hva) (hb_setS he)⟩ ⟨hP, hD, hS, h4.upd hk he hc2, h5.upd hm he⟩
end HBN
