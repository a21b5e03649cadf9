/-! hb_: measures, ends of a method, the run over all ways -/
def hb_val (ρ : Nat → Int) (a : hbA) : Int := a.2.1 * ρ a.2.2.1 + a.2.2.2
def hb_msA (ρ : Nat → Int) : Nat → List hbA → Nat
  | acc, [] => acc
  | acc, a :: r => hb_msA ρ (acc * 1099511627776 + (hb_val ρ a).toNat) r
def hb_bds (V : hbV) (a : hbA) : Bool := match hb_iv V.1 a.2.1 a.2.2.1 a.2.2.2 with
  | some (l, u) => hb_le 0 l && hb_le u 1099511627775
  | none => false
theorem hb_bds_ok {ρ : Nat → Int} {V : hbV} {a : hbA} (hV : hb_V ρ V) (h : hb_bds V a = true) : 0 ≤ hb_val ρ a ∧ hb_val ρ a ≤ 1099511627775 := by
  unfold hb_bds at h
  cases hq : hb_iv V.1 a.2.1 a.2.2.1 a.2.2.2 with
  | none => rw [hq] at h; cases h
  | some q =>
    obtain ⟨l, u⟩ := q
    rw [hq] at h
    obtain ⟨h1, h2⟩ := hb_and2 h
    have := hb_iv_ok hV.1 hq
    have := hb_le_t h1
    have := hb_le_t h2
    unfold hb_val
    omega
/-- row by row no greater, once less -/
def hb_lex (V : hbV) : List hbA → List hbA → Bool
  | x :: xs, y :: ys => hb_bds V x && hb_bds V y && ((hb_leQ V x y (-1) && Nat.beq xs.length ys.length && xs.all (hb_bds V)) || (hb_leQ V x y 0 && hb_lex V xs ys))
  | _, _ => false
theorem hb_msA_lt {ρ : Nat → Int} {V : hbV} (hV : hb_V ρ V) : ∀ {xs ys : List hbA} {a b : Nat}, a < b → xs.length = ys.length → xs.all (hb_bds V) = true → hb_msA ρ a xs < hb_msA ρ b ys
  | [], [], a, b, h, _, _ => h
  | [], _ :: _, _, _, _, h, _ => by simp at h
  | _ :: _, [], _, _, _, h, _ => by simp at h
  | x :: xs, y :: ys, a, b, h, hl, hb => by
    rw [List.all_cons] at hb
    obtain ⟨h1, h2⟩ := hb_and2 hb
    have g := hb_bds_ok hV h1
    show hb_msA ρ (a * 1099511627776 + (hb_val ρ x).toNat) xs < hb_msA ρ (b * 1099511627776 + (hb_val ρ y).toNat) ys
    refine hb_msA_lt hV ?_ (by simpa using hl) h2
    have : (a + 1) * 1099511627776 ≤ b * 1099511627776 := Nat.mul_le_mul_right _ h
    omega
theorem hb_lex_ok {ρ : Nat → Int} {V : hbV} (hV : hb_V ρ V) : ∀ {xs ys : List hbA} {a b : Nat}, a ≤ b → hb_lex V xs ys = true → hb_msA ρ a xs < hb_msA ρ b ys
  | [], _, _, _, _, h => by cases h
  | _ :: _, [], _, _, _, h => by cases h
  | x :: xs, y :: ys, a, b, hab, h => by
    obtain ⟨h1, h3⟩ := hb_and2 h
    obtain ⟨h1, h2⟩ := hb_and2 h1
    have gx := hb_bds_ok hV h1
    have gy := hb_bds_ok hV h2
    have hm : a * 1099511627776 ≤ b * 1099511627776 := Nat.mul_le_mul_right _ hab
    show hb_msA ρ (a * 1099511627776 + (hb_val ρ x).toNat) xs < hb_msA ρ (b * 1099511627776 + (hb_val ρ y).toNat) ys
    rw [Bool.or_eq_true] at h3
    rcases h3 with h3 | h3
    · obtain ⟨q1, q3⟩ := hb_and2 h3
      obtain ⟨q1, q2⟩ := hb_and2 q1
      have g := hb_leQ_ok (d := -1) (x := hb_val ρ x) (y := hb_val ρ y) hV rfl rfl q1
      exact hb_msA_lt hV (by omega) (hb_lenE q2) q3
    · obtain ⟨q1, q2⟩ := hb_and2 h3
      have g := hb_leQ_ok (d := 0) (x := hb_val ρ x) (y := hb_val ρ y) hV rfl rfl q1
      have e1 : (hb_val ρ x).toNat ≤ (hb_val ρ y).toNat := by omega
      exact hb_lex_ok hV (Nat.add_le_add hm e1) q2
/-- where a new number of a template comes from: 0 a local, 1 a place of the stack, 2 a place of a cell, 3 the difference, 4 the sum of two older ones, 5 a constant -/
def hb_pl1 (A : hbS) (θ : List hbA) (q : Nat × Nat × Int) : Option hbA := match q with
  | (0, i, _) => hb_lk A.2.1 i
  | (1, i, _) => A.2.2.1[i]?
  | (2, c, k) => hb_ck A.2.2.2 c (0, 0, 0, k)
  | (3, a, k) => match θ[a]?, θ[k.toNat]? with
    | some x, some y => hb_ob (hb_fd A.1.2.2 x.2.2.1 y.2.2.1) (fun d => some (0, 1, d, x.2.2.2 - y.2.2.2))
    | _, _ => none
  | (4, a, k) => match θ[a]?, θ[k.toNat]? with
    | some x, some y => hb_ob (hb_fs A.1.2.2 x.2.2.1 y.2.2.1) (fun d => some (0, 1, d, x.2.2.2 + y.2.2.2))
    | _, _ => none
  | (5, _, k) => some (0, 0, 0, k)
  | (c, a, k) => match θ[a]? with
    | some x => hb_ck A.2.2.2 (c - 100) (0, x.2.1, x.2.2.1, x.2.2.2 + k)
    | none => none
def hb_bd2 (A : hbS) : List hbA → List (Nat × Nat × Int) → Option (List hbA)
  | θ, [] => some θ
  | θ, q :: r => match hb_pl1 A θ q with
    | some a => hb_bd2 A (θ ++ [a]) r
    | none => none
def hb_idl : Nat → List hbA
  | 0 => []
  | n + 1 => hb_idl n ++ [(0, 1, n, 0)]
/-- a state lies in one of the ends -/
def hb_retQ (n0 : Nat) (posts : List (hbS × List (Nat × Nat × Int))) (A : hbS) : Bool := posts.any (fun q => match hb_bd2 A (hb_idl n0) q.2 with
  | some θ => hb_idn θ n0 && hb_mV A.1 θ q.1.1 && hb_mS θ A.2.2.1 q.1.2.2.1 && hb_mC θ A.2.2.2 q.1.2.2.2
  | none => false)
/-- heads of loops: where, what holds there, where its numbers come from, the measure -/
abbrev hbH : Type := List (Nat × hbS × List (Nat × Nat × Int) × List hbA)
def hb_hdQ (n0 : Nat) (ms0 : Option (List hbA)) (hd : hbH) (pc : Nat) (A : hbS) : Bool := hd.any (fun h => Nat.beq h.1 pc && (match hb_bd2 A (hb_idl n0) h.2.2.1 with
  | some θ => hb_idn θ n0 && hb_m θ A h.2.1 && h.2.2.2.all (fun a => Nat.ble a.1 1) && (match ms0, hb_ths θ h.2.2.2 with
    | none, _ => true
    | some ms, some xs => hb_lex A.1 xs ms
    | some _, none => false)
  | none => false))
/-- a local's value by itself, each -/
def hb_spl (V : hbV) (a : hbA) : List Int → List (Int × hbV)
  | [] => []
  | z :: r => (hb_tk V .eq a (0, 0, 0, z)).map (fun V' => (z, V')) ++ hb_spl V a r
theorem hb_spl_mem {V : hbV} {a : hbA} {z : Int} {V' : hbV} : ∀ {l : List Int}, z ∈ l → V' ∈ hb_tk V .eq a (0, 0, 0, z) → (z, V') ∈ hb_spl V a l
  | [], h, _ => by cases h
  | y :: r, h, hV => by
    rcases List.mem_cons.mp h with rfl | h
    · exact List.mem_append.mpr (Or.inl (List.mem_map.mpr ⟨V', hV, rfl⟩))
    · exact List.mem_append.mpr (Or.inr (hb_spl_mem h hV))
def hb_all (V : hbV) (a : hbA) : Option (List Int) := match hb_iv V.1 a.2.1 a.2.2.1 a.2.2.2 with
  | some (l, u) => hb_ob (hb_nt (u - l)) (fun d => cond (Nat.ble d 400) (some (hb_rng l d)) none)
  | none => none
theorem hb_all_ok {ρ : Nat → Int} {V : hbV} {a : hbA} {x : Int} {l : List Int} (hV : hb_V ρ V) (hx : x = a.2.1 * ρ a.2.2.1 + a.2.2.2) (h : hb_all V a = some l) : x ∈ l := by
  unfold hb_all at h
  cases hq : hb_iv V.1 a.2.1 a.2.2.1 a.2.2.2 with
  | none => rw [hq] at h; cases h
  | some q =>
    obtain ⟨lo, u⟩ := q
    rw [hq] at h
    obtain ⟨d, h1, h2⟩ := hb_ob_some h
    have e := hb_nt_ok h1
    cases hd : Nat.ble d 400 with
    | false => rw [hd] at h2; cases h2
    | true =>
      rw [hd] at h2
      cases h2
      have := hb_iv_ok hV.1 hq
      exact hb_rng_mem (by omega) (by omega)
def hb_sp (sp : List (Nat × Nat)) (pc : Nat) : Option Nat := match sp with
  | [] => none
  | (q, i) :: r => cond (Nat.beq q pc) (some i) (hb_sp r pc)
def hb_isc (a : hbA) : Bool := hb_z a.2.1
/-- the step itself; st: any step function -/
def hb_run (n0 rc : Nat) (posts : List (hbS × List (Nat × Nat × Int))) (hd : hbH) (sp : List (Nat × Nat)) (ins : Nat → Option (Instr × Nat)) (stp : Instr → Nat → Nat → hbS → hbR) (ms0 : Option (List hbA)) : Nat → Bool → Nat → hbS → Bool
  | 0, _, _, _ => false
  | f + 1, first, pc, A => (!first && hb_hdQ n0 ms0 hd pc A) || (match ins pc with
    | none => false
    | some (i, len) => match i, A.2.2.1 with
      | .return_, [] => Nat.beq len 1 && Nat.beq rc 0 && hb_retQ n0 posts A
      | .ireturn, [a] => Nat.beq len 1 && (Nat.beq rc 1 && Nat.beq a.1 0 || Nat.beq rc 2 && hb_fit A.1 (0, 0, 1) a) && hb_retQ n0 posts A
      | .lreturn, [a] => Nat.beq len 1 && Nat.beq rc 3 && Nat.beq a.1 1 && hb_retQ n0 posts A
      | .areturn, [a] => Nat.beq len 1 && Nat.beq rc 4 && Nat.ble 2 a.1 && hb_retQ n0 posts A
      | i, _ => match hb_ob (hb_sp sp pc) (fun j => hb_ob (hb_lk A.2.1 j) (fun a => cond (hb_isc a || !(Nat.beq a.1 0)) none (hb_ob (hb_all A.1 a) (fun zs => some (j, hb_spl A.1 a zs))))) with
        | some (j, Vs) => Vs.all (fun V' => hb_run n0 rc posts hd sp ins stp ms0 f true pc (V'.2, hb_st1 A.2.1 j (0, 0, 0, V'.1), A.2.2))
        | none => match stp i len pc A with
          | some l => l.all (fun q => hb_run n0 rc posts hd sp ins stp ms0 f false q.1 q.2)
          | none => false)
