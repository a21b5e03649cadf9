/-! hl_: calls of the two objects' methods from the law: what stays true of the world -/
def hl_mode (wd : va_W) (c off : Nat) : Prop := ∀ (a : Nat) (cA : ClassId) (n : Nat) (g : Nat → Int32), wd[c]? = some (a, .inl (cA, n, .inl g)) → off + 5 < n → 1 ≤ (g off).toInt ∨ (g (off + 5)).toInt = 0
def hl_inv0 (s : State) (U : Nat → Nat) (wd : va_W) : Prop := hb_wd hb_KT s U wd (List.range 148) ∧ hl_mode wd 125 0 ∧ hl_mode wd 126 0 ∧ hl_mode wd 126 122 ∧ hl_mode wd 126 244
def hl_inv (s : State) (U : Nat → Nat) (wd : va_W) : Prop := hb_wd hb_KT s U wd (List.range 148) ∧ hl_mode wd 125 0 ∧ hl_mode wd 126 0 ∧ hl_mode wd 126 122 ∧ hl_mode wd 126 244 ∧ hp_Psi U wd
def hl_H0 (D : va_G) (U : Nat → Nat) (s : State) (wd : va_W) (H : Heap) (locs : List Loc) : Prop := va_P D vwCl wd H ∧ va_D (fun q => s.heap.size ≤ q) wd ∧ va_S (fun q => s.heap.size ≤ q) s.heap H locs ∧ hl_inv0 s U wd
def hl_H (D : va_G) (U : Nat → Nat) (s : State) (wd : va_W) (H : Heap) (locs : List Loc) : Prop := va_P D vwCl wd H ∧ va_D (fun q => s.heap.size ≤ q) wd ∧ va_S (fun q => s.heap.size ≤ q) s.heap H locs ∧ hl_inv s U wd
def hl_lo (V : hbV) (C : List (Nat × hbA × hbA)) (c k : Nat) : Bool := match hb_ck C c (0, 0, 0, .ofNat k) with
  | some a => Nat.beq a.1 0 && (match hb_iv V.1 a.2.1 a.2.2.1 a.2.2.2 with
    | some (l, _) => hb_le 1 l
    | none => false)
  | none => false
def hl_z5 (V : hbV) (C : List (Nat × hbA × hbA)) (c k : Nat) : Bool := match hb_ck C c (0, 0, 0, .ofNat k) with
  | some a => Nat.beq a.1 0 && (match hb_iv V.1 a.2.1 a.2.2.1 a.2.2.2 with
    | some (l, u) => hb_le 0 l && hb_le u 0
    | none => false)
  | none => false
theorem hl_ck_ok {V : hbV} {U S : Nat → Nat} {ρ : Nat → Int} {C : List (Nat × hbA × hbA)} {wd : va_W} {c k a n l u : Nat} {b : hbA} {cA : ClassId} {g : Nat → Int32} {lo hi : Int} (hV : hb_V ρ V) (h : hb_cch V.1.length U S ρ C wd) (hc : hb_ck C c (0, 0, 0, .ofNat k) = some b) (ht : Nat.beq b.1 0 = true) (hi' : hb_iv V.1 b.2.1 b.2.2.1 b.2.2.2 = some (lo, hi)) (he : wd[c]? = some (a, .inl (cA, n, .inl g))) (hk : k < n) : lo ≤ (g k).toInt ∧ (g k).toInt ≤ hi := by
  obtain ⟨ix', g1, g2, g3⟩ := hb_ck_mem hc
  obtain ⟨k1, e2, v, k2, k3, k4, k5⟩ := h.pl g1 g3
  dsimp only at k2 k4 k5
  rw [he] at k2
  cases k2
  have e0 : (0 : Int) * ρ 0 + Int.ofNat k = (k : Int) := by show (0 : Int) * ρ 0 + (k : Int) = (k : Int); omega
  have e1 := hb_ah_ok (ρ := ρ) g2
  dsimp only at e1
  rw [e1, e0, Int.toNat_natCast, hb_getI hk] at k4
  cases k4
  obtain ⟨-, x, ex, ev⟩ := k5.int ht
  cases ex
  have := hb_iv_ok hV.1 hi'
  omega
theorem hl_lo_ok {V : hbV} {U S : Nat → Nat} {ρ : Nat → Int} {C : List (Nat × hbA × hbA)} {wd : va_W} {c k a n : Nat} {cA : ClassId} {g : Nat → Int32} (hV : hb_V ρ V) (h : hb_cch V.1.length U S ρ C wd) (hc : hl_lo V C c k = true) (he : wd[c]? = some (a, .inl (cA, n, .inl g))) (hk : k < n) : 1 ≤ (g k).toInt := by
  unfold hl_lo at hc
  cases hb : hb_ck C c (0, 0, 0, .ofNat k) with
  | none => rw [hb] at hc; cases hc
  | some b =>
    rw [hb] at hc
    obtain ⟨c1, c2⟩ := hb_and2 hc
    cases hq : hb_iv V.1 b.2.1 b.2.2.1 b.2.2.2 with
    | none => rw [hq] at c2; cases c2
    | some q =>
      obtain ⟨lo, hi⟩ := q
      rw [hq] at c2
      have h1 := hb_le_t c2
      have h2 := hl_ck_ok (l := 0) (u := 0) hV h hb c1 hq he hk
      omega
theorem hl_z5_ok {V : hbV} {U S : Nat → Nat} {ρ : Nat → Int} {C : List (Nat × hbA × hbA)} {wd : va_W} {c k a n : Nat} {cA : ClassId} {g : Nat → Int32} (hV : hb_V ρ V) (h : hb_cch V.1.length U S ρ C wd) (hc : hl_z5 V C c k = true) (he : wd[c]? = some (a, .inl (cA, n, .inl g))) (hk : k < n) : (g k).toInt = 0 := by
  unfold hl_z5 at hc
  cases hb : hb_ck C c (0, 0, 0, .ofNat k) with
  | none => rw [hb] at hc; cases hc
  | some b =>
    rw [hb] at hc
    obtain ⟨c1, c2⟩ := hb_and2 hc
    cases hq : hb_iv V.1 b.2.1 b.2.2.1 b.2.2.2 with
    | none => rw [hq] at c2; cases c2
    | some q =>
      obtain ⟨lo, hi⟩ := q
      rw [hq] at c2
      obtain ⟨c3, c4⟩ := hb_and2 c2
      have h1 := hb_le_t c3
      have h3 := hb_le_t c4
      have h2 := hl_ck_ok (l := 0) (u := 0) hV h hb c1 hq he hk
      omega
def hl_md (z : hbS) (mods : List Nat) (c off : Nat) : Bool := !(hb_mem c mods) || (hl_lo z.1 z.2.2.2 c off || hl_z5 z.1 z.2.2.2 c (off + 5))
theorem hl_md_ok {z : hbS} {U S : Nat → Nat} {ρ : Nat → Int} {wd wd' : va_W} {mods : List Nat} {c off : Nat} (hm : hl_mode wd c off) (hf : hb_fr mods wd wd') (hV : hb_V ρ z.1) (hC : hb_cch z.1.1.length U S ρ z.2.2.2 wd') (h : hl_md z mods c off = true) : hl_mode wd' c off := by
  unfold hl_md at h
  intro a cA n g he hn
  cases hq : hb_mem c mods with
  | false =>
    have hc : c ∉ mods := fun q => by
      have : hb_mem c mods = true := by
        clear hq h hf
        induction mods with
        | nil => cases q
        | cons d r ih =>
          unfold hb_mem
          rcases List.mem_cons.mp q with z | z
          · rw [z]; simp
          · rw [ih z, Bool.or_true]
      rw [hq] at this
      cases this
    rw [(hf c).2 hc] at he
    exact hm a cA n g he hn
  | true =>
    rw [hq] at h
    have h : (hl_lo z.1 z.2.2.2 c off || hl_z5 z.1 z.2.2.2 c (off + 5)) = true := h
    rw [Bool.or_eq_true] at h
    rcases h with h | h
    · exact Or.inl (hl_lo_ok hV hC h he (by omega))
    · exact Or.inr (hl_z5_ok hV hC h he hn)
/-- what a contract of the face must be like -/
def hl_ok (q : hbQ) (RF RL mL : Nat) : Bool := hb_subl q.2.2.2.1.1 (List.range 148) && hb_subl q.2.2.2.1.2 q.2.2.2.1.1 && Nat.ble (q.2.2.2.2.1 + 1) RF && Nat.ble (8 + (mL + 11) + q.2.2.2.2.2) RL &&
  q.2.2.1.all (fun z => hl_md z.1 q.2.2.2.1.2 125 0 && hl_md z.1 q.2.2.2.1.2 126 0 && hl_md z.1 q.2.2.2.1.2 126 122 && hl_md z.1 q.2.2.2.1.2 126 244)
/-- the start of a contract of the face: any arguments of these bounds, and facts of places -/
def hl_args : Nat → List (Nat × Int × Int) → List hbA
  | _, [] => []
  | n, t :: ts => (t.1, 1, n, 0) :: hl_args (n + 1) ts
def hl_fc : Nat → List (Nat × Nat × Int × Int) → hbE × List (Nat × hbA × hbA)
  | _, [] => ([], [])
  | n, (c, k, lo, hi) :: r => cond (hb_z (lo - hi)) ((hl_fc n r).1, (c, (0, 0, 0, .ofNat k), (0, 0, 0, lo)) :: (hl_fc n r).2) ((lo, hi) :: (hl_fc (n + 1) r).1, (c, (0, 0, 0, .ofNat k), (0, 1, n, 0)) :: (hl_fc (n + 1) r).2)
def hl_pre (root : Nat) (ts : List (Nat × Int × Int)) (F : List (Nat × Nat × Int × Int)) : hbV × List hbA × List (Nat × hbA × hbA) := (((0, 0) :: (ts.map (fun t => t.2) ++ (hl_fc (ts.length + 1) F).1), [], []), (2, 0, root, 0) :: hl_args 1 ts, (hl_fc (ts.length + 1) F).2)
def hl_as : List (Nat × Int × Int) → List Value → List Int → Prop
  | [], [], [] => True
  | (0, lo, hi) :: ts, .int x :: vs, z :: zs => (x.toInt = z ∧ lo ≤ z ∧ z ≤ hi) ∧ hl_as ts vs zs
  | (1, lo, hi) :: ts, .long x :: vs, z :: zs => (x.toInt = z ∧ lo ≤ z ∧ z ≤ hi) ∧ hl_as ts vs zs
  | _, _, _ => False
def hl_fact (U : Nat → Nat) (wd : va_W) (f : Nat × Nat × Int × Int) : Prop := ∃ (e : va_E) (x : Int32), wd[f.1]? = some (U f.1, e) ∧ hb_get e f.2.1 = some (.int x) ∧ f.2.2.1 ≤ x.toInt ∧ x.toInt ≤ f.2.2.2
def hl_rel : hbE → List Int → Prop
  | [], [] => True
  | (lo, hi) :: E, v :: vs => (lo ≤ v ∧ v ≤ hi) ∧ hl_rel E vs
  | _, _ => False
theorem hl_rel_env : ∀ {E : hbE} {vs : List Int}, hl_rel E vs → ∀ (k : Nat) (lo hi : Int), E[k]? = some (lo, hi) → lo ≤ vs.getD k 0 ∧ vs.getD k 0 ≤ hi
  | [], [], _, k, lo, hi, h => by simp at h
  | (a, b) :: E, v :: vs, h, 0, lo, hi, he => by
    cases he
    exact h.1
  | (a, b) :: E, v :: vs, h, k + 1, lo, hi, he => by
    have := hl_rel_env h.2 k lo hi he
    exact this
  | [], _ :: _, h, _, _, _, _ => h.elim
  | _ :: _, [], h, _, _, _, _ => h.elim
theorem hl_rel_app : ∀ {E E' : hbE} {vs vs' : List Int}, hl_rel E vs → hl_rel E' vs' → hl_rel (E ++ E') (vs ++ vs')
  | [], _, [], _, _, h => h
  | (a, b) :: E, _, v :: vs, _, h, h' => ⟨h.1, hl_rel_app h.2 h'⟩
  | [], _, _ :: _, _, h, _ => h.elim
  | _ :: _, _, [], _, h, _ => h.elim
theorem hl_rel_len : ∀ {E : hbE} {vs : List Int}, hl_rel E vs → E.length = vs.length
  | [], [], _ => rfl
  | (a, b) :: E, v :: vs, h => by simp [hl_rel_len h.2]
  | [], _ :: _, h => h.elim
  | _ :: _, [], h => h.elim
theorem hl_as_rel : ∀ {ts : List (Nat × Int × Int)} {vs : List Value} {zs : List Int}, hl_as ts vs zs → hl_rel (ts.map (fun t => t.2)) zs
  | [], [], [], _ => trivial
  | (0, lo, hi) :: ts, .int x :: vs, z :: zs, h => ⟨h.1.2, hl_as_rel h.2⟩
  | (1, lo, hi) :: ts, .long x :: vs, z :: zs, h => ⟨h.1.2, hl_as_rel h.2⟩
theorem hl_as_stk {U S : Nat → Nat} {ρ : Nat → Int} {len : Nat} : ∀ {ts : List (Nat × Int × Int)} {vs : List Value} {zs : List Int} {n : Nat}, hl_as ts vs zs → (∀ j, j < zs.length → n + j < len ∧ ρ (n + j) = zs.getD j 0) → hb_stk len U S ρ (hl_args n ts) vs
  | [], [], [], _, _, _ => trivial
  | (0, lo, hi) :: ts, .int x :: vs, z :: zs, n, h, hr => by
    have h0 := hr 0 (by simp)
    refine ⟨⟨h0.1, x, rfl, ?_⟩, hl_as_stk (n := n + 1) h.2 (fun j hj => ?_)⟩
    · rw [h.1.1]
      have e : ρ n = z := h0.2
      rw [e]
      omega
    · have := hr (j + 1) (by simp; omega)
      rw [show n + 1 + j = n + (j + 1) by omega]
      exact this
  | (1, lo, hi) :: ts, .long x :: vs, z :: zs, n, h, hr => by
    have h0 := hr 0 (by simp)
    refine ⟨⟨h0.1, x, rfl, ?_⟩, hl_as_stk (n := n + 1) h.2 (fun j hj => ?_)⟩
    · rw [h.1.1]
      have e : ρ n = z := h0.2
      rw [e]
      omega
    · have := hr (j + 1) (by simp; omega)
      rw [show n + 1 + j = n + (j + 1) by omega]
      exact this
theorem hl_fc_t {n c k : Nat} {lo hi : Int} {r : List (Nat × Nat × Int × Int)} (hz : hb_z (lo - hi) = true) : hl_fc n ((c, k, lo, hi) :: r) = ((hl_fc n r).1, (c, ((0, 0, 0, .ofNat k) : hbA), ((0, 0, 0, lo) : hbA)) :: (hl_fc n r).2) := by
  rw [hl_fc, hz]
  rfl
theorem hl_fc_f {n c k : Nat} {lo hi : Int} {r : List (Nat × Nat × Int × Int)} (hz : hb_z (lo - hi) = false) : hl_fc n ((c, k, lo, hi) :: r) = ((lo, hi) :: (hl_fc (n + 1) r).1, (c, ((0, 0, 0, .ofNat k) : hbA), ((0, 1, n, 0) : hbA)) :: (hl_fc (n + 1) r).2) := by
  rw [hl_fc, hz]
  rfl
/-- the numbers of the facts that are not constants -/
theorem hl_fc_ok {U S : Nat → Nat} {wd : va_W} : ∀ {F : List (Nat × Nat × Int × Int)} (n : Nat), (∀ f ∈ F, hl_fact U wd f) → ∃ zs : List Int, hl_rel (hl_fc n F).1 zs ∧ ∀ (ρ : Nat → Int) (len : Nat), 0 < len → n + zs.length ≤ len → (∀ j, j < zs.length → ρ (n + j) = zs.getD j 0) → hb_cch len U S ρ (hl_fc n F).2 wd
  | [], n, _ => ⟨[], trivial, fun _ _ _ _ _ q h => by cases h⟩
  | (c, k, lo, hi) :: r, n, hF => by
    obtain ⟨e, x, f1, f2, f3, f4⟩ := hF _ List.mem_cons_self
    dsimp only at f1 f2 f3 f4
    have hr := fun f hf => hF f (List.mem_cons_of_mem _ hf)
    have ek : ∀ ρ : Nat → Int, (0 : Int) * ρ 0 + Int.ofNat k = (k : Int) := fun ρ => by show (0 : Int) * ρ 0 + (k : Int) = (k : Int); omega
    cases hz : hb_z (lo - hi) with
    | true =>
      have e0 := hb_z_t hz
      obtain ⟨zs, h1, h2⟩ := hl_fc_ok (F := r) n hr
      refine ⟨zs, ?_, fun ρ len hl hn hj q hq => ?_⟩
      · rw [hl_fc_t hz]
        exact h1
      · rw [hl_fc_t hz] at hq
        rcases List.mem_cons.mp hq with rfl | hq
        · refine Or.inr ⟨(show (0 : Nat) ≠ 9 by decide), hl, e, .int x, f1, ?_, ?_, hl, x, rfl, ?_⟩
          · show 0 ≤ (0 : Int) * ρ 0 + Int.ofNat k
            rw [ek]
            omega
          · show hb_get e ((0 : Int) * ρ 0 + Int.ofNat k).toNat = _
            rw [ek, Int.toNat_natCast]
            exact f2
          · show x.toInt = 0 * ρ 0 + lo
            omega
        · exact h2 ρ len hl hn hj q hq
    | false =>
      obtain ⟨zs, h1, h2⟩ := hl_fc_ok (F := r) (n + 1) hr
      refine ⟨x.toInt :: zs, ?_, fun ρ len hl hn hj q hq => ?_⟩
      · rw [hl_fc_f hz]
        exact ⟨⟨f3, f4⟩, h1⟩
      · rw [hl_fc_f hz] at hq
        have hn' : n + (zs.length + 1) ≤ len := hn
        rcases List.mem_cons.mp hq with rfl | hq
        · have h0 : ρ n = x.toInt := hj 0 (by simp)
          refine Or.inr ⟨(show (0 : Nat) ≠ 9 by decide), hl, e, .int x, f1, ?_, ?_, by omega, x, rfl, ?_⟩
          · show 0 ≤ (0 : Int) * ρ 0 + Int.ofNat k
            rw [ek]
            omega
          · show hb_get e ((0 : Int) * ρ 0 + Int.ofNat k).toNat = _
            rw [ek, Int.toNat_natCast]
            exact f2
          · show x.toInt = 1 * ρ n + 0
            omega
        · refine h2 ρ len hl (by omega) (fun j hj' => ?_) q hq
          have := hj (j + 1) (by simp; omega)
          rw [show n + 1 + j = n + (j + 1) by omega]
          exact this
theorem hl_pre_ok {root : Nat} {ts : List (Nat × Int × Int)} {F : List (Nat × Nat × Int × Int)} {As : List Value} {zs : List Int} {U S : Nat → Nat} {wd : va_W} (hA : hl_as ts As zs) (hF : ∀ f ∈ F, hl_fact U wd f) : ∃ ρ : Nat → Int, hb_V ρ (hl_pre root ts F).1 ∧ 0 < (hl_pre root ts F).1.1.length ∧ hb_stk (hl_pre root ts F).1.1.length U S ρ (hl_pre root ts F).2.1 (.ref (U root) :: As) ∧ hb_cch (hl_pre root ts F).1.1.length U S ρ (hl_pre root ts F).2.2 wd ∧ ∀ j, j < zs.length → ρ (j + 1) = zs.getD j 0 := by
  obtain ⟨ys, h1, h2⟩ := hl_fc_ok (S := S) (ts.length + 1) hF
  have r1 := hl_as_rel hA
  have r2 := hl_rel_app r1 h1
  have l1 := hl_rel_len r1
  have l2 := hl_rel_len h1
  rw [List.length_map] at l1
  have hr : hl_rel (hl_pre root ts F).1.1 (0 :: (zs ++ ys)) := ⟨⟨Int.le_refl _, Int.le_refl _⟩, r2⟩
  have hlen : (hl_pre root ts F).1.1.length = 1 + (zs.length + ys.length) := by
    rw [hl_rel_len hr]
    simp
    omega
  have gz : ∀ j, j < zs.length → (0 :: (zs ++ ys)).getD (j + 1) 0 = zs.getD j 0 := fun j hj => by
    simp [List.getD, List.getElem?_append_left hj]
  have gy : ∀ j, j < ys.length → (0 :: (zs ++ ys)).getD (ts.length + 1 + j) 0 = ys.getD j 0 := fun j hj => by
    rw [l1, show zs.length + 1 + j = (zs.length + j) + 1 by omega]
    simp [List.getD, List.getElem?_append_right (show zs.length ≤ zs.length + j by omega)]
  refine ⟨fun i => (0 :: (zs ++ ys)).getD i 0, ⟨hl_rel_env hr, (fun _ h => (by cases h)), (fun _ h => (by cases h))⟩, by rw [hlen]; omega, ⟨rfl, hl_as_stk (n := 1) hA (fun j hj => ⟨by rw [hlen]; omega, ?_⟩)⟩, h2 _ _ (by rw [hlen]; omega) (by rw [hlen, l1]; omega) gy, gz⟩
  rw [Nat.add_comm 1 j]
  exact gz j hj
/-! hp_: a contract's start with all its numbers told -/
def hp_F (U : Nat → Nat) (wd : va_W) : List (Nat × Nat × Int × Int) → List Int → Prop
  | [], [] => True
  | [], _ :: _ => False
  | (c, k, lo, hi) :: F, ys => (hb_z (lo - hi) = true ∧ hp_at U wd c k lo ∧ hp_F U wd F ys) ∨ (hb_z (lo - hi) = false ∧ ∃ (y : Int) (zs : List Int), ys = y :: zs ∧ hp_at U wd c k y ∧ lo ≤ y ∧ y ≤ hi ∧ hp_F U wd F zs)
theorem hp_F0 {U : Nat → Nat} {wd : va_W} : hp_F U wd [] [] := trivial
theorem hp_Fc {U : Nat → Nat} {wd : va_W} {c k : Nat} {v : Int} {F : List (Nat × Nat × Int × Int)} {ys : List Int} (h : hp_at U wd c k v) (hF : hp_F U wd F ys) : hp_F U wd ((c, k, v, v) :: F) ys := Or.inl ⟨by rw [Int.sub_self]; rfl, h, hF⟩
theorem hp_Fn {U : Nat → Nat} {wd : va_W} {c k : Nat} {y lo hi : Int} {F : List (Nat × Nat × Int × Int)} {ys : List Int} (hz : hb_z (lo - hi) = false) (h : hp_at U wd c k y ∧ lo ≤ y ∧ y ≤ hi) (hF : hp_F U wd F ys) : hp_F U wd ((c, k, lo, hi) :: F) (y :: ys) := Or.inr ⟨hz, y, ys, rfl, h.1, h.2.1, h.2.2, hF⟩
theorem hp_fc_ok {U S : Nat → Nat} {wd : va_W} : ∀ {F : List (Nat × Nat × Int × Int)} (n : Nat) {ys : List Int}, hp_F U wd F ys → hl_rel (hl_fc n F).1 ys ∧ ∀ (ρ : Nat → Int) (len : Nat), 0 < len → n + ys.length ≤ len → (∀ j, j < ys.length → ρ (n + j) = ys.getD j 0) → hb_cch len U S ρ (hl_fc n F).2 wd
  | [], n, [], _ => ⟨trivial, fun _ _ _ _ _ q h => by cases h⟩
  | [], n, _ :: _, h => h.elim
  | (c, k, lo, hi) :: r, n, ys, hF => by
    have ek : ∀ ρ : Nat → Int, (0 : Int) * ρ 0 + Int.ofNat k = (k : Int) := fun ρ => by show (0 : Int) * ρ 0 + (k : Int) = (k : Int); omega
    rcases hF with ⟨hz, ⟨e, x, f1, f2, f3⟩, hr⟩ | ⟨hz, y, zs, ey, ⟨e, x, f1, f2, f3⟩, f4, f5, hr⟩
    · obtain ⟨h1, h2⟩ := hp_fc_ok (F := r) n hr
      refine ⟨?_, fun ρ len hl hn hj q hq => ?_⟩
      · rw [hl_fc_t hz]
        exact h1
      · rw [hl_fc_t hz] at hq
        rcases List.mem_cons.mp hq with rfl | hq
        · refine Or.inr ⟨(show (0 : Nat) ≠ 9 by decide), hl, e, .int x, f1, ?_, ?_, hl, x, rfl, ?_⟩
          · show 0 ≤ (0 : Int) * ρ 0 + Int.ofNat k
            rw [ek]
            omega
          · show hb_get e ((0 : Int) * ρ 0 + Int.ofNat k).toNat = _
            rw [ek, Int.toNat_natCast]
            exact f2
          · show x.toInt = 0 * ρ 0 + lo
            omega
        · exact h2 ρ len hl hn hj q hq
    · subst ey
      obtain ⟨h1, h2⟩ := hp_fc_ok (F := r) (n + 1) hr
      refine ⟨?_, fun ρ len hl hn hj q hq => ?_⟩
      · rw [hl_fc_f hz]
        exact ⟨⟨f4, f5⟩, h1⟩
      · rw [hl_fc_f hz] at hq
        have hn' : n + (zs.length + 1) ≤ len := hn
        rcases List.mem_cons.mp hq with rfl | hq
        · have h0 : ρ n = y := hj 0 (by simp)
          refine Or.inr ⟨(show (0 : Nat) ≠ 9 by decide), hl, e, .int x, f1, ?_, ?_, by omega, x, rfl, ?_⟩
          · show 0 ≤ (0 : Int) * ρ 0 + Int.ofNat k
            rw [ek]
            omega
          · show hb_get e ((0 : Int) * ρ 0 + Int.ofNat k).toNat = _
            rw [ek, Int.toNat_natCast]
            exact f2
          · show x.toInt = 1 * ρ n + 0
            omega
        · refine h2 ρ len hl (by omega) (fun j hj' => ?_) q hq
          have := hj (j + 1) (by simp; omega)
          rw [show n + 1 + j = n + (j + 1) by omega]
          exact this
def hp_rho (l : List Int) : Nat → Int := fun i => (0 :: l).getD i 0
theorem hp_X0 {P : Nat × Nat × Nat → Prop} : ∀ q ∈ ([] : List (Nat × Nat × Nat)), P q := fun _ h => absurd h List.not_mem_nil
def hp_pre (root : Nat) (ts : List (Nat × Int × Int)) (F : List (Nat × Nat × Int × Int)) (X : hbE) (R : List (Nat × Nat × Int)) (Df Cx : List (Nat × Nat × Nat)) : hbV × List hbA × List (Nat × hbA × hbA) := (((0, 0) :: (ts.map (fun t => t.2) ++ ((hl_fc (ts.length + 1) F).1 ++ X)), R, Df), (2, 0, root, 0) :: hl_args 1 ts, (hl_fc (ts.length + 1) F).2 ++ Cx.map (fun q => (q.1, (0, 0, 0, .ofNat q.2.1), (0, 1, q.2.2, 0))))
theorem hp_pre_ok {root : Nat} {ts : List (Nat × Int × Int)} {F : List (Nat × Nat × Int × Int)} {X : hbE} {R : List (Nat × Nat × Int)} {Df Cx : List (Nat × Nat × Nat)} {As : List Value} {zs ys ds : List Int} {U S : Nat → Nat} {wd : va_W} (hA : hl_as ts As zs) (hF : hp_F U wd F ys) (hX : hl_rel X ds) (hR : hb_rels ((zs ++ (ys ++ ds)).length + 1) (hp_rho (zs ++ (ys ++ ds))) R) (hD : hb_defs ((zs ++ (ys ++ ds)).length + 1) (hp_rho (zs ++ (ys ++ ds))) Df) (hCx : ∀ q ∈ Cx, q.2.2 < (zs ++ (ys ++ ds)).length + 1 ∧ hp_at U wd q.1 q.2.1 (hp_rho (zs ++ (ys ++ ds)) q.2.2)) :
    hb_V (hp_rho (zs ++ (ys ++ ds))) (hp_pre root ts F X R Df Cx).1 ∧ 0 < (hp_pre root ts F X R Df Cx).1.1.length ∧ hb_stk (hp_pre root ts F X R Df Cx).1.1.length U S (hp_rho (zs ++ (ys ++ ds))) (hp_pre root ts F X R Df Cx).2.1 (.ref (U root) :: As) ∧ hb_cch (hp_pre root ts F X R Df Cx).1.1.length U S (hp_rho (zs ++ (ys ++ ds))) (hp_pre root ts F X R Df Cx).2.2 wd := by
  obtain ⟨h1, h2⟩ := hp_fc_ok (S := S) (ts.length + 1) hF
  have r1 := hl_as_rel hA
  have r2 := hl_rel_app r1 (hl_rel_app h1 hX)
  have l1 := hl_rel_len r1
  rw [List.length_map] at l1
  have hr : hl_rel (hp_pre root ts F X R Df Cx).1.1 (0 :: (zs ++ (ys ++ ds))) := ⟨⟨Int.le_refl _, Int.le_refl _⟩, r2⟩
  have hlen : (hp_pre root ts F X R Df Cx).1.1.length = (zs ++ (ys ++ ds)).length + 1 := hl_rel_len hr
  have hlen2 : (zs ++ (ys ++ ds)).length = zs.length + (ys.length + ds.length) := by simp
  have gz : ∀ j, j < zs.length → hp_rho (zs ++ (ys ++ ds)) (j + 1) = zs.getD j 0 := fun j hj => by
    show ((0 :: (zs ++ (ys ++ ds)))[j + 1]?).getD 0 = (zs[j]?).getD 0
    rw [List.getElem?_cons_succ, List.getElem?_append_left hj]
  have gy : ∀ j, j < ys.length → hp_rho (zs ++ (ys ++ ds)) (ts.length + 1 + j) = ys.getD j 0 := fun j hj => by
    rw [l1, show zs.length + 1 + j = (zs.length + j) + 1 by omega]
    show ((0 :: (zs ++ (ys ++ ds)))[(zs.length + j) + 1]?).getD 0 = (ys[j]?).getD 0
    rw [List.getElem?_cons_succ, List.getElem?_append_right (by omega), Nat.add_sub_cancel_left, List.getElem?_append_left hj]
  refine ⟨⟨hl_rel_env hr, by rw [hlen]; exact hR, by rw [hlen]; exact hD⟩, by rw [hlen]; exact Nat.succ_pos _, ⟨rfl, hl_as_stk (n := 1) hA (fun j hj => ⟨by rw [hlen, hlen2]; omega, ?_⟩)⟩, fun q hq => ?_⟩
  · rw [Nat.add_comm 1 j]
    exact gz j hj
  · rcases List.mem_append.mp hq with hq | hq
    · exact h2 _ _ (by rw [hlen]; exact Nat.succ_pos _) (by rw [hlen, hlen2, l1]; omega) gy q hq
    · obtain ⟨w, hw, rfl⟩ := List.mem_map.mp hq
      obtain ⟨c1, e, x, f1, f2, f3⟩ := hCx w hw
      have ek : (0 : Int) * hp_rho (zs ++ (ys ++ ds)) 0 + Int.ofNat w.2.1 = (w.2.1 : Int) := by show (0 : Int) * hp_rho (zs ++ (ys ++ ds)) 0 + (w.2.1 : Int) = (w.2.1 : Int); omega
      refine Or.inr ⟨(show (0 : Nat) ≠ 9 by decide), by rw [hlen]; exact Nat.succ_pos _, e, .int x, f1, ?_, ?_, by rw [hlen]; exact c1, x, rfl, ?_⟩
      · show 0 ≤ (0 : Int) * hp_rho (zs ++ (ys ++ ds)) 0 + Int.ofNat w.2.1
        rw [ek]
        omega
      · show hb_get e ((0 : Int) * hp_rho (zs ++ (ys ++ ds)) 0 + Int.ofNat w.2.1).toNat = _
        rw [ek, Int.toNat_natCast]
        exact f2
      · show x.toInt = 1 * hp_rho (zs ++ (ys ++ ds)) w.2.2 + 0
        omega
/-- the common facts' cells are not written -/
def hp_nm (q : hbQ) : Bool := hp_cells.all (fun c => !(hb_mem c q.2.2.2.1.2))
theorem hp_nm_ok {q : hbQ} (h : hp_nm q = true) : ∀ c ∈ hp_cells, c ∉ q.2.2.2.1.2 := fun c hc hm => by
  have h1 : (!(hb_mem c q.2.2.2.1.2)) = true := List.all_eq_true.mp h c hc
  rw [hp_mem hm] at h1
  cases h1
/-- every end knows this place: a constant; a number of the start -/
def hp_isC (q : hbQ) (c k : Nat) (v : Int) : Bool := q.2.2.1.all (fun z => match hb_ck z.1.2.2.2 c (0, 0, 0, .ofNat k) with
  | some a => Nat.beq a.1 0 && hb_z a.2.1 && hb_z (a.2.2.2 - v)
  | none => false)
def hp_isN (q : hbQ) (c k j : Nat) : Bool := Nat.blt j q.2.1.1.1.length && q.2.2.1.all (fun z => match hb_ck z.1.2.2.2 c (0, 0, 0, .ofNat k) with
  | some a => Nat.beq a.1 0 && hb_z (a.2.1 - 1) && Nat.beq a.2.2.1 j && hb_z a.2.2.2
  | none => false)
theorem hp_ck_at {n : Nat} {U S : Nat → Nat} {ρ : Nat → Int} {C : List (Nat × hbA × hbA)} {wd : va_W} {c k : Nat} {a : hbA} (h : hb_cch n U S ρ C wd) (hc : hb_ck C c (0, 0, 0, .ofNat k) = some a) (ht : Nat.beq a.1 0 = true) : hp_at U wd c k (a.2.1 * ρ a.2.2.1 + a.2.2.2) := by
  obtain ⟨ix', g1, g2, g3⟩ := hb_ck_mem hc
  obtain ⟨k1, e2, v, k2, k3, k4, k5⟩ := h.pl g1 g3
  dsimp only at k2 k4 k5
  have e0 : (0 : Int) * ρ 0 + Int.ofNat k = (k : Int) := by show (0 : Int) * ρ 0 + (k : Int) = (k : Int); omega
  have e1 := hb_ah_ok (ρ := ρ) g2
  dsimp only at e1
  rw [e1, e0, Int.toNat_natCast] at k4
  obtain ⟨-, x, ex, ev⟩ := k5.int ht
  rw [ex] at k4
  exact ⟨e2, x, k2, k4, ev⟩
theorem hp_isC_ok {q : hbQ} {z : hbS × List (Nat × Nat × Int)} {U S : Nat → Nat} {ρ : Nat → Int} {wd : va_W} {c k : Nat} {v : Int} (hz : z ∈ q.2.2.1) (hC : hb_cch z.1.1.1.length U S ρ z.1.2.2.2 wd) (h : hp_isC q c k v = true) : hp_at U wd c k v := by
  have h1 := List.all_eq_true.mp h z hz
  cases hb : hb_ck z.1.2.2.2 c (0, 0, 0, .ofNat k) with
  | none => rw [hb] at h1; cases h1
  | some a =>
    rw [hb] at h1
    obtain ⟨h1, h3⟩ := hb_and2 h1
    obtain ⟨h1, h2⟩ := hb_and2 h1
    have h4 := hp_ck_at hC hb h1
    have e1 := hb_z_t h2
    have e2 := hb_z_t h3
    rw [e1, show (0 : Int) * ρ a.2.2.1 + a.2.2.2 = v by omega] at h4
    exact h4
theorem hp_isN_ok {q : hbQ} {z : hbS × List (Nat × Nat × Int)} {U S : Nat → Nat} {ρ ρ' : Nat → Int} {wd : va_W} {c k j : Nat} (hz : z ∈ q.2.2.1) (hC : hb_cch z.1.1.1.length U S ρ' z.1.2.2.2 wd) (ha : hb_ag q.2.1.1.1.length ρ ρ') (h : hp_isN q c k j = true) : hp_at U wd c k (ρ j) := by
  obtain ⟨h0, h1⟩ := hb_and2 h
  have h1 := List.all_eq_true.mp h1 z hz
  cases hb : hb_ck z.1.2.2.2 c (0, 0, 0, .ofNat k) with
  | none => rw [hb] at h1; cases h1
  | some a =>
    rw [hb] at h1
    obtain ⟨h1, h4⟩ := hb_and2 h1
    obtain ⟨h1, h3⟩ := hb_and2 h1
    obtain ⟨h1, h2⟩ := hb_and2 h1
    have h5 := hp_ck_at hC hb h1
    have e1 := hb_z_t h2
    have e2 := Nat.eq_of_beq_eq_true h3
    have e3 := hb_z_t h4
    have e4 := ha j (hb_blt h0)
    rw [e2, e3, show a.2.1 = 1 by omega, e4, show (1 : Int) * ρ j + 0 = ρ j by omega] at h5
    exact h5
section HL
variable {p : Program} {l : Launch} {e : Env} {R : Room} {s : State} {m : MethodId} {args : Array Value} {below : List Frame} {meth : Method} {c : Code} {Q : State → Prop} {cc : ByteArray} {pc cells slots nL : Nat} {D : va_G} {U S : Nat → Nat} {wd : va_W} {y : hbY} {ls : Array Slot} {rest : List Value} {H : Heap} {locs : List Loc}
theorem hl_A (hh : hl_H0 D U s wd H locs) : ∀ q, va_A wd H.size q → s.heap.size ≤ q := by
  intro q hq
  rcases hq with ⟨k, e, hk⟩ | hq
  · exact hh.2.1.2 k (q, e) hk
  · exact Nat.le_trans hh.2.2.1.1 hq
/-- a call by a contract of the interpreter's -/
theorem hl_cB {q : hbQ} {root idx ci : Nat} {As st : List Value} {ρ : Nat → Int} {T : u_T} {N : Nat} (hx : p.tables.exec = Jvm.exec) (hb : c.code = cc) (hml : c.maxLocals = nL) (hown : s.vm.findClass "HopeBankLaw" = some m.cls) (hTw : ∀ w ∈ hb_G.2.1.1, w.before args s = true) (hGs : hb_Gs hb_G D (fun q => s.heap.size ≤ q) S s) (hh : hl_H0 D U s wd H locs) (hq : hb_Met hb_G q) (hy : hb_MT[q.1]? = some y) (r1 : hb_V ρ q.2.1.1) (r2 : 0 < q.2.1.1.1.length) (r3 : hb_stk q.2.1.1.1.length U S ρ q.2.1.2.1 (.ref (U root) :: As)) (r4 : hb_cch q.2.1.1.1.length U S ρ q.2.1.2.2 wd) (hok : hl_ok q R.frames R.locals y.2.2.1 = true) (hkd : (hb_KT[root]?).map (fun k => (k.1, k.2.1)) = some (0, ci)) (hr148 : root < 148) (hcl : vwCl[ci]? = some (y.1.cls, T, N))
    (hini : Cond.initialized y.1.cls ∈ hb_G.2.1.1) (hlink : Cond.methodLink "HopeBankLaw" idx y.1 ∈ hb_G.2.1.1) (hins : Cond.instanceMethod y.1 ∈ hb_G.2.1.1) (hsel : Cond.selects y.1.cls y.1 y.1 ∈ hb_G.2.1.1) (hnm : y.1.cls ≠ "java/lang/invoke/MethodHandle" ∧ y.1.cls ≠ "java/lang/invoke/VarHandle") (hnp : ∀ sig, parseMethodDescriptor y.1.desc = some sig → As.length = sig.parameters.length) (hsz : ls.size = nL) (hst : st = As.reverse ++ .ref (U root) :: rest) (hcat : (rest.map fun v => v.category).sum ≤ 8) (hcs : cells ≤ R.cells ∧ slots ≤ R.slots) (hdg : decode cc pc = .ok (.invokevirtual idx, 3))
    (kk : ∀ (v : Option Value) (wd1 : va_W) (H1 : Heap) (locs1 : List Loc) (ρ' : Nat → Int) (z : hbS × List (Nat × Nat × Int)), z ∈ q.2.2.1 → hb_ag q.2.1.1.1.length ρ ρ' → hb_V ρ' z.1.1 → hb_stk z.1.1.1.length U S ρ' z.1.2.2.1 v.toList → hb_cch z.1.1.1.length U S ρ' z.1.2.2.2 wd1 → hb_fr q.2.2.2.1.2 wd wd1 → hl_H0 D U s wd1 H1 locs1 → W p l e R s m args below meth c H1 locs1 cells slots Q (F0 m (pc + 3) ls (v.toList ++ rest))) : W p l e R s m args below meth c H locs cells slots Q (F0 m pc ls st) := by
  unfold hl_ok at hok
  obtain ⟨hok, c5⟩ := hb_and2 hok
  obtain ⟨hok, c4⟩ := hb_and2 hok
  obtain ⟨hok, c3⟩ := hb_and2 hok
  obtain ⟨c1, c2⟩ := hb_and2 hok
  have hM := hq y hy l D U S ρ wd H.size (.ref (U root) :: As) r1 r2 r3 r4
  have hcd : Cond.code y.1 y.2.1 y.2.2.1 y.2.2.2 ∈ hb_G.2.1.1 := hb_codeG y (List.mem_of_getElem? hy)
  have hA1 := hl_A hh
  obtain ⟨kd, ec, w1, w2, w3, w4⟩ := hh.2.2.2.1 root (List.mem_range.mpr hr148)
  rw [w1] at hkd
  have e1 : kd.1 = 0 ∧ kd.2.1 = ci := by
    have := Option.some.inj hkd
    exact ⟨congrArg Prod.fst this, congrArg Prod.snd this⟩
  obtain ⟨fs, e2, -⟩ := hb_sh0 w3.1 (by rw [e1.1]; rfl)
  subst e2
  rw [e1.2] at w2
  have hrec := va_recv hGs.1 hh.1 hcl w2
  have conv : Met l y.1 (.code y.1 y.2.1 y.2.2.1 y.2.2.2 :: hb_G.2.1.1) (hb_rm q) (va_Pc (.ref (U root) :: As) (hb_Pre hb_G D U S wd H.size q.2.2.2.1.1)) (fun _ st oc t => (∃ v, oc = .returned v ∧ ∃ (wd' : va_W) (ρ' : Nat → Int) (z : hbS × List (Nat × Nat × Int)), z ∈ q.2.2.1 ∧ hb_ag q.2.1.1.1.length ρ ρ' ∧ hb_V ρ' z.1.1 ∧ hb_stk z.1.1.1.length U S ρ' z.1.2.2.1 v.toList ∧ hb_cch z.1.1.1.length U S ρ' z.1.2.2.2 wd' ∧ va_P D vwCl wd' t.heap ∧ hb_wd hb_KT t U wd' q.2.2.2.1.1 ∧ hb_fr q.2.2.2.1.2 wd wd') ∧ va_F (va_A wd H.size) st t) 0 0 (va_A wd H.size) := by
    intro p' e' ha' hc' hk' s' m' args' below' hf' hfit hP' hK'
    obtain ⟨k', o', w1, w2, w3, ⟨⟨v, wd', ρ', z, p1, p2, p3, p4, p5, p6, p7, p8, p9, p10⟩, p11⟩, w5⟩ := hM p' e' ha' hc' hk' s' m' args' below' hf' hfit hP' hK'
    exact ⟨k', o', w1, w2, w3, ⟨⟨v, p2, wd', ρ', z, p1, p3, p5, p6, p7, p8, p9, p10⟩, p11⟩, w5⟩
  refine hc_callW (mc := 0) (ms := 0) (P := fun v t => ∃ (wd' : va_W) (ρ' : Nat → Int) (z : hbS × List (Nat × Nat × Int)), z ∈ q.2.2.1 ∧ hb_ag q.2.1.1.1.length ρ ρ' ∧ hb_V ρ' z.1.1 ∧ hb_stk z.1.1.1.length U S ρ' z.1.2.2.1 v.toList ∧ hb_cch z.1.1.1.length U S ρ' z.1.2.2.2 wd' ∧ va_P D vwCl wd' t.heap ∧ hb_wd hb_KT t U wd' q.2.2.2.1.1 ∧ hb_fr q.2.2.2.1.2 wd wd') (A1 := va_A wd H.size) (free := va_A wd H.size) (va_runV (C := y.1.cls) (b := U root) (As := As) (n := As.length) (index := idx) (rest := rest) ⟨hx, hb, hml, hown, hTw⟩ conv ⟨⟨rfl, rfl, Nat.le_of_ble_eq_true c3, Nat.le_of_ble_eq_true c4, hb_wsW hb_goodG hTw hcd, List.mem_cons_self, hTw _ hcd, hTw _ hini, hnm, hnp, hTw _ hlink⟩, hTw _ hins, hTw _ hsel⟩ ⟨hb_blind hb_GokG _ _ _ _ _ _ _, hrec, fun V hV hW => ⟨rfl, by rw [hV], by rw [hV]; exact hh.1, hh.2.1.weaken (fun _ _ _ _ => trivial), (hh.2.2.2.1.moved hW.alike).less (hb_subl_ok c1), hb_Gs.move hb_GokG hW (fun q' h1 h2 => by rw [hV]; exact hh.2.2.1.2.1 q' h1 h2) hA1 hGs⟩⟩ rfl rfl hsz hst (lv_room hcat) hdg ⟨by omega, by omega⟩) hh.2.2.1 (fun q _ hq => hA1 q hq) hA1 ?_
  intro v t H1 locs1 ht hvm hP hS
  obtain ⟨wd', ρ', z, p1, p3, p5, p6, p7, p8, p9, p10⟩ := hP
  have h4 := List.all_eq_true.mp c5 z p1
  obtain ⟨h4, d4⟩ := hb_and2 h4
  obtain ⟨h4, d3⟩ := hb_and2 h4
  obtain ⟨d1, d2⟩ := hb_and2 h4
  obtain ⟨i0, i1, i2, i3, i4⟩ := hh.2.2.2
  exact kk v wd' H1 locs1 ρ' z p1 p3 p5 p6 p7 p10 ⟨by rw [← ht]; exact p8, p10.D hh.2.1, hS, i0.back hvm.symm p9 p10 (hb_subl_ok c2), hl_md_ok i1 p10 p5 p7 d1, hl_md_ok i2 p10 p5 p7 d2, hl_md_ok i3 p10 p5 p7 d3, hl_md_ok i4 p10 p5 p7 d4⟩
theorem hl_h0 (hh : hl_H D U s wd H locs) : hl_H0 D U s wd H locs := ⟨hh.1, hh.2.1, hh.2.2.1, hh.2.2.2.1, hh.2.2.2.2.1, hh.2.2.2.2.2.1, hh.2.2.2.2.2.2.1, hh.2.2.2.2.2.2.2.1⟩
theorem hl_psi (hh : hl_H D U s wd H locs) : hp_Psi U wd := hh.2.2.2.2.2.2.2.2
theorem hl_h1 (hh : hl_H0 D U s wd H locs) (h : hp_Psi U wd) : hl_H D U s wd H locs := ⟨hh.1, hh.2.1, hh.2.2.1, hh.2.2.2.1, hh.2.2.2.2.1, hh.2.2.2.2.2.1, hh.2.2.2.2.2.2.1, hh.2.2.2.2.2.2.2, h⟩
/-- the answer is an int; is it a constant? -/
def hl_ret (q : hbQ) : Bool := q.2.2.1.all (fun z => match z.1.2.2.1 with
  | [a] => Nat.beq a.1 0
  | _ => false)
def hl_ans (q : hbQ) (k : Int) : Bool := q.2.2.1.all (fun z => match z.1.2.2.1 with
  | [a] => Nat.beq a.1 0 && hb_z a.2.1 && hb_z (a.2.2.2 - k)
  | _ => false)
theorem hl_cX {q : hbQ} {root idx ci : Nat} {ts : List (Nat × Int × Int)} {F : List (Nat × Nat × Int × Int)} {As st : List Value} {zs : List Int} {T : u_T} {N : Nat} (hx : p.tables.exec = Jvm.exec) (hb : c.code = cc) (hml : c.maxLocals = nL) (hown : s.vm.findClass "HopeBankLaw" = some m.cls) (hTw : ∀ w ∈ hb_G.2.1.1, w.before args s = true) (hGs : hb_Gs hb_G D (fun q => s.heap.size ≤ q) S s) (hh : hl_H D U s wd H locs) (hq : hb_Met hb_G q) (hy : hb_MT[q.1]? = some y) (hpre : q.2.1 = hl_pre root ts F) (hok : (hl_ret q && hp_nm q && hl_ok q R.frames R.locals y.2.2.1) = true) (hA : hl_as ts As zs) (hF : ∀ f ∈ F, hl_fact U wd f) (hkd : (hb_KT[root]?).map (fun k => (k.1, k.2.1)) = some (0, ci)) (hr148 : root < 148) (hcl : vwCl[ci]? = some (y.1.cls, T, N))
    (hini : Cond.initialized y.1.cls ∈ hb_G.2.1.1) (hlink : Cond.methodLink "HopeBankLaw" idx y.1 ∈ hb_G.2.1.1) (hins : Cond.instanceMethod y.1 ∈ hb_G.2.1.1) (hsel : Cond.selects y.1.cls y.1 y.1 ∈ hb_G.2.1.1) (hnm : y.1.cls ≠ "java/lang/invoke/MethodHandle" ∧ y.1.cls ≠ "java/lang/invoke/VarHandle") (hnp : ∀ sig, parseMethodDescriptor y.1.desc = some sig → As.length = sig.parameters.length) (hsz : ls.size = nL) (hst : st = As.reverse ++ .ref (U root) :: rest) (hcat : (rest.map fun v => v.category).sum ≤ 8) (hcs : cells ≤ R.cells ∧ slots ≤ R.slots) (hdg : decode cc pc = .ok (.invokevirtual idx, 3))
    (kk : ∀ (x : Int32) (wd1 : va_W) (H1 : Heap) (locs1 : List Loc), (∀ k, hl_ans q k = true → x.toInt = k) → hl_H D U s wd1 H1 locs1 → W p l e R s m args below meth c H1 locs1 cells slots Q (F0 m (pc + 3) ls (.int x :: rest))) : W p l e R s m args below meth c H locs cells slots Q (F0 m pc ls st) := by
  obtain ⟨hrt, hok⟩ := hb_and2 hok
  obtain ⟨hrt, hnw⟩ := hb_and2 hrt
  obtain ⟨ρ, r1, r2, r3, r4, -⟩ := hl_pre_ok (root := root) (S := S) hA hF
  rw [← hpre] at r1 r2 r3 r4
  refine hl_cB hx hb hml hown hTw hGs (hl_h0 hh) hq hy r1 r2 r3 r4 hok hkd hr148 hcl hini hlink hins hsel hnm hnp hsz hst hcat hcs hdg (fun v wd1 H1 locs1 ρ' z hz hag hV hs hC hfr hh1 => ?_)
  have hh1 := hl_h1 hh1 (hp_keep (fun c hc => (hfr c).2 (hp_nm_ok hnw c hc)) (hl_psi hh))
  have h1 := List.all_eq_true.mp hrt z hz
  cases hz1 : z.1.2.2.1 with
  | nil => rw [hz1] at h1; cases h1
  | cons a r =>
    cases r with
    | cons a2 r2 => rw [hz1] at h1; cases h1
    | nil =>
      rw [hz1] at h1 hs
      obtain ⟨v0, vs, e1, e2, e3⟩ := hb_stk.cons hs
      have e4 := hb_stk.nil e3
      subst e4
      obtain ⟨k1, x, e5, e6⟩ := e2.int h1
      subst e5
      have ev : v = some (.int x) := by
        cases v with
        | none => cases e1
        | some w => cases e1; rfl
      subst ev
      refine kk x wd1 H1 locs1 (fun k hk => ?_) hh1
      have h2 := List.all_eq_true.mp hk z hz
      rw [hz1] at h2
      obtain ⟨h2, h4⟩ := hb_and2 h2
      obtain ⟨-, h3⟩ := hb_and2 h2
      rw [e6, hb_z_t h3]
      have := hb_z_t h4
      omega
/-- a call by a contract of the interpreter's, all numbers told -/
theorem hl_cR {q : hbQ} {root idx ci : Nat} {ts : List (Nat × Int × Int)} {F : List (Nat × Nat × Int × Int)} {X : hbE} {Rl : List (Nat × Nat × Int)} {Df Cx : List (Nat × Nat × Nat)} {As st : List Value} {zs ys ds : List Int} {T : u_T} {N : Nat} (hx : p.tables.exec = Jvm.exec) (hb : c.code = cc) (hml : c.maxLocals = nL) (hown : s.vm.findClass "HopeBankLaw" = some m.cls) (hTw : ∀ w ∈ hb_G.2.1.1, w.before args s = true) (hGs : hb_Gs hb_G D (fun q => s.heap.size ≤ q) S s) (hh : hl_H0 D U s wd H locs) (hq : hb_Met hb_G q) (hy : hb_MT[q.1]? = some y) (hpre : q.2.1 = hp_pre root ts F X Rl Df Cx) (hok : (hl_ret q && hl_ok q R.frames R.locals y.2.2.1) = true) (hA : hl_as ts As zs) (hF : hp_F U wd F ys) (hX : hl_rel X ds) (hR : hb_rels ((zs ++ (ys ++ ds)).length + 1) (hp_rho (zs ++ (ys ++ ds))) Rl) (hDf : hb_defs ((zs ++ (ys ++ ds)).length + 1) (hp_rho (zs ++ (ys ++ ds))) Df) (hCx : ∀ q ∈ Cx, q.2.2 < (zs ++ (ys ++ ds)).length + 1 ∧ hp_at U wd q.1 q.2.1 (hp_rho (zs ++ (ys ++ ds)) q.2.2)) (hkd : (hb_KT[root]?).map (fun k => (k.1, k.2.1)) = some (0, ci)) (hr148 : root < 148) (hcl : vwCl[ci]? = some (y.1.cls, T, N))
    (hini : Cond.initialized y.1.cls ∈ hb_G.2.1.1) (hlink : Cond.methodLink "HopeBankLaw" idx y.1 ∈ hb_G.2.1.1) (hins : Cond.instanceMethod y.1 ∈ hb_G.2.1.1) (hsel : Cond.selects y.1.cls y.1 y.1 ∈ hb_G.2.1.1) (hnm : y.1.cls ≠ "java/lang/invoke/MethodHandle" ∧ y.1.cls ≠ "java/lang/invoke/VarHandle") (hnp : ∀ sig, parseMethodDescriptor y.1.desc = some sig → As.length = sig.parameters.length) (hsz : ls.size = nL) (hst : st = As.reverse ++ .ref (U root) :: rest) (hcat : (rest.map fun v => v.category).sum ≤ 8) (hcs : cells ≤ R.cells ∧ slots ≤ R.slots) (hdg : decode cc pc = .ok (.invokevirtual idx, 3))
    (kk : ∀ (x : Int32) (wd1 : va_W) (H1 : Heap) (locs1 : List Loc), (∀ k, hl_ans q k = true → x.toInt = k) → (∀ c, hb_mem c q.2.2.2.1.2 = false → wd1[c]? = wd[c]?) → (∀ (c k : Nat) (v : Int), hp_isC q c k v = true → hp_at U wd1 c k v) → (∀ c k j : Nat, hp_isN q c k j = true → hp_at U wd1 c k (hp_rho (zs ++ (ys ++ ds)) j)) → hl_H0 D U s wd1 H1 locs1 → W p l e R s m args below meth c H1 locs1 cells slots Q (F0 m (pc + 3) ls (.int x :: rest))) : W p l e R s m args below meth c H locs cells slots Q (F0 m pc ls st) := by
  obtain ⟨hrt, hok⟩ := hb_and2 hok
  obtain ⟨r1, r2, r3, r4⟩ := hp_pre_ok (root := root) (S := S) hA hF hX hR hDf hCx
  rw [← hpre] at r1 r2 r3 r4
  refine hl_cB hx hb hml hown hTw hGs hh hq hy r1 r2 r3 r4 hok hkd hr148 hcl hini hlink hins hsel hnm hnp hsz hst hcat hcs hdg (fun v wd1 H1 locs1 ρ' z hz hag hV hs hC hfr hh1 => ?_)
  have h1 := List.all_eq_true.mp hrt z hz
  cases hz1 : z.1.2.2.1 with
  | nil => rw [hz1] at h1; cases h1
  | cons a r =>
    cases r with
    | cons a2 r2 => rw [hz1] at h1; cases h1
    | nil =>
      rw [hz1] at h1 hs
      obtain ⟨v0, vs, e1, e2, e3⟩ := hb_stk.cons hs
      have e4 := hb_stk.nil e3
      subst e4
      obtain ⟨k1, x, e5, e6⟩ := e2.int h1
      subst e5
      have ev : v = some (.int x) := by
        cases v with
        | none => cases e1
        | some w => cases e1; rfl
      subst ev
      refine kk x wd1 H1 locs1 (fun k hk => ?_) (fun c hc => (hfr c).2 (hp_nmem hc)) (fun c k v h => hp_isC_ok hz hC h) (fun c k j h => hp_isN_ok hz hC hag h) hh1
      have h2 := List.all_eq_true.mp hk z hz
      rw [hz1] at h2
      obtain ⟨h2, h4⟩ := hb_and2 h2
      obtain ⟨-, h3⟩ := hb_and2 h2
      rw [e6, hb_z_t h3]
      have := hb_z_t h4
      omega
/-- an argument out of the script -/
theorem hl_arg {b L i k : Nat} {kf : Int} {xs : Nat → Int32} (hx : p.tables.exec = Jvm.exec) (hb : c.code = cc) (hX : va_X b L xs s s.heap) (hbl : b < s.heap.size) (hh : hl_H D U s wd H locs) (h0 : ls[0]? = some (.val (.ref b))) (h3 : ls[3]? = some (.val (.int (nI i)))) (hi : i + k < L) (hL : L ≤ 3072) (d0 : decode cc pc = .ok (.aload_n 0, 1)) (d1 : decode cc (pc + 1) = .ok (.iload_n 3, 1)) (d2 : decode cc (pc + 2) = .ok (.iconst kf, 1)) (hk : Int32.ofInt kf = nI k) (d3 : decode cc (pc + 3) = .ok (.iadd, 1)) (d4 : decode cc (pc + 4) = .ok (.iaload, 1))
    (kk : W p l e R s m args below meth c H locs cells slots Q (F0 m (pc + 5) ls (.int (xs (i + k)) :: rest))) : W p l e R s m args below meth c H locs cells slots Q (F0 m pc ls rest) := by
  refine lv_aload_n hx hb d0 rfl h0 ?_
  refine lv_iload_n hx hb d1 rfl h3 ?_
  refine lv_iconst (v := nI k) hx hb d2 hk ?_
  refine lv_iadd hx hb d3 ?_
  rw [nI_add]
  refine va_sld hx hb hX hbl (Nat.not_le.mpr hbl) hh.2.2.1 (nI_in hi (by omega)) d4 ?_
  rw [nI_clamp (by omega)]
  exact kk
/-- an argument out of the script -/
theorem hl_arg0 {b L i k : Nat} {kf : Int} {xs : Nat → Int32} (hx : p.tables.exec = Jvm.exec) (hb : c.code = cc) (hX : va_X b L xs s s.heap) (hbl : b < s.heap.size) (hh : hl_H0 D U s wd H locs) (h0 : ls[0]? = some (.val (.ref b))) (h3 : ls[3]? = some (.val (.int (nI i)))) (hi : i + k < L) (hL : L ≤ 3072) (d0 : decode cc pc = .ok (.aload_n 0, 1)) (d1 : decode cc (pc + 1) = .ok (.iload_n 3, 1)) (d2 : decode cc (pc + 2) = .ok (.iconst kf, 1)) (hk : Int32.ofInt kf = nI k) (d3 : decode cc (pc + 3) = .ok (.iadd, 1)) (d4 : decode cc (pc + 4) = .ok (.iaload, 1))
    (kk : W p l e R s m args below meth c H locs cells slots Q (F0 m (pc + 5) ls (.int (xs (i + k)) :: rest))) : W p l e R s m args below meth c H locs cells slots Q (F0 m pc ls rest) := by
  refine lv_aload_n hx hb d0 rfl h0 ?_
  refine lv_iload_n hx hb d1 rfl h3 ?_
  refine lv_iconst (v := nI k) hx hb d2 hk ?_
  refine lv_iadd hx hb d3 ?_
  rw [nI_add]
  refine va_sld hx hb hX hbl (Nat.not_le.mpr hbl) hh.2.2.1 (nI_in hi (by omega)) d4 ?_
  rw [nI_clamp (by omega)]
  exact kk
end HL
