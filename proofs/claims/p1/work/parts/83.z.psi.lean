/-! hp_: the start: places of both objects -/
def hp_all (U : Nat → Nat) (wd : va_W) (F : List (Nat × Nat × Int)) : Prop := ∀ f ∈ F, hp_at U wd f.1 f.2.1 f.2.2
theorem hp_alln {U : Nat → Nat} {wd : va_W} : hp_all U wd [] := fun _ h => absurd h List.not_mem_nil
theorem hp_allc {U : Nat → Nat} {wd : va_W} {c k : Nat} {v : Int} {F : List (Nat × Nat × Int)} (h : hp_at U wd c k v) (hF : hp_all U wd F) : hp_all U wd ((c, k, v) :: F) := fun f hf => (List.mem_cons.mp hf).elim (fun e => by rw [e]; exact h) (hF f)
theorem hp_all.keep {U : Nat → Nat} {wd wd1 : va_W} {F : List (Nat × Nat × Int)} (h : hp_all U wd F) (hw : ∀ f ∈ F, wd1[f.1]? = wd[f.1]?) : hp_all U wd1 F := fun f hf => (h f hf).keep (hw f hf)
/-- kept by a call that doesn't write these cells -/
theorem hp_allk {U : Nat → Nat} {wd wd1 : va_W} {G : List (Nat × Nat × Int)} {ms : List Nat} (h : hp_all U wd G) (hk : ∀ c, hb_mem c ms = false → wd1[c]? = wd[c]?) (hb : G.all (fun g => !(hb_mem g.1 ms)) = true) : hp_all U wd1 G := h.keep (fun f hf => hk f.1 (by
  have h1 : (!(hb_mem f.1 ms)) = true := List.all_eq_true.mp hb f hf
  cases hm : hb_mem f.1 ms with
  | false => rfl
  | true => rw [hm] at h1; cases h1))
def hp_has (G : List (Nat × Nat × Int)) (c k : Nat) (v : Int) : Bool := G.any (fun g => Nat.beq g.1 c && Nat.beq g.2.1 k && hb_z (g.2.2 - v))
theorem hp_has_ok {U : Nat → Nat} {wd : va_W} {G : List (Nat × Nat × Int)} {c k : Nat} {v : Int} (h : hp_all U wd G) (hb : hp_has G c k v = true) : hp_at U wd c k v := by
  have hb' : G.any (fun g => Nat.beq g.1 c && Nat.beq g.2.1 k && hb_z (g.2.2 - v)) = true := hb
  obtain ⟨g, hg, h1⟩ := List.any_eq_true.mp hb'
  have h1 : (Nat.beq g.1 c && Nat.beq g.2.1 k && hb_z (g.2.2 - v)) = true := h1
  obtain ⟨h1, h4⟩ := hb_and2 h1
  obtain ⟨h2, h3⟩ := hb_and2 h1
  have e1 := Nat.eq_of_beq_eq_true h2
  have e2 := Nat.eq_of_beq_eq_true h3
  have e3 := hb_z_t h4
  have h5 := h g hg
  rw [e1, e2, show g.2.2 = v by omega] at h5
  exact h5
def hp_FC : List (Nat × Nat × Int) := [(0, 3, 0), (119, 0, (-1)), (119, 1, (-1)), (119, 2, (-1)), (119, 3, (-1)), (19, 7, 0), (20, 2, 0), (22, 2, 0), (24, 2, 0), (26, 2, 0), (28, 2, 0), (30, 2, 0), (1, 1, 0), (1, 3, 0), (1, 4, (-1))]
def hp_FM : List (Nat × Nat × Int) := [(124, 5, 0), (124, 12, 0), (124, 13, (-1)), (125, 0, 0), (125, 1, 0), (125, 2, 0), (125, 3, 0), (125, 4, 0), (125, 5, 0), (125, 6, 0), (125, 7, 0), (125, 8, 0), (125, 9, 0), (126, 5, 0), (126, 127, 0), (126, 249, 0), (127, 0, 0), (127, 1, 0), (127, 2, 0), (144, 0, (-1)), (144, 1, (-1)), (144, 2, (-1)), (144, 3, (-1))]
def hp_Psi (U : Nat → Nat) (wd : va_W) : Prop := hp_all U wd hp_FC ∧ hp_all U wd hp_FM
def hp_cells : List Nat := [0, 1, 19, 20, 22, 24, 26, 28, 30, 119, 124, 125, 126, 127, 144]
theorem hp_keep {U : Nat → Nat} {wd wd1 : va_W} (hw : ∀ c ∈ hp_cells, wd1[c]? = wd[c]?) (h : hp_Psi U wd) : hp_Psi U wd1 :=
  ⟨h.1.keep (fun f hf => hw f.1 ((show ∀ f ∈ hp_FC, f.1 ∈ hp_cells by decide +kernel) f hf)), h.2.keep (fun f hf => hw f.1 ((show ∀ f ∈ hp_FM, f.1 ∈ hp_cells by decide +kernel) f hf))⟩
