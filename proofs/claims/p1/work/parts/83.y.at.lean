/-! hp_: single places of the world, and their numbers -/
def hp_at (U : Nat → Nat) (wd : va_W) (c k : Nat) (v : Int) : Prop := ∃ (e : va_E) (x : Int32), wd[c]? = some (U c, e) ∧ hb_get e k = some (.int x) ∧ x.toInt = v
theorem hp_at.keep {U : Nat → Nat} {wd wd1 : va_W} {c k : Nat} {v : Int} (h : hp_at U wd c k v) (hw : wd1[c]? = wd[c]?) : hp_at U wd1 c k v := by
  obtain ⟨e, x, h1, h2, h3⟩ := h
  exact ⟨e, x, hw.trans h1, h2, h3⟩
theorem hp_mem {c : Nat} {mods : List Nat} (q : c ∈ mods) : hb_mem c mods = true := by
  induction mods with
  | nil => cases q
  | cons d r ih =>
    unfold hb_mem
    rcases List.mem_cons.mp q with z | z
    · rw [z]; simp
    · rw [ih z, Bool.or_true]
theorem hp_nmem {c : Nat} {mods : List Nat} (h : hb_mem c mods = false) : c ∉ mods := fun q => by
  rw [hp_mem q] at h
  cases h
