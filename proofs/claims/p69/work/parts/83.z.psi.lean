/-! hp_: which images both objects have kept -/
def hp_cells : List Nat := [0, 127]
def hp_K (U : Nat → Nat) (wd : va_W) (K b0 b1 b2 : Int) : Prop := hp_at U wd 0 3 K ∧ hp_at U wd 127 0 b0 ∧ hp_at U wd 127 1 b1 ∧ hp_at U wd 127 2 b2
def hp_Psi (U : Nat → Nat) (wd : va_W) : Prop := hp_K U wd 0 0 0 0 ∨ hp_K U wd 1 1 0 0 ∨ hp_K U wd 2 0 1 0 ∨ hp_K U wd 3 1 1 0 ∨ hp_K U wd 4 0 0 1 ∨ hp_K U wd 5 1 0 1 ∨ hp_K U wd 6 0 1 1 ∨ hp_K U wd 7 1 1 1
theorem hp_K.keep {U : Nat → Nat} {wd wd1 : va_W} {K b0 b1 b2 : Int} (k0 : wd1[0]? = wd[0]?) (k1 : wd1[127]? = wd[127]?) (h : hp_K U wd K b0 b1 b2) : hp_K U wd1 K b0 b1 b2 := ⟨h.1.keep k0, h.2.1.keep k1, h.2.2.1.keep k1, h.2.2.2.keep k1⟩
theorem hp_keep {U : Nat → Nat} {wd wd1 : va_W} (hw : ∀ c ∈ hp_cells, wd1[c]? = wd[c]?) (h : hp_Psi U wd) : hp_Psi U wd1 := by
  have k0 := hw 0 (by decide +kernel)
  have k1 := hw 127 (by decide +kernel)
  rcases h with h | h | h | h | h | h | h | h
  · exact Or.inl (h.keep k0 k1)
  · exact Or.inr (Or.inl (h.keep k0 k1))
  · exact Or.inr (Or.inr (Or.inl (h.keep k0 k1)))
  · exact Or.inr (Or.inr (Or.inr (Or.inl (h.keep k0 k1))))
  · exact Or.inr (Or.inr (Or.inr (Or.inr (Or.inl (h.keep k0 k1)))))
  · exact Or.inr (Or.inr (Or.inr (Or.inr (Or.inr (Or.inl (h.keep k0 k1))))))
  · exact Or.inr (Or.inr (Or.inr (Or.inr (Or.inr (Or.inr (Or.inl (h.keep k0 k1)))))))
  · exact Or.inr (Or.inr (Or.inr (Or.inr (Or.inr (Or.inr (Or.inr (h.keep k0 k1)))))))
