/-! hp_: the rows that both objects have: widths and lengths -/
def hp_cells : List Nat := [119, 120, 144, 145]
def hp_S (U : Nat → Nat) (wd : va_W) (j : Nat) : Prop := (hp_at U wd 119 j (-1) ∧ hp_at U wd 144 j (-1)) ∨ ∃ w n : Int, (0 ≤ w ∧ w ≤ 3) ∧ (0 ≤ n ∧ n ≤ 60) ∧ hp_at U wd 119 j w ∧ hp_at U wd 145 j w ∧ hp_at U wd 120 j n ∧ hp_at U wd 144 j n
def hp_Psi (U : Nat → Nat) (wd : va_W) : Prop := hp_S U wd 0 ∧ hp_S U wd 1 ∧ hp_S U wd 2 ∧ hp_S U wd 3
/-- this place holds what it held -/
def hp_un (U : Nat → Nat) (wd wd1 : va_W) (c k : Nat) : Prop := ∀ v, hp_at U wd c k v → hp_at U wd1 c k v
theorem hp_unk {U : Nat → Nat} {wd wd1 : va_W} {c k : Nat} (hw : wd1[c]? = wd[c]?) : hp_un U wd wd1 c k := fun _ h => h.keep hw
theorem hp_unv {U : Nat → Nat} {wd wd1 : va_W} {c k : Nat} {v : Int} (h : hp_at U wd c k v) (h1 : hp_at U wd1 c k v) : hp_un U wd wd1 c k := fun u hu => by
  obtain ⟨e, x, a1, a2, a3⟩ := h
  obtain ⟨e', x', b1, b2, b3⟩ := hu
  rw [a1] at b1
  cases b1
  rw [a2] at b2
  cases b2
  rw [← b3, a3]
  exact h1
theorem hp_un.trans {U : Nat → Nat} {wd wd1 wd2 : va_W} {c k : Nat} (h : hp_un U wd wd1 c k) (h1 : hp_un U wd1 wd2 c k) : hp_un U wd wd2 c k := fun v hv => h1 v (h v hv)
theorem hp_S.un {U : Nat → Nat} {wd wd1 : va_W} {j : Nat} (h : hp_S U wd j) (a : hp_un U wd wd1 119 j) (b : hp_un U wd wd1 120 j) (c : hp_un U wd wd1 144 j) (d : hp_un U wd wd1 145 j) : hp_S U wd1 j := by
  rcases h with ⟨h1, h2⟩ | ⟨w, n, hw, hn, h1, h2, h3, h4⟩
  · exact Or.inl ⟨a _ h1, c _ h2⟩
  · exact Or.inr ⟨w, n, hw, hn, a _ h1, d _ h2, b _ h3, c _ h4⟩
theorem hp_keep {U : Nat → Nat} {wd wd1 : va_W} (hw : ∀ c ∈ hp_cells, wd1[c]? = wd[c]?) (h : hp_Psi U wd) : hp_Psi U wd1 := by
  have k0 := hw 119 (by decide +kernel)
  have k1 := hw 120 (by decide +kernel)
  have k2 := hw 144 (by decide +kernel)
  have k3 := hw 145 (by decide +kernel)
  have key : ∀ j, hp_S U wd j → hp_S U wd1 j := fun j hj => hj.un (hp_unk k0) (hp_unk k1) (hp_unk k2) (hp_unk k3)
  exact ⟨key 0 h.1, key 1 h.2.1, key 2 h.2.2.1, key 3 h.2.2.2⟩
