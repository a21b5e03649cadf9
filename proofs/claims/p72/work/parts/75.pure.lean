/-! hm_: what layUnheard lays, in numbers -/
def hm_pr : Nat → Int32
  | 0 => -1
  | j + 1 => nI j
theorem hm_pr_dec (j : Nat) : nI j + Int32.ofInt (-1) = hm_pr j := by
  cases j with
  | zero => decide
  | succ j =>
    have e := nI_pred j
    rw [Int32.sub_eq_add_neg] at e
    exact e
theorem hm_pr_top (n : Nat) (h : 0 < n) : nI (n - 1) = hm_pr n := by
  cases n with
  | zero => omega
  | succ n => rfl
def hm_up (M : Nat → Nat) (s v : Nat) : Nat → Nat := fun j => if j = s then v else M j
theorem hm_up_s (M : Nat → Nat) (s v : Nat) : hm_up M s v s = v := by unfold hm_up; rw [if_pos rfl]
theorem hm_up_n (M : Nat → Nat) {s j : Nat} (v : Nat) (h : j ≠ s) : hm_up M s v j = M j := by unfold hm_up; rw [if_neg h]
theorem hm_or_ge (s k : Nat) : s ≤ s ||| 2 ^ k := Nat.left_le_or
theorem hm_or_gt {s k : Nat} (h : s.testBit k = false) : s < s ||| 2 ^ k := by
  have h1 := hm_or_ge s k
  have h2 : s ≠ s ||| 2 ^ k := fun q => by
    have : (s ||| 2 ^ k).testBit k = true := by rw [Nat.testBit_or, Nat.testBit_two_pow_self, Bool.or_true]
    rw [← q, h] at this
    cases this
  omega
theorem hm_or_lt {s k N : Nat} (hs : s < 2 ^ N) (hk : k < N) : s ||| 2 ^ k < 2 ^ N := Nat.or_lt_two_pow hs (Nat.pow_lt_pow_right (by decide) hk)
theorem hm_p8 {N : Nat} (h : N ≤ 8) : 2 ^ N ≤ 256 := Nat.pow_le_pow_right (n := 2) (j := 8) (by decide) h
def hm_wit (u : Nat → Nat → Bool) (M : Nat → Nat) (s k : Nat) : Prop := M s = 0 ∨ ∃ h, h < k ∧ u h s = true ∧ M (s ||| 2 ^ h) + 1 = M s
def hm_mo (u : Nat → Nat → Bool) (N : Nat) (M : Nat → Nat) (j : Nat) : Prop := ∀ s, j ≤ s → s < 2 ^ N → M s ≤ 255 - s ∧ hm_wit u M s N
def hm_inn (u : Nat → Nat → Bool) (N : Nat) (M : Nat → Nat) (s k : Nat) : Prop := hm_mo u N M (s + 1) ∧ M s ≤ 255 - s ∧ hm_wit u M s k
theorem hm_inn_skip {u : Nat → Nat → Bool} {N : Nat} {M : Nat → Nat} {s k : Nat} (h : hm_inn u N M s k) : hm_inn u N M s (k + 1) := by
  refine ⟨h.1, h.2.1, ?_⟩
  rcases h.2.2 with q | ⟨a, q1, q2⟩
  · exact Or.inl q
  · exact Or.inr ⟨a, by omega, q2⟩
theorem hm_inn_end {u : Nat → Nat → Bool} {N : Nat} {M : Nat → Nat} {s : Nat} (h : hm_inn u N M s N) : hm_mo u N M s := by
  intro s' h1 h2
  rcases (show s' = s ∨ s + 1 ≤ s' by omega) with q | q
  · subst q
    exact h.2
  · exact h.1 s' q h2
theorem hm_mo_new {u : Nat → Nat → Bool} {N : Nat} {M : Nat → Nat} {s : Nat} (h : hm_mo u N M (s + 1)) : hm_inn u N (hm_up M s 0) s 0 := by
  refine ⟨fun s' h1 h2 => ?_, by rw [hm_up_s]; omega, Or.inl (hm_up_s M s 0)⟩
  obtain ⟨a, b⟩ := h s' h1 h2
  unfold hm_wit
  rw [hm_up_n M 0 (by omega)]
  refine ⟨a, ?_⟩
  rcases b with b | ⟨z, b1, b2, b3⟩
  · exact Or.inl b
  · have := hm_or_ge s' z
    exact Or.inr ⟨z, b1, b2, by rw [hm_up_n M 0 (by omega)]; exact b3⟩
theorem hm_inn_upd {u : Nat → Nat → Bool} {N : Nat} {M : Nat → Nat} {s k : Nat} (hu : ∀ h s, u h s = true → s.testBit h = false) (h8 : 2 ^ N ≤ 256) (hs : s < 2 ^ N) (hk : k < N) (hy : u k s = true) (h : hm_inn u N M s k) : hm_inn u N (hm_up M s (max (M s) (M (s ||| 2 ^ k) + 1))) s (k + 1) := by
  obtain ⟨h1, h2, h3⟩ := h
  have g1 := hm_or_gt (hu k s hy)
  have g2 := hm_or_lt hs hk
  obtain ⟨a1, -⟩ := h1 (s ||| 2 ^ k) (by omega) g2
  refine ⟨fun s' q1 q2 => ?_, ?_, ?_⟩
  · obtain ⟨a, b⟩ := h1 s' q1 q2
    unfold hm_wit
    rw [hm_up_n M _ (by omega)]
    refine ⟨a, ?_⟩
    rcases b with b | ⟨z, b1, b2, b3⟩
    · exact Or.inl b
    · have := hm_or_ge s' z
      exact Or.inr ⟨z, b1, b2, by rw [hm_up_n M _ (by omega)]; exact b3⟩
  · rw [hm_up_s]
    omega
  · unfold hm_wit
    rw [hm_up_s]
    rcases (show M (s ||| 2 ^ k) + 1 ≤ M s ∨ M s < M (s ||| 2 ^ k) + 1 by omega) with z | z
    · rw [Nat.max_eq_left z]
      rcases h3 with q | ⟨a, b1, b2, b3⟩
      · exact Or.inl q
      · have := hm_or_gt (hu a s b2)
        exact Or.inr ⟨a, by omega, b2, by rw [hm_up_n M _ (by omega)]; exact b3⟩
    · rw [Nat.max_eq_right (by omega)]
      exact Or.inr ⟨k, by omega, hy, by rw [hm_up_n M _ (by omega)]⟩
theorem hm_unh_bit {f : Nat → Int32} {N q : Nat} : ∀ h s, hw_unhB f N h q s = true → s.testBit h = false := by
  intro h s e
  unfold hw_unhB at e
  cases hb : s.testBit h with
  | false => rfl
  | true => rw [hb] at e; cases e
theorem hm_nmax {a b : Nat} (ha : a < 2147483648) (hb : b < 2147483648) : (if nI a < nI b then nI b else nI a) = nI (max a b) := by
  by_cases h : a < b
  · rw [if_pos (nI_lt h (by omega)), Nat.max_eq_right (by omega)]
  · rw [if_neg (nI_nlt (by omega) (by omega)), Nat.max_eq_left (by omega)]
theorem hm_rng (x : Int32) : (-2147483648 : Int) ≤ x.toInt ∧ x.toInt ≤ (2147483647 : Int) := by
  have := fb_rng x
  omega
theorem hm_in32 {x y : Int32} (h : hw_in x.toInt64 0 y.toInt64 = true) : 0 ≤ x.toInt ∧ x.toInt ≤ y.toInt := by
  unfold hw_in at h
  rw [Bool.and_eq_true] at h
  have h1 := of_decide_eq_true h.1
  have h2 := of_decide_eq_true h.2
  rw [Int32.toInt_toInt64] at h1 h2
  rw [Int32.toInt_toInt64] at h2
  exact ⟨h1, h2⟩
/-- an index that the reference has tested -/
theorem hm_inN {x y : Int32} {n : Nat} (hy : y = nI n) (hn : n < 2147483648) (h : hw_in x.toInt64 0 (y - nI 1).toInt64 = true) : ∃ k, k < n ∧ x = nI k := by
  obtain ⟨h1, h2⟩ := hm_in32 h
  have e1 : (nI 1).toInt = 1 := by decide
  have ey : y.toInt = (n : Int) := hw_toI hy hn
  rw [fb_subI (by omega) (by omega), e1, ey] at h2
  refine ⟨x.toInt.toNat, by omega, ?_⟩
  exact hb_toI (by omega)
