/-! hp_: what layPacks lays, in sets -/
def hp_sub (a b : Nat) : Prop := ∀ i, a.testBit i = true → b.testBit i = true
theorem hp_sub_and {a b : Nat} (h : hp_sub a b) : a &&& b = a := by
  apply Nat.eq_of_testBit_eq
  intro i
  rw [Nat.testBit_and]
  cases ha : a.testBit i with
  | false => rfl
  | true => rw [h i ha]; rfl
theorem hp_sub_lt {a b n : Nat} (h : hp_sub a b) (hb : b < 2 ^ n) : a < 2 ^ n := by
  rw [← hp_sub_and h]
  exact Nat.and_lt_two_pow a hb
theorem hp_sub_le {a b : Nat} (h : hp_sub a b) : a ≤ b := by
  rw [← hp_sub_and h]
  exact Nat.and_le_right
theorem hp_sub_half {a b : Nat} (h : hp_sub a b) : hp_sub (a / 2) (b / 2) := fun i hi => by
  rw [Nat.testBit_div_two] at hi ⊢
  exact h _ hi
theorem hp_sub_odd {a b : Nat} (h : hp_sub a b) (ha : a % 2 = 1) : b % 2 = 1 := by
  have h1 := h 0 (by rw [Nat.testBit_zero]; exact decide_eq_true ha)
  rw [Nat.testBit_zero] at h1
  exact of_decide_eq_true h1
theorem hp_next : ∀ (n s o t : Nat), s < 2 ^ n → hp_sub o s → hp_sub t s → t < o → t ≤ (o - 1) &&& s
  | 0, s, o, t, hs, ho, ht, hlt => by
    have h1 := hp_sub_le ho
    have e : (2 : Nat) ^ 0 = 1 := rfl
    omega
  | n + 1, s, o, t, hs, ho, ht, hlt => by
    have ih := hp_next n (s / 2) (o / 2) (t / 2) (by rw [Nat.pow_succ] at hs; omega) (hp_sub_half ho) (hp_sub_half ht)
    have d1 : ((o - 1) &&& s) / 2 = (o - 1) / 2 &&& s / 2 := Nat.and_div_two
    have m1 : ((o - 1) &&& s) % 2 = 1 ↔ (o - 1) % 2 = 1 ∧ s % 2 = 1 := Nat.and_mod_two_eq_one
    have t1 := hp_sub_odd ht
    generalize (o - 1) &&& s = x at d1 m1 ⊢
    rcases (show o % 2 = 1 ∨ o % 2 = 0 by omega) with q | q
    · have e1 : (o - 1) / 2 = o / 2 := by omega
      rw [e1, hp_sub_and (hp_sub_half ho)] at d1
      omega
    · have e1 : (o - 1) / 2 = o / 2 - 1 := by omega
      rw [e1] at d1
      have e2 : (o - 1) % 2 = 1 := by omega
      have h3 := ih (by omega)
      rw [← d1] at h3
      by_cases ts : t % 2 = 1
      · have h4 := m1.mpr ⟨e2, t1 ts⟩
        omega
      · omega
theorem hp_and_sub (a b : Nat) : hp_sub (a &&& b) b := fun i hi => by
  rw [Nat.testBit_and, Bool.and_eq_true] at hi
  exact hi.2
theorem hp_sub_rf (a : Nat) : hp_sub a a := fun _ h => h
theorem hp_df_sub (a b : Nat) : hp_sub (hw_df a b) a := fun i hi => by
  rw [hw_df_bit, Bool.and_eq_true] at hi
  exact hi.1
theorem hp_df_le (a b : Nat) : hw_df a b ≤ a := hp_sub_le (hp_df_sub a b)
theorem hp_df_z {a b : Nat} : hw_df a b = 0 ↔ hp_sub a b := by
  constructor
  · intro h i hi
    have h1 : (hw_df a b).testBit i = false := by rw [h, Nat.zero_testBit]
    rw [hw_df_bit, hi] at h1
    cases hb : b.testBit i with
    | true => rfl
    | false => rw [hb] at h1; cases h1
  · intro h
    apply Nat.eq_of_testBit_eq
    intro i
    rw [hw_df_bit, Nat.zero_testBit]
    cases ha : a.testBit i with
    | false => rfl
    | true => rw [h i ha]; rfl
def hp_can (hd : Nat → Nat → Bool) (fx : Nat → Nat) (fr : Nat) : Nat → Nat → Prop
  | 0, s => s = 0
  | p + 1, s => hp_sub s fr ∧ ∃ o, hp_sub o s ∧ hp_can hd fx fr p (hw_df s o) ∧ hd p (o ||| fx p) = true
noncomputable def hp_cb (hd : Nat → Nat → Bool) (fx : Nat → Nat) (fr p s : Nat) : Bool := @decide (hp_can hd fx fr p s) (Classical.propDecidable _)
theorem hp_cb_t {hd : Nat → Nat → Bool} {fx : Nat → Nat} {fr p s : Nat} (h : hp_cb hd fx fr p s = true) : hp_can hd fx fr p s := @of_decide_eq_true _ (Classical.propDecidable _) h
theorem hp_cb_f {hd : Nat → Nat → Bool} {fx : Nat → Nat} {fr p s : Nat} (h : hp_cb hd fx fr p s = false) : ¬ hp_can hd fx fr p s := @of_decide_eq_false _ (Classical.propDecidable _) h
theorem hp_cb_it {hd : Nat → Nat → Bool} {fx : Nat → Nat} {fr p s : Nat} (h : hp_can hd fx fr p s) : hp_cb hd fx fr p s = true := @decide_eq_true _ (Classical.propDecidable _) h
theorem hp_cb_if {hd : Nat → Nat → Bool} {fx : Nat → Nat} {fr p s : Nat} (h : ¬ hp_can hd fx fr p s) : hp_cb hd fx fr p s = false := @decide_eq_false _ (Classical.propDecidable _) h
section HP
variable {hd : Nat → Nat → Bool} {fx fx' : Nat → Nat} {fr fr' k : Nat}
theorem hp_can_sub : ∀ {p s : Nat}, hp_can hd fx fr p s → hp_sub s fr
  | 0, s, h => fun i hi => by rw [show s = 0 from h, Nat.zero_testBit] at hi; cases hi
  | p + 1, s, h => h.1
theorem hp_can_ext : ∀ {p s : Nat}, (∀ q, q < p → fx' q = fx q) → hp_can hd fx fr p s → hp_can hd fx' fr p s
  | 0, s, _, h => h
  | p + 1, s, he, ⟨h1, o, h2, h3, h4⟩ => ⟨h1, o, h2, hp_can_ext (fun q hq => he q (by omega)) h3, by rw [he p (by omega)]; exact h4⟩
theorem hp_can_mono (hs : hp_sub fr fr') : ∀ {p s : Nat}, hp_can hd fx fr p s → hp_can hd fx fr' p s
  | 0, s, h => h
  | p + 1, s, ⟨h1, o, h2, h3, h4⟩ => ⟨fun i hi => hs i (h1 i hi), o, h2, hp_can_mono hs h3, h4⟩
theorem hp_sub_df {s : Nat} (h : hp_sub s fr) (hk : s.testBit k = false) : hp_sub s (hw_df fr (2 ^ k)) := fun i hi => by
  rw [hw_df_bit, h i hi, Nat.testBit_two_pow]
  have e : k ≠ i := fun q => by rw [q, hi] at hk; cases hk
  simp [e]
theorem hp_df_k (s : Nat) : (hw_df s (2 ^ k)).testBit k = false := by
  rw [hw_df_bit, Nat.testBit_two_pow_self]
  cases s.testBit k <;> rfl
theorem hp_split : ∀ (P s : Nat), hp_can hd fx fr P s → (s.testBit k = false ∧ hp_can hd fx (hw_df fr (2 ^ k)) P s) ∨ (s.testBit k = true ∧ ∃ p, p < P ∧ hp_can hd (hm_up fx p (fx p ||| 2 ^ k)) (hw_df fr (2 ^ k)) P (hw_df s (2 ^ k)))
  | 0, s, h => Or.inl ⟨by rw [show s = 0 from h, Nat.zero_testBit], h⟩
  | P + 1, s, ⟨hs, o, ho, hc, hh⟩ => by
    have sdf : hp_sub (hw_df s (2 ^ k)) (hw_df fr (2 ^ k)) := hp_sub_df (fun i hi => hs i (hp_df_sub s _ i hi)) (hp_df_k s)
    rcases hp_split P (hw_df s o) hc with ⟨c1, c2⟩ | ⟨c1, p, c2, c3⟩
    · cases hk : s.testBit k with
      | false => exact Or.inl ⟨rfl, hp_sub_df hs hk, o, ho, c2, hh⟩
      | true =>
        have ok : o.testBit k = true := by
          rw [hw_df_bit, hk] at c1
          cases hq : o.testBit k with
          | true => rfl
          | false => rw [hq] at c1; cases c1
        refine Or.inr ⟨rfl, P, by omega, sdf, hw_df o (2 ^ k), ?_, ?_, ?_⟩
        · intro i hi
          rw [hw_df_bit] at hi ⊢
          rw [Bool.and_eq_true] at hi ⊢
          exact ⟨ho i hi.1, hi.2⟩
        · have e : hw_df (hw_df s (2 ^ k)) (hw_df o (2 ^ k)) = hw_df s o := by
            apply Nat.eq_of_testBit_eq
            intro i
            simp only [hw_df_bit, Nat.testBit_two_pow]
            by_cases e : k = i
            · subst e
              simp [ok]
            · simp [e]
          rw [e]
          exact hp_can_ext (fun q hq => hm_up_n fx _ (by omega)) c2
        · rw [hm_up_s]
          have e : hw_df o (2 ^ k) ||| (fx P ||| 2 ^ k) = o ||| fx P := by
            apply Nat.eq_of_testBit_eq
            intro i
            simp only [hw_df_bit, Nat.testBit_two_pow, Nat.testBit_or]
            by_cases e : k = i
            · subst e
              simp [ok]
            · simp [e]
          rw [e]
          exact hh
    · have hb : s.testBit k = true ∧ o.testBit k = false := by
        rw [hw_df_bit, Bool.and_eq_true] at c1
        refine ⟨c1.1, ?_⟩
        cases hq : o.testBit k with
        | false => rfl
        | true => rw [hq] at c1; exact absurd c1.2 (by decide)
      refine Or.inr ⟨hb.1, p, by omega, sdf, o, ?_, ?_, ?_⟩
      · intro i hi
        rw [hw_df_bit, ho i hi, Nat.testBit_two_pow]
        have e : k ≠ i := fun q => by rw [← q, hb.2] at hi; cases hi
        simp [e]
      · have e : hw_df (hw_df s (2 ^ k)) o = hw_df (hw_df s o) (2 ^ k) := by
          apply Nat.eq_of_testBit_eq
          intro i
          simp only [hw_df_bit]
          cases s.testBit i <;> cases o.testBit i <;> cases (2 ^ k).testBit i <;> rfl
        rw [e]
        exact c3
      · rw [hm_up_n fx _ (show P ≠ p by omega)]
        exact hh
theorem hp_merge (hk : fr.testBit k = true) : ∀ (P p s : Nat), p < P → hp_can hd (hm_up fx p (fx p ||| 2 ^ k)) (hw_df fr (2 ^ k)) P s → s.testBit k = false ∧ hp_can hd fx fr P (s ||| 2 ^ k)
  | 0, p, s, hp, _ => absurd hp (by omega)
  | P + 1, p, s, hp, ⟨hs, o, ho, hc, hh⟩ => by
    have sk : s.testBit k = false := by
      cases hq : s.testBit k with
      | false => rfl
      | true =>
        have h1 := hs k hq
        rw [hp_df_k] at h1
        cases h1
    have okf : o.testBit k = false := by
      cases hq : o.testBit k with
      | false => rfl
      | true =>
        have h1 := ho k hq
        rw [sk] at h1
        cases h1
    have ss : hp_sub (s ||| 2 ^ k) fr := fun i hi => by
      rw [Nat.testBit_or, Nat.testBit_two_pow] at hi
      by_cases e : k = i
      · rw [← e]; exact hk
      · simp [e] at hi
        exact hp_df_sub fr _ i (hs i hi)
    refine ⟨sk, ss, ?_⟩
    rcases (show p = P ∨ p < P by omega) with q | q
    · subst q
      refine ⟨o ||| 2 ^ k, ?_, ?_, ?_⟩
      · intro i hi
        rw [Nat.testBit_or, Bool.or_eq_true] at hi ⊢
        rcases hi with hi | hi
        · exact Or.inl (ho i hi)
        · exact Or.inr hi
      · have e : hw_df (s ||| 2 ^ k) (o ||| 2 ^ k) = hw_df s o := by
          apply Nat.eq_of_testBit_eq
          intro i
          simp only [hw_df_bit, Nat.testBit_or, Nat.testBit_two_pow]
          by_cases e : k = i
          · subst e
            simp [sk]
          · simp [e]
        rw [e]
        exact hp_can_mono (hp_df_sub fr _) (hp_can_ext (fun q hq => (hm_up_n fx _ (by omega)).symm) hc)
      · rw [hm_up_s] at hh
        have e : o ||| 2 ^ k ||| fx p = o ||| (fx p ||| 2 ^ k) := by
          apply Nat.eq_of_testBit_eq
          intro i
          simp only [Nat.testBit_or]
          cases o.testBit i <;> cases (fx p).testBit i <;> cases (2 ^ k).testBit i <;> rfl
        rw [e]
        exact hh
    · obtain ⟨d1, d2⟩ := hp_merge hk P p (hw_df s o) q hc
      refine ⟨o, ?_, ?_, ?_⟩
      · intro i hi
        rw [Nat.testBit_or, ho i hi]
        rfl
      · have e : hw_df (s ||| 2 ^ k) o = hw_df s o ||| 2 ^ k := by
          apply Nat.eq_of_testBit_eq
          intro i
          simp only [hw_df_bit, Nat.testBit_or, Nat.testBit_two_pow]
          by_cases e : k = i
          · subst e
            simp [okf]
          · simp [e]
        rw [e]
        exact d2
      · rw [hm_up_n fx _ (show P ≠ p by omega)] at hh
        exact hh
end HP
/-- what a set is worth -/
def hp_w (wt : Nat → Nat) (s : Nat) : Nat → Nat
  | 0 => 0
  | h + 1 => hp_w wt s h + if s.testBit h = true then wt h else 0
theorem hp_w_ext {wt : Nat → Nat} {s t : Nat} : ∀ {n : Nat}, (∀ i, i < n → s.testBit i = t.testBit i) → hp_w wt s n = hp_w wt t n
  | 0, _ => rfl
  | n + 1, h => by
    unfold hp_w
    rw [hp_w_ext (fun i hi => h i (by omega)), h n (by omega)]
theorem hp_w_add {wt : Nat → Nat} {s k : Nat} (hs : s.testBit k = false) : ∀ {n : Nat}, k < n → hp_w wt (s ||| 2 ^ k) n = hp_w wt s n + wt k
  | 0, h => absurd h (by omega)
  | n + 1, h => by
    unfold hp_w
    rcases (show k = n ∨ k < n by omega) with q | q
    · subst q
      rw [hp_w_ext (t := s) (fun i hi => by rw [Nat.testBit_or, Nat.testBit_two_pow_of_ne (by omega), Bool.or_false]), Nat.testBit_or, Nat.testBit_two_pow_self, hs]
      simp
    · rw [hp_w_add hs q, Nat.testBit_or, Nat.testBit_two_pow_of_ne (by omega), Bool.or_false]
      omega
theorem hp_w_df {wt : Nat → Nat} {s k n : Nat} (hs : s.testBit k = true) (hk : k < n) : hp_w wt (hw_df s (2 ^ k)) n + wt k = hp_w wt s n := by
  rw [← hp_w_add (hp_df_k s) hk]
  apply hp_w_ext
  intro i _
  rw [Nat.testBit_or, hw_df_bit, Nat.testBit_two_pow]
  by_cases e : k = i
  · subst e
    simp [hs]
  · simp [e]
theorem hp_w_le {wt : Nat → Nat} {s : Nat} : ∀ {n : Nat}, (∀ h, h < n → wt h ≤ 80) → hp_w wt s n ≤ 80 * n
  | 0, _ => Nat.le_refl _
  | n + 1, h => by
    unfold hp_w
    have h1 := hp_w_le (wt := wt) (s := s) (n := n) (fun i hi => h i (by omega))
    have h2 := h n (by omega)
    split <;> omega
theorem hp_wtin {f : Nat → Int32} {wt : Nat → Nat} {s : Nat} (hs : s < 256) : ∀ {n : Nat}, n ≤ 8 → (∀ h, h < n → f (22 + 3 * h) = nI (wt h)) → hw_wtin f (nI s) n = nI (hp_w wt s n)
  | 0, _, _ => rfl
  | n + 1, hn, hw => by
    unfold hw_wtin hp_w hw_worth
    rw [hp_wtin hs (by omega) (fun h hh => hw h (by omega)), hw_bitN (by omega) (by omega), hw n (by omega)]
    cases s.testBit n with
    | true =>
      rw [show hw_b true = nI 1 from rfl, hw_nmul, hw_nadd, if_pos rfl, Nat.one_mul]
    | false =>
      rw [show hw_b false = nI 0 from rfl, hw_nmul, hw_nadd, if_neg (by decide), Nat.zero_mul]
/-- the best that can be had, and a way to it -/
def hp_opt (hd : Nat → Nat → Bool) (wt : Nat → Nat) (N P : Nat) (fx : Nat → Nat) (fr fd bs : Nat) : Prop := (∃ s, hp_can hd fx fr P s ∧ fd + hp_w wt s N = bs) ∧ ∀ s, hp_can hd fx fr P s → fd + hp_w wt s N ≤ bs
def hp_fx (fx : Nat → Nat) (k : Nat) : Nat → Nat → Nat
  | 0 => fx
  | p + 1 => hm_up fx p (fx p ||| 2 ^ k)
def hp_fd (fd w : Nat) : Nat → Nat
  | 0 => fd
  | _ + 1 => fd + w
theorem hp_le {hd : Nat → Nat → Bool} {wt : Nat → Nat} {N P : Nat} {fx : Nat → Nat} {fr fd bs k : Nat} (hk : k < N) (hf : fr.testBit k = true) (h : hp_opt hd wt N P fx fr fd bs) : ∀ j, j ≤ P → ∀ s, hp_can hd (hp_fx fx k j) (hw_df fr (2 ^ k)) P s → hp_fd fd (wt k) j + hp_w wt s N ≤ bs
  | 0, _, s, hc => h.2 s (hp_can_mono (hp_df_sub fr _) hc)
  | j + 1, hj, s, hc => by
    obtain ⟨h1, h2⟩ := hp_merge hf P j s (by omega) hc
    have h3 := h.2 _ h2
    rw [hp_w_add h1 hk] at h3
    show fd + wt k + _ ≤ bs
    omega
theorem hp_step {hd : Nat → Nat → Bool} {wt : Nat → Nat} {N P : Nat} {fx : Nat → Nat} {fr fd bs k : Nat} (hk : k < N) (hf : fr.testBit k = true) (h : hp_opt hd wt N P fx fr fd bs) : ∃ j, j ≤ P ∧ hp_opt hd wt N P (hp_fx fx k j) (hw_df fr (2 ^ k)) (hp_fd fd (wt k) j) bs := by
  obtain ⟨⟨s, h1, h2⟩, -⟩ := id h
  rcases hp_split (k := k) P s h1 with ⟨c1, c2⟩ | ⟨c1, p, c2, c3⟩
  · exact ⟨0, Nat.zero_le _, ⟨s, c2, h2⟩, hp_le hk hf h 0 (Nat.zero_le _)⟩
  · refine ⟨p + 1, c2, ⟨_, c3, ?_⟩, hp_le hk hf h (p + 1) c2⟩
    have h3 := hp_w_df (wt := wt) c1 hk
    show fd + wt k + _ = bs
    omega
/-- what packWorth answers -/
def hp_res (hd : Nat → Nat → Bool) (wt : Nat → Nat) (N P : Nat) (fx : Nat → Nat) (fr m k : Nat) : Prop := (∀ s, s < k → hp_can hd fx fr P s → hp_w wt s N + 1 ≤ m) ∧ (m = 0 ∨ ∃ s, s < k ∧ hp_can hd fx fr P s ∧ hp_w wt s N + 1 = m)
theorem hp_can_lt {hd : Nat → Nat → Bool} {fx : Nat → Nat} {fr p s : Nat} (hf : fr < 256) (h : hp_can hd fx fr p s) : s < 256 := hp_sub_lt (n := 8) (hp_can_sub h) hf
theorem hp_hit {hd : Nat → Nat → Bool} {wt : Nat → Nat} {N P : Nat} {fx : Nat → Nat} {fr fd bs n : Nat} (hf : fr < 256) (hr : hp_res hd wt N P fx fr (n + 1) 256) (hb : ∀ s, hp_can hd fx fr P s → fd + hp_w wt s N ≤ bs) (he : fd + n = bs) : hp_opt hd wt N P fx fr fd bs := by
  refine ⟨?_, hb⟩
  rcases hr.2 with q | ⟨s, q1, q2, q3⟩
  · exact absurd q (by omega)
  · exact ⟨s, q2, by omega⟩
theorem hp_must {hd : Nat → Nat → Bool} {wt : Nat → Nat} {N P : Nat} {fx : Nat → Nat} {fr fd bs m : Nat} (hf : fr < 256) (hr : hp_res hd wt N P fx fr m 256) (h : hp_opt hd wt N P fx fr fd bs) : fd + m = bs + 1 := by
  obtain ⟨⟨s, h1, h2⟩, h3⟩ := h
  have h4 := hr.1 s (hp_can_lt hf h1) h1
  rcases hr.2 with q | ⟨t, q1, q2, q3⟩
  · omega
  · have h5 := h3 t q2
    omega
theorem hp_cmp {m : Nat} (hm : m < 2147483648) : (m = 0 → (hm_pr m).toInt = -1) ∧ (0 < m → (hm_pr m).toInt = (m : Int) - 1) := by
  cases m with
  | zero => exact ⟨fun _ => by decide, fun h => absurd h (by omega)⟩
  | succ m =>
    refine ⟨fun h => absurd h (by omega), fun _ => ?_⟩
    show (nI m).toInt = _
    rw [nI_toInt (by omega)]
    omega
theorem hp_max {m w : Nat} (hm : m < 2147483648) (hw : w < 2147483647) : (if hm_pr m < nI w then nI w else hm_pr m) = hm_pr (max m (w + 1)) := by
  have h1 := hp_cmp hm
  have h2 := nI_toInt (n := w) (by omega)
  have h3 := @Int32.lt_iff_toInt_lt (hm_pr m) (nI w)
  by_cases h : m < w + 1
  · rw [Nat.max_eq_right (by omega), if_pos (h3.mpr (by rcases (show m = 0 ∨ 0 < m by omega) with q | q; (· rw [h1.1 q, h2]; omega); (· rw [h1.2 q, h2]; omega)))]
    rfl
  · rw [Nat.max_eq_left (by omega), if_neg (fun q => by have q := h3.mp q; rw [h1.2 (by omega), h2] at q; omega)]
theorem hp_res_step {hd : Nat → Nat → Bool} {wt : Nat → Nat} {N P : Nat} {fx : Nat → Nat} {fr m k : Nat} (h : hp_res hd wt N P fx fr m k) (hc : hp_can hd fx fr P k) : hp_res hd wt N P fx fr (max m (hp_w wt k N + 1)) (k + 1) := by
  refine ⟨fun s hs hq => ?_, ?_⟩
  · rcases (show s = k ∨ s < k by omega) with q | q
    · subst q
      omega
    · have := h.1 s q hq
      omega
  · rcases (show m ≤ hp_w wt k N + 1 ∨ hp_w wt k N + 1 < m by omega) with q | q
    · exact Or.inr ⟨k, by omega, hc, by omega⟩
    · rcases h.2 with z | ⟨s, z1, z2, z3⟩
      · omega
      · exact Or.inr ⟨s, by omega, z2, by omega⟩
theorem hp_res_skip {hd : Nat → Nat → Bool} {wt : Nat → Nat} {N P : Nat} {fx : Nat → Nat} {fr m k : Nat} (h : hp_res hd wt N P fx fr m k) (hc : ¬ hp_can hd fx fr P k) : hp_res hd wt N P fx fr m (k + 1) := by
  refine ⟨fun s hs hq => ?_, ?_⟩
  · rcases (show s = k ∨ s < k by omega) with q | q
    · subst q
      exact absurd hq hc
    · exact h.1 s q hq
  · rcases h.2 with z | ⟨s, z1, z2⟩
    · exact Or.inl z
    · exact Or.inr ⟨s, by omega, z2⟩
theorem hp_res_le {hd : Nat → Nat → Bool} {wt : Nat → Nat} {N P : Nat} {fx : Nat → Nat} {fr m k : Nat} (hw : ∀ s, hp_w wt s N ≤ 640) (h : hp_res hd wt N P fx fr m k) : m ≤ 641 := by
  rcases h.2 with z | ⟨s, z1, z2, z3⟩
  · omega
  · have := hw s
    omega
/-! hp_: packed's course -/
def hp_inv (N k : Nat) (fx : Nat → Nat) (fr : Nat) : Prop := (∀ i, fr.testBit i = (decide (k ≤ i) && decide (i < N))) ∧ ∀ p, p < 5 → ∀ i, k ≤ i → (fx p).testBit i = false
theorem hp_inv_0 (N : Nat) : hp_inv N 0 (fun _ => 0) (2 ^ N - 1) := by
  refine ⟨fun i => ?_, fun p _ i _ => Nat.zero_testBit i⟩
  rw [Nat.testBit_two_pow_sub_one]
  simp
theorem hp_inv_lt {N k : Nat} {fx : Nat → Nat} {fr : Nat} (hk : k ≤ N) (hN : N ≤ 8) (h : hp_inv N k fx fr) : fr < 256 ∧ ∀ p, p < 5 → fx p < 256 := by
  refine ⟨Nat.lt_pow_two_of_testBit (n := 8) fr (fun i hi => ?_), fun p hp => Nat.lt_pow_two_of_testBit (n := 8) _ (fun i hi => h.2 p hp i (by omega))⟩
  rw [h.1 i, decide_eq_false (show ¬ i < N by omega), Bool.and_false]
theorem hp_inv_k {N k : Nat} {fx : Nat → Nat} {fr : Nat} (hk : k < N) (h : hp_inv N k fx fr) : fr.testBit k = true := by
  rw [h.1 k, decide_eq_true (Nat.le_refl k), decide_eq_true hk]
  rfl
theorem hp_inv_step {N k : Nat} {fx : Nat → Nat} {fr : Nat} (h : hp_inv N k fx fr) : ∀ j, hp_inv N (k + 1) (hp_fx fx k j) (hw_df fr (2 ^ k)) := by
  intro j
  refine ⟨fun i => ?_, fun p hp i hi => ?_⟩
  · rw [hw_df_bit, h.1 i, Nat.testBit_two_pow]
    by_cases e : k = i
    · subst e
      rw [decide_eq_false (show ¬ k + 1 ≤ k by omega), decide_eq_true (show k = k from rfl)]
      simp
    · have e1 : decide (k ≤ i) = decide (k + 1 ≤ i) := by
        by_cases q : k ≤ i
        · rw [decide_eq_true q, decide_eq_true (by omega)]
        · rw [decide_eq_false q, decide_eq_false (by omega)]
      simp [e, e1]
  · cases j with
    | zero => exact h.2 p hp i (by omega)
    | succ j =>
      show (hm_up fx j (fx j ||| 2 ^ k) p).testBit i = false
      by_cases e : p = j
      · rw [e, hm_up_s, Nat.testBit_or, ← e, h.2 p hp i (by omega), Nat.testBit_two_pow_of_ne (by omega)]
        rfl
      · rw [hm_up_n fx _ e]
        exact h.2 p hp i (by omega)
theorem hp_undo {a k : Nat} (h : a.testBit k = false) : hw_df (a ||| 2 ^ k) (2 ^ k) = a := by
  apply Nat.eq_of_testBit_eq
  intro i
  rw [hw_df_bit, Nat.testBit_or, Nat.testBit_two_pow]
  by_cases e : k = i
  · subst e
    simp [h]
  · simp [e]
theorem hp_okB0 (f : Nat → Int32) (q : Nat) : ∀ n, hw_okB f q 0 n = true
  | 0 => rfl
  | n + 1 => by
    unfold hw_okB
    rw [hp_okB0 f q n, Nat.zero_testBit]
    rfl
theorem hp_szin0 (f : Nat → Int32) : ∀ n, n ≤ 8 → hw_szin f (nI 0) n = 0
  | 0, _ => rfl
  | n + 1, h => by
    unfold hw_szin
    rw [hp_szin0 f n (by omega), hw_bitN (by omega) (by omega), Nat.zero_testBit]
    show (0 : Int32) + 0 * _ = 0
    rw [Int32.zero_mul, Int32.zero_add]
theorem hp_holds0 {f : Nat → Int32} {N q : Nat} (hN : N ≤ 8) (hr : 0 ≤ (f (10 + 2 * q)).toInt) : hw_holds f N q 0 = true := by
  unfold hw_holds
  rw [hp_okB0, hp_szin0 f N hN, Bool.true_and]
  exact decide_eq_true hr
theorem hp_can0 {hd : Nat → Nat → Bool} {fr : Nat} : ∀ P, (∀ p, p < P → hd p 0 = true) → hp_can hd (fun _ => 0) fr P 0
  | 0, _ => rfl
  | P + 1, h => by
    refine ⟨fun i hi => (by rw [Nat.zero_testBit] at hi; cases hi), 0, fun _ hi => hi, ?_, ?_⟩
    · rw [show hw_df 0 0 = 0 by decide]
      exact hp_can0 P (fun p hp => h p (by omega))
    · show hd P (0 ||| 0) = true
      rw [Nat.or_zero]
      exact h P (by omega)
theorem hp_first {f : Nat → Int32} {wt : Nat → Nat} {N P m fr : Nat} (hN : N ≤ 8) (hP : P ≤ 5) (hf : fr < 256) (hR : ∀ p, p < 5 → 0 ≤ (f (10 + 2 * p)).toInt) (h : hp_res (hw_holds f N) wt N P (fun _ => 0) fr m 256) : ∃ bs, m = bs + 1 ∧ hp_opt (hw_holds f N) wt N P (fun _ => 0) fr 0 bs := by
  have h0 := h.1 0 (by omega) (hp_can0 P (fun p hp => hp_holds0 hN (hR p (by omega))))
  refine ⟨m - 1, by omega, ?_, fun s hs => ?_⟩
  · rcases h.2 with z | ⟨s, z1, z2, z3⟩
    · omega
    · exact ⟨s, z2, by omega⟩
  · have := h.1 s (hp_can_lt hf hs) hs
    omega
theorem hm_pr_inc (j : Nat) : hm_pr j + Int32.ofInt 1 = nI j := by
  cases j with
  | zero => decide
  | succ j => exact hw_nI1 j
theorem hp_m1 {p : Nat} (hp : p < 2147483648) (h : (nI p).toInt = (-1 : Int32).toInt) : False := by
  rw [nI_toInt (by omega), show (-1 : Int32).toInt = -1 by decide] at h
  omega
theorem hp_mz {m : Nat} (hm : m < 2147483648) : ((hm_pr m).toInt = (-1 : Int32).toInt → m = 0) ∧ ((hm_pr m).toInt < (-1 : Int32).toInt ∨ (-1 : Int32).toInt < (hm_pr m).toInt → ∃ n, m = n + 1) := by
  have h1 := hp_cmp hm
  have e : (-1 : Int32).toInt = -1 := by decide
  rw [e]
  refine ⟨fun h => ?_, fun h => ?_⟩
  · rcases (show m = 0 ∨ 0 < m by omega) with q | q
    · exact q
    · rw [h1.2 q] at h
      omega
  · rcases (show m = 0 ∨ 0 < m by omega) with q | q
    · rw [h1.1 q] at h
      omega
    · exact ⟨m - 1, by omega⟩
