theorem hs_f7' : ∀ i, i < 18 → ∀ j, j < 18 → Int32.ofNat (hb_TL.getD i 0) = Int32.ofNat (hb_TL.getD j 0) → (∀ k, k < hb_TL.getD i 0 → k < hb_TL.getD j 0 → (hb_TB.getD i []).getD k 0 = (hb_TB.getD j []).getD k 0) → i = j := by decide +kernel
theorem hs_T {ty : FieldType} {t n1 n2 : Nat} {f1 f2 : Nat → Value} {A : Nat → Prop} {U : State} {H : Heap} (h1 : va_T ty t n1 f1 A U H) (h2 : va_T ty t n2 f2 A U H) : Int32.ofNat n1 = Int32.ofNat n2 ∧ ∀ k, k < n1 → k < n2 → f1 k = f2 k := by
  obtain ⟨c1, a1, -, -, -, a5, a6, -⟩ := h1
  obtain ⟨c2, b1, -, -, -, b5, b6, -⟩ := h2
  rw [a1] at b1
  cases b1
  exact ⟨a5.symm.trans b5, fun k h1 h2 => Option.some.inj ((a6 k h1).symm.trans (b6 k h2))⟩
def hs_P (args : Array Value) (s : State) (A : Nat → Prop) (i : Nat) (q : Nat × Nat) : Prop := (hs_tm i).eval args s none [] s = some (.ref q.1) ∧ va_O "java/lang/String" q.1 A s s.heap ∧ va_OF "java/lang/String" "coder" "B" (.int 0) q.1 A s s.heap ∧ va_OF "java/lang/String" "value" "[B" (.ref q.2) q.1 A s s.heap ∧ va_T .byte q.2 (hb_TL.getD i 0) (fun j => .int ((hb_TB.getD i []).getD j 0)) A s s.heap
theorem hs_S1 {args : Array Value} {s : State} {A : Nat → Prop} (hgv : (Jvm.Cond.and given_1 narrow_1).before args s = true) (hA : ∀ a : Nat, a < s.heap.size → ¬ A a) (i : Nat) (hi : i < 18) : ∃ q : Nat × Nat, hs_P args s A i q := by
  have hs : ∀ c ∈ hs_F, c.before args s = true := flat_of_before _ hgv
  obtain ⟨adK, adV, h1, h2⟩ := vk_Sof (N := 1) (tm := fun _ => hs_tm i) (len := [hb_TL.getD i 0]) (byt := [hb_TB.getD i []]) (A := A) (args := args) (s := s) (fun k hk => by have e : k = 0 := (by omega); subst e; exact hs_f6 i hi) (fun k hk => hs _ (hs_f1 i hi)) (fun k hk => hs _ (hs_f2 i hi)) (fun k hk => hs _ (hs_f3 i hi)) (fun k hk => by have e : k = 0 := (by omega); subst e; exact hs _ (hs_f4 i hi)) (fun k hk j hj => by have e : k = 0 := (by omega); subst e; exact hs _ (hs_f5 i hi j hj)) (fun a b ha hb h => absurd (show a = b by omega) h) hA
  exact ⟨(adK 0, adV 0), h2 0 (by decide), h1.1 0 (by decide)⟩
theorem hs_PS {args : Array Value} {s : State} (hts : ∀ w ∈ lw_tbl, w.before args s = true) (hgv : (Jvm.Cond.and given_1 narrow_1).before args s = true) : ∃ S : Nat → Nat, hb_PS (fun q => s.heap.size ≤ q) S s := by
  have hs : ∀ c ∈ hs_F, c.before args s = true := flat_of_before _ hgv
  have hA : ∀ a : Nat, a < s.heap.size → ¬ (fun q => s.heap.size ≤ q) a := fun a h => Nat.not_le.mpr h
  have h0 : ∀ i : Nat, ∃ q : Nat × Nat, i < 18 → hs_P args s (fun q => s.heap.size ≤ q) i q := fun i => by
    by_cases hi : i < 18
    · obtain ⟨q, hq⟩ := hs_S1 hgv hA i hi
      exact ⟨q, fun _ => hq⟩
    · exact ⟨(0, 0), fun h => absurd h hi⟩
  obtain ⟨ad, had⟩ := Classical.axiomOfChoice h0
  refine ⟨fun i => (ad i).1, ⟨fun i => (ad i).2, ⟨fun i hi => (had i hi).2, fun i j hi hj e => ?_⟩⟩, fun z hz => ?_, va_Zof (hts _ hs_g1.1) (hts _ hs_g1.2) (va_eqt (hs _ hs_f9.1)) hA, va_Zqof (hts _ hs_g2.1) (hts _ hs_g2.2) (hs _ hs_f9.2) hA⟩
  · have hi' := had i hi
    have hj' := had j hj
    have e1 : (ad i).1 = (ad j).1 := e
    have v := hi'.2.2.2.1
    rw [e1] at v
    have e2 := hs_OF v hj'.2.2.2.1
    have t := hi'.2.2.2.2
    rw [e2] at t
    obtain ⟨t1, t2⟩ := hs_T t hj'.2.2.2.2
    exact hs_f7' i hi j hj t1 (fun k h1 h2 => by have e3 := t2 k h1 h2; injection e3)
  · obtain ⟨h1, h2, h3⟩ := hs_f8 z hz
    have he := (had z.2.2 h1).1
    refine vk_R.of (hts _ h3) ?_
    rcases h2 with ⟨h2, h4⟩ | h2
    · rw [h2, h4]
      exact he
    · exact va_eqR (hs _ h2) he
theorem hs_Gs {args : Array Value} {s : State} (hts : ∀ w ∈ lw_tbl, w.before args s = true) (hgv : (Jvm.Cond.and given_1 narrow_1).before args s = true) : ∃ (D : va_G) (S : Nat → Nat), hb_Gs hb_G D (fun q => s.heap.size ≤ q) S s := by
  obtain ⟨D, hD⟩ := hs_K hts
  obtain ⟨S, hS⟩ := hs_PS hts hgv
  exact ⟨D, S, hD, fun w hw => va_Nw.of (hs_nw2 w hw) (hts w (hs_nw1 w hw)), hS⟩
theorem hs_A {s : State} : va_A [] s.heap.size = (fun q => s.heap.size ≤ q) := by
  funext q
  refine propext ⟨fun h => ?_, fun h => Or.inr h⟩
  rcases h with ⟨k, e, h⟩ | h
  · simp at h
  · exact h
