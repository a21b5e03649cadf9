/-! hp_: places of the start while the world grows -/
theorem hp_allset {B : va_W} {ki a : Nat} {e e' : va_E} {G : List (Nat × Nat × Int)} (h : B[ki]? = some (a, e)) (hb : G.all (fun g => !(Nat.beq ki g.1)) = true) (hG : hp_all (hc_ad B) B G) : hp_all (hc_ad (B.set ki (a, e'))) (B.set ki (a, e')) G := fun f hf => hp_setat h (fun q => by
  have h1 : (!(Nat.beq ki f.1)) = true := List.all_eq_true.mp hb f hf
  rw [q, Nat.beq_refl] at h1
  cases h1) (hG f hf)
theorem hp_allapp {B L : va_W} {G : List (Nat × Nat × Int)} (hG : hp_all (hc_ad B) B G) : hp_all (hc_ad (B ++ L)) (B ++ L) G := fun f hf => hp_appat (hG f hf)
theorem hp_allpt {B w' : va_W} {n N q : Nat} {Z : va_E} {fp2 : List Nat} {t : State} {G : List (Nat × Nat × Int)} (hp : hc_PT (B ++ [(q, Z)]) n N fp2 t w') (hn : B.length = n) (hb : G.all (fun g => Nat.blt g.1 n) = true) (hG : hp_all (hc_ad B) B G) : hp_all (hc_ad w') w' G := fun f hf => by
  have h0 : Nat.blt f.1 n = true := List.all_eq_true.mp hb f hf
  have h1 : f.1 < n := hb_blt h0
  have hl : f.1 < (B ++ [(q, Z)]).length := by rw [List.length_append, hn]; omega
  have hB : f.1 < B.length := by rw [hn]; exact h1
  obtain ⟨e0, x, f1, f2, f3⟩ := hG f hf
  exact ⟨e0, x, by rw [hp.2.2.1 f.1 hl (by omega), hp.2.1 f.1 hl, List.getElem?_append_left hB, hc_adl hB]; exact f1, f2, f3⟩
