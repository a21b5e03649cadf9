/-! hc_: a world that grows, what is finished of it in kinds -/
def hc_B (s : State) (wd B : va_W) (ki a ci n : Nat) (fs : List Value) (fp : List Nat) : Prop := B.length = n ∧ B[ki]? = some (a, .inr (ci, fs)) ∧ hb_wd hb_KT s (hc_ad B) B fp ∧ (∀ j, j < wd.length → hc_ad B j = hc_ad wd j) ∧ (∀ j, j < wd.length → j ≠ ki → B[j]? = wd[j]?)
theorem hc_B0 {s : State} {wd : va_W} {ki a ci n : Nat} {fs : List Value} {fp : List Nat} (hn : wd.length = n) (hk : wd[ki]? = some (a, .inr (ci, fs))) (h : hb_wd hb_KT s (hc_ad wd) wd fp) : hc_B s wd wd ki a ci n fs fp := ⟨hn, hk, h, fun _ _ => rfl, fun _ _ _ => rfl⟩
theorem hc_ads {B : va_W} {ki a : Nat} {e e' : va_E} (h : B[ki]? = some (a, e)) (c : Nat) : hc_ad (B.set ki (a, e')) c = hc_ad B c := by
  have hl := (List.getElem?_eq_some_iff.mp h).1
  unfold hc_ad
  by_cases q : ki = c
  · subst q
    rw [List.getElem?_set_self hl, h]
    rfl
  · rw [List.getElem?_set_ne q]
theorem hc_adl {B L : va_W} {j : Nat} (h : j < B.length) : hc_ad (B ++ L) j = hc_ad B j := by
  unfold hc_ad
  rw [List.getElem?_append_left h]
theorem hc_gr {B L : va_W} {n i : Nat} (hn : B.length = n) : (B ++ L)[n + i]? = L[i]? := by
  rw [List.getElem?_append_right (by omega), hn, Nat.add_sub_cancel_left]
theorem hc_gl {B L : va_W} {j : Nat} {x : Nat × va_E} (h : B[j]? = some x) : (B ++ L)[j]? = some x := by
  rw [List.getElem?_append_left (List.getElem?_eq_some_iff.mp h).1]
  exact h
theorem hc_sl {B L : va_W} {j : Nat} {x y : Nat × va_E} (h : B[j]? = some x) : (B ++ L).set j y = B.set j y ++ L := List.set_append_left j y (List.getElem?_eq_some_iff.mp h).1
theorem hc_setlast {B M : va_W} {n : Nat} {x y : Nat × va_E} (hn : B.length = n) : (B ++ [x]).set n y ++ M = B ++ (y :: M) := by
  rw [List.set_append_right _ _ (by omega), hn, Nat.sub_self, List.append_assoc]
  rfl
theorem hc_clt {fp : List Nat} {n : Nat} (h : hc_cl fp n = true) : ∀ c ∈ fp, c < n := fun c hc => hb_blt (hb_and2 (List.all_eq_true.mp h c hc)).1
theorem hc_Bput {s : State} {wd B : va_W} {ki a ci n : Nat} {fs fs' : List Value} {fp : List Nat} (h : hc_B s wd B ki a ci n fs fp) (hkf : ki ∉ fp) (hcl : hc_cl fp n = true) : hc_B s wd (B.set ki (a, .inr (ci, fs'))) ki a ci n fs' fp := by
  obtain ⟨h1, h2, h3, h4, h5⟩ := h
  have hl := (List.getElem?_eq_some_iff.mp h2).1
  refine ⟨by rw [List.length_set]; exact h1, List.getElem?_set_self hl, hc_wdU h3 hcl (fun c _ => hc_ads h2 c) (fun c hc => List.getElem?_set_ne (fun e => hkf (by rw [e]; exact hc))), fun j hj => (hc_ads h2 j).trans (h4 j hj), fun j hj hk => ?_⟩
  rw [List.getElem?_set_ne (Ne.symm hk)]
  exact h5 j hj hk
theorem hc_Bapp {s : State} {wd B L : va_W} {ki a ci n m : Nat} {fs : List Value} {fp fp2 : List Nat} (h : hc_B s wd B ki a ci n fs fp) (hcl : hc_cl fp n = true) (hm : L.length = m) (hwl : wd.length ≤ n) (ht : hb_wd hb_KT s (hc_ad (B ++ L)) (B ++ L) fp2) : hc_B s wd (B ++ L) ki a ci (n + m) fs (fp ++ fp2) := by
  obtain ⟨h1, h2, h3, h4, h5⟩ := h
  refine ⟨by rw [List.length_append, h1, hm], hc_gl h2, hc_wda (hc_wdU h3 hcl (fun c hc => hc_adl (by omega)) (fun c hc => List.getElem?_append_left (by rw [h1]; exact hc_clt hcl c hc))) ht, fun j hj => (hc_adl (by omega)).trans (h4 j hj), fun j hj hk => ?_⟩
  rw [List.getElem?_append_left (by omega)]
  exact h5 j hj hk
theorem hc_Bpt {s t : State} {wd B w' : va_W} {ki a ci n N q : Nat} {Z : va_E} {fs : List Value} {fp fp2 : List Nat} (h : hc_B s wd B ki a ci n fs fp) (hp : hc_PT (B ++ [(q, Z)]) n N fp2 t w') (hvm : s.vm.Alike t.vm) (hcl : hc_cl fp n = true) (hwl : wd.length ≤ n) : hc_B s wd w' ki a ci N fs (fp ++ fp2) := by
  obtain ⟨h1, h2, h3, h4, h5⟩ := h
  obtain ⟨p1, p2, p3, p4⟩ := hp
  have hkl : ki < n := by rw [← h1]; exact (List.getElem?_eq_some_iff.mp h2).1
  have hlen : (B ++ [(q, Z)]).length = n + 1 := by rw [List.length_append, h1]; rfl
  have ad : ∀ c, c < n → hc_ad w' c = hc_ad B c := fun c hc => (p2 c (by omega)).trans (hc_adl (by omega))
  have gt : ∀ c, c < n → w'[c]? = B[c]? := fun c hc => by
    rw [p3 c (by omega) (by omega), List.getElem?_append_left (by omega)]
  refine ⟨p1, (gt ki hkl).trans h2, hc_wda (hc_wdU h3 hcl ad (fun c hc => gt c (hc_clt hcl c hc))) (p4.moved hvm.symm), fun j hj => (ad j (by omega)).trans (h4 j hj), fun j hj hk => ?_⟩
  rw [gt j (by omega)]
  exact h5 j hj hk
/-- the end of a constructor in kinds: the object itself is finished too -/
theorem hc_Bend {s t : State} {wd B : va_W} {ki a ci n : Nat} {fs : List Value} {fp fp2 : List Nat} {kd : hbK} (h : hc_B s wd B ki a ci n fs fp) (hvm : s.vm.Alike t.vm) (hkd : hb_KT[ki]? = some kd) (hc : hb_cell s (hc_ad B) kd (.inr (ci, fs))) (hs : kd.2.2.1 < 2147483648) (hsub : ∀ c ∈ fp2, c ∈ ki :: fp) : hc_PT wd ki n fp2 t B := by
  obtain ⟨h1, h2, h3, h4, h5⟩ := h
  exact ⟨h1, h4, h5, ((hc_wdc hkd (hc_at h2) hc hs h3).less hsub).moved hvm⟩
