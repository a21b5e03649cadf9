/-! hp_: single places while a world grows -/
theorem hp_setat {B : va_W} {ki a c k : Nat} {e e' : va_E} {v : Int} (h : B[ki]? = some (a, e)) (hne : ki ≠ c) (hp : hp_at (hc_ad B) B c k v) : hp_at (hc_ad (B.set ki (a, e'))) (B.set ki (a, e')) c k v := by
  obtain ⟨e0, x, f1, f2, f3⟩ := hp
  exact ⟨e0, x, by rw [List.getElem?_set_ne hne, hc_ads h c]; exact f1, f2, f3⟩
theorem hp_appat {B L : va_W} {c k : Nat} {v : Int} (hp : hp_at (hc_ad B) B c k v) : hp_at (hc_ad (B ++ L)) (B ++ L) c k v := by
  obtain ⟨e0, x, f1, f2, f3⟩ := hp
  have hl := (List.getElem?_eq_some_iff.mp f1).1
  exact ⟨e0, x, by rw [List.getElem?_append_left hl, hc_adl hl]; exact f1, f2, f3⟩
section HCQ
variable {p : Program} {l : Launch} {e : Env} {R : Room} {s : State} {m : MethodId} {args : Array Value} {below : List Frame} {meth : Method} {c : Code} {Q : State → Prop} {pc cells slots : Nat} {D : va_G} {U S : Nat → Nat} {wd0 w : va_W} {y y0 : hbY} {ls : Array Slot} {rest : List Value} {H : Heap} {locs : List Loc} {q : hbQ}
/-- what a contract of the interpreter's says, for a method that answers nothing and takes no numbers of its own -/
theorem hp_conv (hq : hb_Met hb_G q) (hy : hb_MT[q.1]? = some y) (hV0 : q.2.1.1 = ([(0, 0)], [], [])) (hC0 : q.2.1.2.2 = []) (hvd : q.2.2.1.all (fun z => z.1.2.2.1.isEmpty) = true) {vs : List Value} (hst : hb_stk 1 U S (fun _ => 0) q.2.1.2.1 vs) (sz : Nat) :
    Met l y.1 (.code y.1 y.2.1 y.2.2.1 y.2.2.2 :: hb_G.2.1.1) (hb_rm q) (va_Pc vs (hb_Pre hb_G D U S w sz q.2.2.2.1.1)) (fun _ st oc t => (∃ v, oc = .returned v ∧ v = none ∧ ∃ wd', va_P D vwCl wd' t.heap ∧ hb_wd hb_KT t U wd' q.2.2.2.1.1 ∧ hb_fr q.2.2.2.1.2 w wd' ∧ ∀ (c0 k0 : Nat) (v0 : Int), hp_isC q c0 k0 v0 = true → hp_at U wd' c0 k0 v0) ∧ va_F (va_A w sz) st t) 0 0 (va_A w sz) := by
  have hM := hq y hy l D U S (fun _ => 0) w sz vs (by rw [hV0]; exact ⟨fun k lo hi h => by
    cases k with
    | zero => cases h; exact ⟨Int.le_refl _, Int.le_refl _⟩
    | succ k => simp at h, (fun _ h => (by cases h)), (fun _ h => (by cases h))⟩) (by rw [hV0]; decide) (by rw [hV0]; exact hst) (by rw [hC0]; exact fun _ h => (by cases h))
  intro p' e' ha' hc' hk' s' m' args' below' hf' hfit hP' hK'
  obtain ⟨k', o', w1, w2, w3, ⟨⟨v, wd', ρ', z, p1, p2, p3, p4, p5, p6, p7, p8, p9, p10⟩, p11⟩, w5⟩ := hM p' e' ha' hc' hk' s' m' args' below' hf' hfit hP' hK'
  have hz := List.all_eq_true.mp hvd z p1
  have hv : v = none := by
    cases hs : z.1.2.2.1 with
    | cons a r => rw [hs] at hz; cases hz
    | nil =>
      rw [hs] at p6
      have := hb_stk.nil p6
      cases v with
      | none => rfl
      | some x => cases this
  exact ⟨k', o', w1, w2, w3, ⟨⟨v, p2, hv, wd', p8, p9, p10, fun c0 k0 v0 h0 => hp_isC_ok p1 p7 h0⟩, p11⟩, w5⟩
theorem hp_cQS {idx : Nat} {As st : List Value} (hBd : hb_Bd hb_G y0 p s m args meth c) (hGs : hb_Gs hb_G D (va_A wd0 s.heap.size) S s) (hh : hc_H D s wd0 w H locs) (hq : hb_Met hb_G q) (hy : hb_MT[q.1]? = some y) (hV0 : q.2.1.1 = ([(0, 0)], [], [])) (hC0 : q.2.1.2.2 = []) (hvd : (q.2.2.1.all (fun z => z.1.2.2.1.isEmpty) && hb_subl q.2.2.2.1.2 q.2.2.2.1.1) = true) (hst1 : hb_stk 1 U S (fun _ => 0) q.2.1.2.1 As) (hwd : hb_wd hb_KT s U w q.2.2.2.1.1) (hini : Cond.initialized y.1.cls ∈ hb_G.2.1.1) (hlink : Cond.methodLink y0.1.cls idx y.1 ∈ hb_G.2.1.1) (hsta : Cond.static y.1 ∈ hb_G.2.1.1) (hnm : y.1.cls ≠ "java/lang/invoke/MethodHandle" ∧ y.1.cls ≠ "java/lang/invoke/VarHandle") (hR : q.2.2.2.2.1 + 1 ≤ R.frames ∧ 8 + (y.2.2.1 + 11) + q.2.2.2.2.2 ≤ R.locals) (hnp : ∀ sig, parseMethodDescriptor y.1.desc = some sig → As.length = sig.parameters.length) (hsz : ls.size = y0.2.2.1) (hst : st = As.reverse ++ rest) (hcat : (rest.map fun v => v.category).sum ≤ 8) (hcs : cells ≤ R.cells ∧ slots ≤ R.slots) (hdg : decode y0.2.1 pc = .ok (.invokestatic idx, 3))
    (kk : ∀ (w1 : va_W) (H1 : Heap) (locs1 : List Loc), hc_H D s wd0 w1 H1 locs1 → hb_wd hb_KT s U w1 q.2.2.2.1.1 → hb_fr q.2.2.2.1.2 w w1 → (∀ (c0 k0 : Nat) (v0 : Int), hp_isC q c0 k0 v0 = true → hp_at U w1 c0 k0 v0) → W p l e R s m args below meth c H1 locs1 cells slots Q (F0 m (pc + 3) ls rest)) : W p l e R s m args below meth c H locs cells slots Q (F0 m pc ls st) := by
  obtain ⟨hx, hb, hml, hown, hlocks, hret, hTw⟩ := hBd
  obtain ⟨hvd, hmf⟩ := hb_and2 hvd
  have hcd : Cond.code y.1 y.2.1 y.2.2.1 y.2.2.2 ∈ hb_G.2.1.1 := hb_codeG y (List.mem_of_getElem? hy)
  have hA1 := hc_A hh
  refine hc_callW (mc := 0) (ms := 0) (P := fun v t => v = none ∧ ∃ wd', va_P D vwCl wd' t.heap ∧ hb_wd hb_KT t U wd' q.2.2.2.1.1 ∧ hb_fr q.2.2.2.1.2 w wd' ∧ ∀ (c0 k0 : Nat) (v0 : Int), hp_isC q c0 k0 v0 = true → hp_at U wd' c0 k0 v0) (A1 := va_A w H.size) (free := va_A w H.size) (va_runS (As := As) (n := As.length) (index := idx) (rest := rest) ⟨hx, hb, hml, hown, hTw⟩ (hp_conv hq hy hV0 hC0 hvd hst1 H.size) ⟨⟨rfl, rfl, hR.1, hR.2, hb_wsW hb_goodG hTw hcd, List.mem_cons_self, hTw _ hcd, hTw _ hini, hnm, hnp, hTw _ hlink⟩, hTw _ hsta⟩ ⟨hb_blind hb_GokG _ _ _ _ _ _ _, fun V hV hW => ⟨rfl, by rw [hV], by rw [hV]; exact hh.1, hh.2.1.weaken (fun _ _ _ _ => trivial), hwd.moved hW.alike, hb_Gs.move hb_GokG hW (fun q' h1 h2 => by rw [hV]; exact hh.2.2.2.1 q' h1 h2) hA1 hGs⟩⟩ rfl rfl hsz hst (lv_room hcat) hdg ⟨by omega, by omega⟩) hh.2.2 (fun q _ hq => hA1 q hq) hA1 ?_
  intro v t H1 locs1 ht hvm hP hS
  obtain ⟨rfl, wd', p8, p9, p10, p12⟩ := hP
  exact kk wd' H1 locs1 ⟨by rw [← ht]; exact p8, p10.D hh.2.1, hS⟩ (p9.moved hvm.symm) p10 p12
end HCQ
