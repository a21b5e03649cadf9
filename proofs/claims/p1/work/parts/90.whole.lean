theorem hs_d0 : decode code 0 = .ok (.new 7, 3) := by decide +kernel
theorem hs_d3 : decode code 3 = .ok (.dup, 1) := by decide +kernel
theorem hs_d4 : decode code 4 = .ok (.invokespecial 9, 3) := by decide +kernel
theorem hs_d7 : decode code 7 = .ok (.astore_n 1, 1) := by decide +kernel
theorem hs_d8 : decode code 8 = .ok (.new 10, 3) := by decide +kernel
theorem hs_d11 : decode code 11 = .ok (.dup, 1) := by decide +kernel
theorem hs_d12 : decode code 12 = .ok (.invokespecial 12, 3) := by decide +kernel
theorem hs_d15 : decode code 15 = .ok (.astore_n 2, 1) := by decide +kernel
theorem hs_d16 : decode code 16 = .ok (.iconst 0, 1) := by decide +kernel
theorem hs_d17 : decode code 17 = .ok (.istore_n 3, 1) := by decide +kernel
theorem hs_d2381 : decode code 2381 = .ok (.iconst 1, 1) := by decide +kernel
theorem hs_d2382 : decode code 2382 = .ok (.ireturn, 1) := by decide +kernel
theorem hs_w80 : Cond.instantiable "HopeBank" 12 ∈ hb_G.2.1.1 := hb_wm (i := 133) (by decide +kernel)
theorem hs_w81 : Cond.initialized "HopeBank" ∈ hb_G.2.1.1 := hb_wm (i := 111) (by decide +kernel)
theorem hs_w82 : Cond.classLink "HopeBankLaw" 7 "HopeBank" ∈ hb_G.2.1.1 := hb_wm (i := 132) (by decide +kernel)
theorem hs_w83 : Cond.methodLink "HopeBankLaw" 9 ⟨"HopeBank", "<init>", "()V"⟩ ∈ hb_G.2.1.1 := hb_wm (i := 134) (by decide +kernel)
theorem hs_w84 : Cond.instanceMethod ⟨"HopeBank", "<init>", "()V"⟩ ∈ hb_G.2.1.1 := hb_wm (i := 135) (by decide +kernel)
theorem hs_w85 : Cond.instantiable "HopeBankModel" 46 ∈ hb_G.2.1.1 := hb_wm (i := 1551) (by decide +kernel)
theorem hs_w86 : Cond.initialized "HopeBankModel" ∈ hb_G.2.1.1 := hb_wm (i := 125) (by decide +kernel)
theorem hs_w87 : Cond.classLink "HopeBankLaw" 10 "HopeBankModel" ∈ hb_G.2.1.1 := hb_wm (i := 1550) (by decide +kernel)
theorem hs_w88 : Cond.methodLink "HopeBankLaw" 12 ⟨"HopeBankModel", "<init>", "()V"⟩ ∈ hb_G.2.1.1 := hb_wm (i := 1552) (by decide +kernel)
theorem hs_w89 : Cond.instanceMethod ⟨"HopeBankModel", "<init>", "()V"⟩ ∈ hb_G.2.1.1 := hb_wm (i := 1553) (by decide +kernel)
/-! THE CLAIM OUT OF ONE WALK OF THE LAW'S BODY. Your part is whole_start (and what it stands on); all else here is the same for every law, but numbers. -/
def R_law : String := "HopeBankLaw"
def lw_P (b : Addr) (xs : List Int32) (args : Array Value) (s : State) : Prop := args = #[.ref b] ∧ s.IntsAt b xs ∧ xs.length ≤ 6 ∧ (Jvm.Cond.and given_1 narrow_1).before args s = true
def lw_Q (_ : Array Value) (s : State) (o : Outcome) (t : State) : Prop := o = .returned (some (.int 1)) ∧ Framed s o t [] 600000 7302250
def lw_Z (below : List Frame) (a : Array Value) (s : State) : State → Prop := fun t => ∃ o, t.status = .running ∧ Ended t below o ∧ lw_Q a s o t
/-- the law's own end, with 1 on the stack, nothing written that was there before, its room as the claim has it -/
theorem lw_ret {p : Program} {l : Launch} {e : Env} {s : State} {m : MethodId} {below : List Frame} {meth : Method} {c : Code} {b : Nat} (hx : p.tables.exec = Jvm.exec) (hb : c.code = code) (hr : meth.sig.returnType = ret) (hlocks : meth.locks = false) {pc : Nat} {H : Heap} {ls : Array Slot} (hdg : decode code pc = .ok (.ireturn, 1)) : W p l e room_1 s m #[Value.ref b] below meth c H [] 600000 7302250 (lw_Z below #[Value.ref b] s) (F0 m pc ls [.int 1]) := by
  intro T hT X
  obtain ⟨fs, hret, hrun, hended, hW, hframe⟩ := X.leave (v := some (.int 1)) (hlocks := hlocks) (fun h => by rw [hr] at h; cases h)
  have hmeth' : T.vm.method? m = some meth := X.method'
  refine ⟨T.setFrames fs, ?_, .returned (some (.int 1)), hrun, hended, rfl, ⟨_, rfl⟩, hW, hframe⟩
  jvm_step X.here [X.here.top, hx, hb, hdg, hmeth', hr, ret, narrow_b1]
  (try refine ⟨rfl, ?_⟩); (try refine ⟨rfl, ?_⟩)
  first | (intro acts; rw [hret _ acts rfl rfl rfl]) | rw [hret _ _ rfl rfl rfl]
  exact Steps.refl _
/-- what holds at the law's entry: the machine, the code, the tables' words (any of lw_tbl by 'hts w (by decide +kernel)'), the script of L ints xs at the cell b, what the Statement gives of the start (any of its parts by flat_of_before) -/
def lw_At (p : Program) (s : State) (m : MethodId) (meth : Method) (c : Code) (b L : Nat) (xs : Nat → Int32) : Prop :=
  p.tables.exec = Jvm.exec ∧ c.code = code ∧ meth.sig.returnType = ret ∧ c.maxLocals = 4 ∧ s.vm.findClass R_law = some m.cls ∧ (∀ w ∈ lw_tbl, w.before #[Value.ref b] s = true) ∧ va_X b L xs s s.heap ∧ b < s.heap.size ∧ meth.locks = false ∧ (Jvm.Cond.and given_1 narrow_1).before #[Value.ref b] s = true
set_option maxHeartbeats 16000000 in
theorem whole_start {p : Program} {e : Env} {s : State} {m : MethodId} {below : List Frame} {meth : Method} {c : Code} (l : Launch) (hflags : l.flags = flags0) {b L : Nat} {xs : Nat → Int32} (hL : L ≤ 6) (C0 : lw_At p s m meth c b L xs) : W p l e room_1 s m #[Value.ref b] below meth c s.heap [] 0 0 (lw_Z below #[Value.ref b] s) (entryFrame m ([Value.ref b] : List Value).toArray 4) := by
  obtain ⟨hx, hb, hr, hml, hown, hts, hX0, hbl, hlocks, hgv⟩ := id C0
  have hTw : ∀ w ∈ hb_G.2.1.1, w.before #[Value.ref b] s = true := fun w h => hts w (List.mem_filter.mp h).1
  obtain ⟨D, S, hGs⟩ := hs_Gs hts hgv
  have hXc := hs_X hts
  have hGs0 : hb_Gs hb_G D (va_A [] s.heap.size) S s := by rw [hs_A]; exact hGs
  have hBd : hb_Bd hb_G (⟨"HopeBankLaw", "law", "([I)Z"⟩, code, 4, ret) p s m #[Value.ref b] meth c := ⟨hx, hb, hml, hown, hlocks, hr, hTw⟩
  have hh : hc_H D s [] [] s.heap [] := ⟨fun k q h => by simp at h, ⟨fun i j p q h => by simp at h, fun k q h => by simp at h⟩, va_S.rf⟩
  have hl := lv_entry ([.ref b]) (n := 4) (Nat.le_of_ble_eq_true rfl)
  rw [lg_entry_eq]
  generalize (lg_sl ([.ref b]) ++ List.replicate (4 - (lg_sl ([.ref b])).length) Slot.unset).toArray = ls at hl ⊢
  have hl : lv_has ls 4 [(0, .ref b)] := hl
  refine hc_new (ci := 11) (fs := hc_Z_HopeBank) (own := "HopeBankLaw") (C := RX11) (T := TX11) (N := 12) (ty := tyX11) hx hb hown hTw hGs.1 hh rfl tyX11_ok hc_Zok_HopeBank hs_w82 hs_w80 hs_w81 (Nat.le_of_ble_eq_true rfl) (Nat.le_of_ble_eq_true rfl) hs_d0 (fun q1 H1 hh1 => ?_)
  have hh1 : hc_H D s [] [(q1, .inr (11, hc_Z_HopeBank))] _ _ := hh1
  refine lv_dup hx hb hs_d3 rfl ?_
  refine hc_cI (nm := ⟨"HopeBank", "<init>", "()V"⟩) (bc := prog_1_method_1_code) (mL := 2) (b := q1) (As := []) (rest := [.ref q1]) (fp := []) (U := (hc_ad [(q1, .inr (11, hc_Z_HopeBank))])) hBd hGs0 hXc hh1 hc_nofp (hc_HopeBank rfl rfl) hc_cd_HopeBank hs_w81 hs_w83 hs_w84 rfl (by decide) ⟨(Nat.le_of_ble_eq_true rfl), (Nat.le_of_ble_eq_true rfl)⟩ (fun sig h => by cases h; rfl) hl.1 rfl (Nat.le_of_ble_eq_true rfl) ⟨(Nat.le_of_ble_eq_true rfl), (Nat.le_of_ble_eq_true rfl)⟩ hs_d4 (fun t w1 H2 locs2 hv hp hh2 => ?_)
  obtain ⟨⟨p1, p2, p3, p4⟩, p5⟩ := hp
  have p4 := p4.moved hv.symm
  have ad0 : hc_ad w1 0 = q1 := p2 0 (Nat.zero_lt_succ _)
  refine lv_astore_n (lv' := [(1, .ref q1), (0, .ref b)]) hx hb hs_d7 rfl hl (by decide) rfl (fun ls2 hl2 => ?_)
  refine hc_new (ci := 12) (fs := hc_Z_HopeBankModel) (own := "HopeBankLaw") (C := RX12) (T := TX12) (N := 46) (ty := tyX12) hx hb hown hTw hGs.1 hh2 rfl tyX12_ok hc_Zok_HopeBankModel hs_w87 hs_w85 hs_w86 (Nat.le_of_ble_eq_true rfl) (Nat.le_of_ble_eq_true rfl) hs_d8 (fun q2 H3 hh3 => ?_)
  refine lv_dup hx hb hs_d11 rfl ?_
  refine hc_cI (nm := ⟨"HopeBankModel", "<init>", "()V"⟩) (bc := prog_14_method_1_code) (mL := 1) (b := q2) (As := []) (rest := [.ref q2]) (fp := []) (U := (hc_ad w1)) hBd hGs0 hXc hh3 hc_nofp (hc_HopeBankModel (U := hc_ad w1) (n0 := 125) (ki := 124) (by rw [List.length_append, p1]; rfl) ((hc_gr (n := 124) (i := 0) p1).trans rfl)) hc_cd_HopeBankModel hs_w86 hs_w88 hs_w89 rfl (by decide) ⟨(Nat.le_of_ble_eq_true rfl), (Nat.le_of_ble_eq_true rfl)⟩ (fun sig h => by cases h; rfl) hl2.1 rfl (Nat.le_of_ble_eq_true rfl) ⟨(Nat.le_of_ble_eq_true rfl), (Nat.le_of_ble_eq_true rfl)⟩ hs_d12 (fun t2 w2 H4 locs4 hv2 hp2 hh4 => ?_)
  obtain ⟨k, hk0⟩ := hc_Kof hTw
  obtain ⟨bb, hbb⟩ := hp2 k (hk0.moved hv2)
  rw [hc_sR (n := 124) (i := 0) p1, List.append_assoc] at hbb
  obtain ⟨i1, i2, i3⟩ := hs_world (q2 := q2) (b := bb) p1 p4 p5 hk0 hbb
  refine lv_astore_n (lv' := [(2, .ref q2), (1, .ref q1), (0, .ref b)]) hx hb hs_d15 rfl hl2 (by decide) rfl (fun ls3 hl3 => ?_)
  refine lv_iconst (v := nI 0) hx hb hs_d16 (by decide) ?_
  refine lv_istore_n (lv' := [(3, .int (nI 0)), (2, .ref q2), (1, .ref q1), (0, .ref b)]) hx hb hs_d17 rfl hl3 (by decide) rfl (fun ls4 hl4 => ?_)
  have hd5 : va_D (fun q => s.heap.size ≤ q) w2 := by have h := hh4.2.1; rw [hs_A] at h; exact h
  have hs5 : va_S (fun q => s.heap.size ≤ q) s.heap H4 locs4 := by have h := hh4.2.2; rw [hs_A] at h; exact h
  refine hl_loop (U := hc_ad w2) ⟨hx, hb, hml, hown, hTw, hX0, hbl, hGs, (by omega), hr, hlocks⟩ ⟨(Nat.le_of_ble_eq_true rfl), (Nat.le_of_ble_eq_true rfl)⟩ (by omega) (fun ls5 H6 locs6 hS6 => ?_) w2 ls4 H4 locs4 ⟨hh4.1, hd5, hs5, i1⟩ (by rw [i3, ad0, i2]; exact lv_sub hl4 [3, 2, 1, 0] rfl)
  refine va_forget (fun q hq => hS6.2.2 q hq) ?_
  refine W.widen (k := 600000) (n := 7302250) (Nat.le_of_ble_eq_true rfl) (Nat.le_of_ble_eq_true rfl) ?_
  refine lv_iconst (v := 1) hx hb hs_d2381 (by decide) ?_
  exact lw_ret hx hb hr hlocks hs_d2382
-- ===== YOUR PART ENDS =====
set_option maxHeartbeats 4000000 in
theorem lw_walk (l : Launch) (hflags : l.flags = flags0) (b : Addr) (xs : List Int32) : MetFree l x (headSpec (Jvm.Cond.code x code maxLocals ret :: tables_1) room_1) (lw_P b xs) (fun _ _ _ _ _ => True) lw_Q := by
  refine MetFree.of_bodyS (code := code) (maxLocals := maxLocals) (ret := ret) (by decide) ?_ ?_
  · intro args s m h hn
    obtain ⟨meth, c, h1, h2, h3, h4, h5, h6, -, -⟩ := Cond.code_spec hn (atoms_spec (ws := Jvm.Cond.code x code maxLocals ret :: tables_1) h _ List.mem_cons_self)
    exact ⟨meth, c, h1, h2, h3, h4, h5, h6⟩
  · intro p e s m args below meth c s₁ B hml0 hP _
    obtain ⟨rfl, hx, hbd, hgv⟩ := hP
    obtain ⟨scr, harrAt, hlist, hof, hsmall⟩ := hx
    obtain ⟨hcb, hkn, -, -⟩ := State.arrayAt?_spec harrAt
    have hown : s.vm.findClass R_law = some m.cls := findClass_of_methodNamed B.named
    have hts0 : ∀ c ∈ (Jvm.Cond.code x code maxLocals ret :: tables_1), c.before #[Value.ref b] s = true := atoms_spec (ws := Jvm.Cond.code x code maxLocals ret :: tables_1) B.pre
    have hts : ∀ w ∈ lw_tbl, w.before #[Value.ref b] s = true := k2_hts_sels lw_privs (fun w hw => hts0 w (List.mem_cons_of_mem _ hw)) lw_privs_ok
    have hml : c.maxLocals = 4 := B.maxLocals_eq (hts0 _ List.mem_cons_self)
    have X₀ : Stand p l e room_1 s m #[Value.ref b] below meth c s₁ [] 0 0 := Stand.of_body B
    have hh0 : s₁.heap = s.heap := by rw [B.state]; rfl
    have hsz : scr.slots.size = xs.length := by rw [← Array.length_toList, hlist, List.length_map]
    have hval : ∀ j : Nat, j < xs.length → scr.slots[j]? = some (.int (xs.getD j 0)) := fun j hj => by
      rw [← Array.getElem?_toList, hlist]
      simp [hj]
    have hbl : b < s.heap.size := (Array.getElem?_eq_some_iff.mp hcb).1
    have hX : va_X b xs.length (fun j => xs.getD j 0) s s.heap := ⟨scr, hcb, hof, hkn, hsz, hval⟩
    have K : W p l e room_1 s m #[Value.ref b] below meth c s₁.heap [] 0 0 (lw_Z below #[Value.ref b] s) (entryFrame m ([Value.ref b] : List Value).toArray 4) := by
      rw [hh0]
      exact whole_start l hflags hbd ⟨B.exec, B.bytes, B.returns, hml, hown, hts, hX, hbl, B.notSynchronized, hgv⟩
    obtain ⟨t, a1, o, b1, b2, b3⟩ := K s₁ rfl X₀
    exact ⟨t, o, a1, b1, b2, b3⟩
theorem lw_pre_spec {args : Array Value} {s : State} (h : (Jvm.Cond.and given_1 narrow_1).before args s = true) (hr : rest_1_c.before args s = true) : ∃ (b : Addr) (xs : List Int32), lw_P b xs args s := by
  have hs := flat_of_before _ h
  have hq := flat_of_before _ hr
  have hc : (Cond.count 1).before args s = true := hs _ (by decide +kernel)
  have harr : (Cond.arrayOf (.arg 0) .int).before args s = true := hs _ (by decide +kernel)
  have hle : (Cond.le (.length (.arg 0)) (.int 6)).before args s = true := hs _ (by decide +kernel)
  have hlen : (Cond.isInt (.length (.arg 0))).before args s = true := hq _ (by decide +kernel)
  have hall : (Cond.all (.arg 0) (.isInt (.elem (.arg 0) (.index 0)))).before args s = true := hq _ (by decide +kernel)
  obtain ⟨b, xs, hb, hx⟩ := State.ints_of_pre rfl harr hlen hall
  have hsm : xs.length < 2 ^ 31 := hx.choose_spec.2.2.2
  have hev : (Term.length (.arg 0)).eval args s none [] s = some (.int xs.length.toInt32) := hx.length_eval hb
  have hv := Cond.le_ints hev (show (Term.int 6).eval args s none [] s = some (.int 6) from rfl)
  have hd : xs.length.toInt32 ≤ 6 := by
    simpa [Cond.before, Cond.holds, hv] using hle
  have hN : xs.length ≤ 6 := (Int32.ofNat_le_ofNat hsm (by decide)).mp (show Int32.ofNat xs.length ≤ Int32.ofNat 6 from hd)
  exact ⟨b, xs, Cond.one_arg hc (show args[0]? = some (.ref b) from hb), hx, hN, h⟩
theorem lw_comes (l : Launch) (hflags : l.flags = flags0) : Comes l x (Jvm.Cond.code x code maxLocals ret :: tables_1) room_1 (fun tb e args s => Calls_1 tb e args s ∧ rest_1 tb e args s ∧ Pre_1 tb e args s)
    (fun _ _ args s o t => lw_Q args s o t) := by
  intro p e ha hc hk s m args below hf hfit hheap happ hpre
  obtain ⟨b, xs, hP⟩ := lw_pre_spec hpre.2.2 hpre.2.1
  obtain ⟨k, o, h1, h2, h3, hQ⟩ := lw_walk l hflags b xs p e ha hc hk s m args below hf ((Spec.applies_iff_loose hf).mp happ).1 hP trivial
  exact ⟨k, o, h1, h2, h3, hQ⟩
theorem lw_frame {s t : State} {o : Outcome} {args : Array Value} (h : Framed s o t [] 600000 7302250) :
    Framed s o t (fieldLocs frame_1_writes args s ++ arrayLocs frame_1_arrays args s ++ staticLocs frame_1_statics s) 600000 7302250 := h
theorem lw_limb (L : Cond) (hL : ∀ (args : Array Value) (s t : State), L.after args s (.returned (some (.int 1))) t = true) :
    ArmFor flags0 classFile x code maxLocals ret World_1 tables_1 room_1 Calls_1 rest_1 Pre_1
      (fun tb e a s o t => postC L tb e a s o t ∧ Framed s o t (fieldLocs frame_1_writes a s ++ arrayLocs frame_1_arrays a s ++ staticLocs frame_1_statics s) 600000 7302250) := by
  intro l hflags _ _ p e ha hc hk s m args below hf hfit hheap happ hpre
  obtain ⟨k, o, h1, h2, h3, rfl, hF⟩ := lw_comes l hflags p e ha hc hk s m args below hf hfit hheap happ hpre
  exact ⟨k, _, h1, h2, h3, hL args s _, lw_frame hF⟩
theorem i_vc : Claimed_1_1 ∧ Claimed_1_2 := ⟨lw_limb limb_1_1 (fun args s t => by simp [limb_1_1, Cond.after, Cond.holds, Cond.value]), lw_limb limb_1_2 (fun args s t => Cond.after_iff.mpr (by
  first | (rw [show limb_1_2 = Cond.eq .result (.int 1) from rfl, Cond.eq_ints (x := 1) (y := 1) rfl rfl]; simp; done) | (simp [limb_1_2, Cond.value, Term.eval]; done)))⟩
