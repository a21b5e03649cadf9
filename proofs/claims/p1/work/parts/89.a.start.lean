/-! hs_: what the law's start gives -/
theorem hs_K {s : State} {args : Array Value} (hts : ∀ w ∈ lw_tbl, w.before args s = true) : ∃ D : va_G, va_K D vwCl [] s := by
  obtain ⟨c0, i0, h0⟩ := u_known (C := RX0) (T := TX0) (N := 5) (n := 5) hts (by decide +kernel) (hts (.instantiable RX0 5) (by decide +kernel))
  obtain ⟨c1, i1, h1⟩ := u_known (C := RX1) (T := TX1) (N := 2) (n := 2) hts (by decide +kernel) (hts (.instantiable RX1 2) (by decide +kernel))
  obtain ⟨c2, i2, h2⟩ := u_known (C := RX2) (T := TX2) (N := 8) (n := 8) hts (by decide +kernel) (hts (.instantiable RX2 8) (by decide +kernel))
  obtain ⟨c3, i3, h3⟩ := u_known (C := RX3) (T := TX3) (N := 16) (n := 16) hts (by decide +kernel) (hts (.instantiable RX3 16) (by decide +kernel))
  obtain ⟨c4, i4, h4⟩ := u_known (C := RX4) (T := TX4) (N := 10) (n := 10) hts (by decide +kernel) (hts (.instantiable RX4 10) (by decide +kernel))
  obtain ⟨c5, i5, h5⟩ := u_known (C := RX5) (T := TX5) (N := 4) (n := 4) hts (by decide +kernel) (hts (.instantiable RX5 4) (by decide +kernel))
  obtain ⟨c6, i6, h6⟩ := u_known (C := RX6) (T := TX6) (N := 3) (n := 3) hts (by decide +kernel) (hts (.instantiable RX6 3) (by decide +kernel))
  obtain ⟨c7, i7, h7⟩ := u_known (C := RX7) (T := TX7) (N := 3) (n := 3) hts (by decide +kernel) (hts (.instantiable RX7 3) (by decide +kernel))
  obtain ⟨c8, i8, h8⟩ := u_known (C := RX8) (T := TX8) (N := 6) (n := 6) hts (by decide +kernel) (hts (.instantiable RX8 6) (by decide +kernel))
  obtain ⟨c9, i9, h9⟩ := u_known (C := RX9) (T := TX9) (N := 8) (n := 8) hts (by decide +kernel) (hts (.instantiable RX9 8) (by decide +kernel))
  obtain ⟨c10, i10, h10⟩ := u_known (C := RX10) (T := TX10) (N := 5) (n := 5) hts (by decide +kernel) (hts (.instantiable RX10 5) (by decide +kernel))
  obtain ⟨c11, i11, h11⟩ := u_known (C := RX11) (T := TX11) (N := 12) (n := 12) hts (by decide +kernel) (hts (.instantiable RX11 12) (by decide +kernel))
  obtain ⟨c12, i12, h12⟩ := u_known (C := RX12) (T := TX12) (N := 46) (n := 46) hts (by decide +kernel) (hts (.instantiable RX12 46) (by decide +kernel))
  refine ⟨(fun k => [c0, c1, c2, c3, c4, c5, c6, c7, c8, c9, c10, c11, c12].getD k c0, fun k => [i0, i1, i2, i3, i4, i5, i6, i7, i8, i9, i10, i11, i12].getD k i0), ⟨fun k q hq => ?_, fun k q h => by simp at h⟩⟩
  match k, hq with
  | 0, hq => cases hq; exact h0
  | 1, hq => cases hq; exact h1
  | 2, hq => cases hq; exact h2
  | 3, hq => cases hq; exact h3
  | 4, hq => cases hq; exact h4
  | 5, hq => cases hq; exact h5
  | 6, hq => cases hq; exact h6
  | 7, hq => cases hq; exact h7
  | 8, hq => cases hq; exact h8
  | 9, hq => cases hq; exact h9
  | 10, hq => cases hq; exact h10
  | 11, hq => cases hq; exact h11
  | 12, hq => cases hq; exact h12
  | k + 13, hq => simp [vwCl] at hq
theorem hs_nw1 : ∀ w ∈ hb_NW, w ∈ lw_tbl := by decide +kernel
theorem hs_nw2 : ∀ w ∈ hb_NW, w.onTables = true := by decide +kernel
theorem hs_n1 : hc_N1 ∈ lw_tbl ∧ hc_N2 ∈ lw_tbl ∧ hc_N3 ∈ lw_tbl := by decide +kernel
theorem hs_n2 : hc_N1.onTables = true ∧ hc_N2.onTables = true ∧ hc_N3.onTables = true := by decide +kernel
theorem hs_ao : Cond.arrayOver (.object "HopeBank$Town") ∈ lw_tbl ∧ Cond.arrayOver (.array .long) ∈ lw_tbl := by decide +kernel
theorem hs_X {s : State} {args : Array Value} (hts : ∀ w ∈ lw_tbl, w.before args s = true) : hc_X s :=
  ⟨va_AO.of (hts _ hs_ao.1), hts _ hs_ao.2, va_Nw.of hs_n2.1 (hts _ hs_n1.1), va_Nw.of hs_n2.2.1 (hts _ hs_n1.2.1), va_Nw.of hs_n2.2.2 (hts _ hs_n1.2.2)⟩
def hs_tk : List Nat := [58, 114, 120, 122, 124, 79, 126, 128, 90, 130, 132, 134, 98, 144, 146, 106, 148, 150]
def hs_tm (i : Nat) : Term := .string "HopeBank$Reader" (hs_tk.getD i 0)
def hs_F : List Cond := flatC (.and given_1 narrow_1)
theorem hs_f1 : ∀ i, i < 18 → Cond.exactly (hs_tm i) "java/lang/String" ∈ hs_F := by decide +kernel
theorem hs_f2 : ∀ i, i < 18 → Cond.eq (.field (hs_tm i) "java/lang/String" "coder" "B") (.int 0) ∈ hs_F := by decide +kernel
theorem hs_f3 : ∀ i, i < 18 → Cond.arrayOf (.field (hs_tm i) "java/lang/String" "value" "[B") .byte ∈ hs_F := by decide +kernel
theorem hs_f4 : ∀ i, i < 18 → Cond.eq (.length (.field (hs_tm i) "java/lang/String" "value" "[B")) (.int (Int32.ofNat (hb_TL.getD i 0))) ∈ hs_F := by decide +kernel
theorem hs_f5 : ∀ i, i < 18 → ∀ j, j < hb_TL.getD i 0 → Cond.eq (.elem (.field (hs_tm i) "java/lang/String" "value" "[B") (.int (Int32.ofNat j))) (.int ((hb_TB.getD i []).getD j 0)) ∈ hs_F := by decide +kernel
theorem hs_f6 : ∀ i, i < 18 → hb_TL.getD i 0 < 2 ^ 31 := by decide +kernel
theorem hs_f7 : ∀ i, i < 18 → ∀ j, j < 18 → hb_TL.getD i 0 = hb_TL.getD j 0 → (∀ k, k < hb_TL.getD i 0 → (hb_TB.getD i []).getD k 0 = (hb_TB.getD j []).getD k 0) → i = j := by decide +kernel
theorem hs_f8 : ∀ z ∈ hb_SL, z.2.2 < 18 ∧ (z.1 = "HopeBank$Reader" ∧ z.2.1 = hs_tk.getD z.2.2 0 ∨ Cond.eq (hs_tm z.2.2) (.string z.1 z.2.1) ∈ hs_F) ∧ Cond.stringRef z.1 z.2.1 (hb_TX.getD z.2.2 "") ∈ lw_tbl := by decide +kernel
theorem hs_f9 : Cond.eq (.static "java/lang/String" "COMPACT_STRINGS" "Z") (.int 1) ∈ hs_F ∧ Cond.isRef (.static "jdk/internal/util/Preconditions" "SIOOBE_FORMATTER" "Ljava/util/function/BiFunction;") ∈ hs_F := by decide +kernel
theorem hs_g1 : Cond.laysStatic "java/lang/String" "COMPACT_STRINGS" "Z" ∈ lw_tbl ∧ Cond.initialized "java/lang/String" ∈ lw_tbl := by decide +kernel
theorem hs_g2 : Cond.laysStatic "jdk/internal/util/Preconditions" "SIOOBE_FORMATTER" "Ljava/util/function/BiFunction;" ∈ lw_tbl ∧ Cond.initialized "jdk/internal/util/Preconditions" ∈ lw_tbl := by decide +kernel
theorem hs_OF {o n d : String} {v1 v2 a : Nat} {A : Nat → Prop} {U : State} {H : Heap} (h1 : va_OF o n d (.ref v1) a A U H) (h2 : va_OF o n d (.ref v2) a A U H) : v1 = v2 := by
  obtain ⟨cf, k, fi, f, cell, e1, e2, e3, e4, e5, -⟩ := h1
  obtain ⟨cf', k', fi', f', cell', e1', e2', e3', e4', e5', -⟩ := h2
  rw [e1] at e1'
  cases e1'
  rw [e3] at e3'
  cases e3'
  rw [e5] at e5'
  cases e5'
  rfl
