theorem ao_X4 : (Jvm.Cond.arrayOver (Jvm.ClassFile.FieldType.object "MownWords$Strip")) ∈ lw_tbl := List.mem_of_getElem? (i := 76) (by decide +kernel)
theorem ao_X6 : (Jvm.Cond.arrayOver (Jvm.ClassFile.FieldType.object "MownWords$Word")) ∈ lw_tbl := List.mem_of_getElem? (i := 78) (by decide +kernel)
theorem ao_X3 : (Jvm.Cond.arrayOver (Jvm.ClassFile.FieldType.object "MownWords$Sheet")) ∈ lw_tbl := List.mem_of_getElem? (i := 238) (by decide +kernel)
theorem ao_Ai : (Jvm.Cond.arrayOver (Jvm.ClassFile.FieldType.array Jvm.ClassFile.FieldType.int)) ∈ lw_tbl := List.mem_of_getElem? (i := 161) (by decide +kernel)
theorem ao_Al : (Jvm.Cond.arrayOver (Jvm.ClassFile.FieldType.array Jvm.ClassFile.FieldType.long)) ∈ lw_tbl := List.mem_of_getElem? (i := 182) (by decide +kernel)
theorem ls_SHAPES : (Jvm.Cond.laysStatic "MownWords" "SHAPES" "[I") ∈ lw_tbl := List.mem_of_getElem? (i := 185) (by decide +kernel)
theorem ls_FIRST_SETTINGS : (Jvm.Cond.laysStatic "MownWords" "FIRST_SETTINGS" "[I") ∈ lw_tbl := List.mem_of_getElem? (i := 74) (by decide +kernel)
theorem ls_HIGHEST_SETTINGS : (Jvm.Cond.laysStatic "MownWords" "HIGHEST_SETTINGS" "[I") ∈ lw_tbl := List.mem_of_getElem? (i := 302) (by decide +kernel)
theorem ar_int {s : State} {args : Array Value} (h : (Cond.arrayClass .int).before args s = true) : ∃ c : ClassId, ArrOfT s c .int ∧ va_RA s c .int := by
  obtain ⟨c, k, comp, h1, h2, h3⟩ := Cond.arrayClass_spec h
  exact ⟨c, fun n z => ⟨fun k h => (by cases h), k, h2, comp, h3⟩, h1⟩
theorem ar_byte {s : State} {args : Array Value} (h : (Cond.arrayClass .byte).before args s = true) : ∃ c : ClassId, ArrOfT s c .byte ∧ va_RA s c .byte := by
  obtain ⟨c, k, comp, h1, h2, h3⟩ := Cond.arrayClass_spec h
  exact ⟨c, fun n z => ⟨fun k h => (by cases h), k, h2, comp, h3⟩, h1⟩
theorem ar_long {s : State} {args : Array Value} (h : (Cond.arrayClass .long).before args s = true) : ∃ c : ClassId, ArrOfT s c .long ∧ va_RA s c .long := by
  obtain ⟨c, k, comp, h1, h2, h3⟩ := Cond.arrayClass_spec h
  exact ⟨c, fun n z => ⟨fun k h => (by cases h), k, h2, comp, h3⟩, h1⟩
theorem ar_obj {C : String} {s : State} {args : Array Value} (h : (Cond.arrayOver (.object C)).before args s = true) : ∃ c : ClassId, ArrOfT s c (.object C) ∧ va_RA s c (.object C) := by
  obtain ⟨comp, c, k, f1, -, f2, f3, f4⟩ := Cond.arrayOver_spec h
  exact ⟨c, fun n z => ⟨fun k h => (by cases h), k, f2, comp, f3⟩, k, comp, f2, f3, f1, f4⟩
theorem ar_arr {t : FieldType} {s : State} {args : Array Value} (h : (Cond.arrayOver (.array t)).before args s = true) : ∃ c : ClassId, ArrOfT s c (.array t) ∧ va_RA s c (.array t) := by
  obtain ⟨comp, c, k, f1, f2, f3, f4⟩ := Cond.arrayOver_specA h
  exact ⟨c, fun n z => ⟨fun k h => (by cases h), k, f2, comp, f3⟩, f4⟩
section LW3
variable {s : State} {args : Array Value}
theorem lw_world (hts : ∀ w ∈ lw_tbl, w.before args s = true) : ∃ (D : va_G) (cid : Nat → ClassId), va_K D vwCl (tysL cid) s := by
  have hu : ∀ w ∈ UW, w.before args s = true := fun w h => hts w (uwm h)
  obtain ⟨c0, i0, h0⟩ := u_known (C := RX0) (T := TX0) (N := 7) (n := 7) hu fx_X0 (hu _ it_RX0)
  obtain ⟨c1, i1, h1⟩ := u_known (C := RX1) (T := TX1) (N := 5) (n := 5) hu fx_X1 (hu _ it_RX1)
  obtain ⟨c2, i2, h2⟩ := u_known (C := RX2) (T := TX2) (N := 4) (n := 4) hu fx_X2 (hu _ it_RX2)
  obtain ⟨c3, i3, h3⟩ := u_known (C := RX3) (T := TX3) (N := 3) (n := 3) hu fx_X3 (hu _ it_RX3)
  obtain ⟨c4, i4, h4⟩ := u_known (C := RX4) (T := TX4) (N := 2) (n := 2) hu fx_X4 (hu _ it_RX4)
  obtain ⟨c5, i5, h5⟩ := u_known (C := RX5) (T := TX5) (N := 5) (n := 5) hu fx_X5 (hu _ it_RX5)
  obtain ⟨c6, i6, h6⟩ := u_known (C := RX6) (T := TX6) (N := 3) (n := 3) hu fx_X6 (hu _ it_RX6)
  obtain ⟨c7, i7, h7⟩ := u_known (C := RX7) (T := TX7) (N := 7) (n := 7) hu fx_X7 (hu _ it_RX7)
  obtain ⟨c8, i8, h8⟩ := u_known (C := RX8) (T := TX8) (N := 27) (n := 27) hu fx_X8 (hu _ it_RX8)
  obtain ⟨a0, t0⟩ := ar_int (hu _ ac_int)
  obtain ⟨a1, t1⟩ := ar_byte (hu _ ac_byte)
  obtain ⟨a2, t2⟩ := ar_long (hu _ ac_long)
  obtain ⟨a3, t3⟩ := ar_obj (hts _ ao_X4)
  obtain ⟨a4, t4⟩ := ar_obj (hts _ ao_X6)
  obtain ⟨a5, t5⟩ := ar_arr (hts _ ao_Ai)
  obtain ⟨a6, t6⟩ := ar_obj (hts _ ao_X3)
  obtain ⟨a7, t7⟩ := ar_arr (hts _ ao_Al)
  refine ⟨(fun k => [c0, c1, c2, c3, c4, c5, c6, c7, c8].getD k c0, fun k => [i0, i1, i2, i3, i4, i5, i6, i7, i8].getD k i0), fun k => [a0, a1, a2, a3, a4, a5, a6, a7].getD k a0, fun k q hq => ?_, fun k q hq => ?_⟩
  · match k, hq with
    | 0, hq => cases hq; exact h0
    | 1, hq => cases hq; exact h1
    | 2, hq => cases hq; exact h2
    | 3, hq => cases hq; exact h3
    | 4, hq => cases hq; exact h4
    | 5, hq => cases hq; exact h5
    | 6, hq => cases hq; exact h6
    | 7, hq => cases hq; exact h7
    | 8, hq => cases hq; exact h8
    | k + 9, hq => simp [vwCl] at hq
  · match k, hq with
    | 0, hq => cases hq; exact t0
    | 1, hq => cases hq; exact t1
    | 2, hq => cases hq; exact t2
    | 3, hq => cases hq; exact t3
    | 4, hq => cases hq; exact t4
    | 5, hq => cases hq; exact t5
    | 6, hq => cases hq; exact t6
    | 7, hq => cases hq; exact t7
    | k + 8, hq => simp [tysL] at hq
theorem lw_aos (hts : ∀ w ∈ lw_tbl, w.before args s = true) : AOs s := ⟨va_AO.of (hts _ ao_X4), va_AO.of (hts _ ao_X6), va_AO.of (hts _ ao_X3), hts _ ao_Ai, hts _ ao_Al⟩
theorem lw_nw (hts : ∀ w ∈ lw_tbl, w.before args s = true) : Nw s := ⟨va_Nw.of rfl (hts _ nl_RX0_9), va_Nw.of rfl (hts _ nl_RX0_49), va_Nw.of rfl (hts _ nl_RX0_50), va_Nw.of rfl (hts _ nl_RX7_25), va_Nw.of rfl (hts _ nl_RX1_32), va_Nw.of rfl (hts _ nl_RX5_32), va_Nw.of rfl (hts _ nl_RX7_50), va_Nw.of rfl (hts _ nl_RX0_92), va_Nw.of rfl (hts _ nl_RX5_33), va_Nw.of rfl (hts _ nl_RX2_66), va_Nw.of rfl (hts _ nl_RX0_105)⟩
theorem lw_SHAPES (hts : ∀ w ∈ lw_tbl, w.before args s = true) (hgv : (Jvm.Cond.and given_1 narrow_1).before args s = true) : St1 "MownWords" "SHAPES" 26 v26 (fun q : Nat => s.heap.size ≤ q) s s.heap := by
  have hs := flat_of_before _ hgv
  have hA : ∀ q : Nat, q < s.heap.size → ¬ (fun q : Nat => s.heap.size ≤ q) q := fun q hq => Nat.not_le.mpr hq
  have hel : ∀ j : Nat, j < 26 → (Term.elem (.static "MownWords" "SHAPES" "[I") (.int (Int32.ofNat j))).eval args s none [] s = some (.int (v26 j)) := by
    intro j hj
    rcases (show j = 0 ∨ j = 1 ∨ j = 2 ∨ j = 3 ∨ j = 4 ∨ j = 5 ∨ j = 6 ∨ j = 7 ∨ j = 8 ∨ j = 9 ∨ j = 10 ∨ j = 11 ∨ j = 12 ∨ j = 13 ∨ j = 14 ∨ j = 15 ∨ j = 16 ∨ j = 17 ∨ j = 18 ∨ j = 19 ∨ j = 20 ∨ j = 21 ∨ j = 22 ∨ j = 23 ∨ j = 24 ∨ j = 25 by omega) with rfl | rfl | rfl | rfl | rfl | rfl | rfl | rfl | rfl | rfl | rfl | rfl | rfl | rfl | rfl | rfl | rfl | rfl | rfl | rfl | rfl | rfl | rfl | rfl | rfl | rfl
    · exact va_eqt (z := 23530) (hs (.eq (.elem (.static "MownWords" "SHAPES" "[I") (.int 0)) (.int 23530)) (by decide +kernel))
    · exact va_eqt (z := 15083) (hs (.eq (.elem (.static "MownWords" "SHAPES" "[I") (.int 1)) (.int 15083)) (by decide +kernel))
    · exact va_eqt (z := 25166) (hs (.eq (.elem (.static "MownWords" "SHAPES" "[I") (.int 2)) (.int 25166)) (by decide +kernel))
    · exact va_eqt (z := 15211) (hs (.eq (.elem (.static "MownWords" "SHAPES" "[I") (.int 3)) (.int 15211)) (by decide +kernel))
    · exact va_eqt (z := 29391) (hs (.eq (.elem (.static "MownWords" "SHAPES" "[I") (.int 4)) (.int 29391)) (by decide +kernel))
    · exact va_eqt (z := 4815) (hs (.eq (.elem (.static "MownWords" "SHAPES" "[I") (.int 5)) (.int 4815)) (by decide +kernel))
    · exact va_eqt (z := 27470) (hs (.eq (.elem (.static "MownWords" "SHAPES" "[I") (.int 6)) (.int 27470)) (by decide +kernel))
    · exact va_eqt (z := 23533) (hs (.eq (.elem (.static "MownWords" "SHAPES" "[I") (.int 7)) (.int 23533)) (by decide +kernel))
    · exact va_eqt (z := 29847) (hs (.eq (.elem (.static "MownWords" "SHAPES" "[I") (.int 8)) (.int 29847)) (by decide +kernel))
    · exact va_eqt (z := 11044) (hs (.eq (.elem (.static "MownWords" "SHAPES" "[I") (.int 9)) (.int 11044)) (by decide +kernel))
    · exact va_eqt (z := 23277) (hs (.eq (.elem (.static "MownWords" "SHAPES" "[I") (.int 10)) (.int 23277)) (by decide +kernel))
    · exact va_eqt (z := 31305) (hs (.eq (.elem (.static "MownWords" "SHAPES" "[I") (.int 11)) (.int 31305)) (by decide +kernel))
    · exact va_eqt (z := 23549) (hs (.eq (.elem (.static "MownWords" "SHAPES" "[I") (.int 12)) (.int 23549)) (by decide +kernel))
    · exact va_eqt (z := 23547) (hs (.eq (.elem (.static "MownWords" "SHAPES" "[I") (.int 13)) (.int 23547)) (by decide +kernel))
    · exact va_eqt (z := 11114) (hs (.eq (.elem (.static "MownWords" "SHAPES" "[I") (.int 14)) (.int 11114)) (by decide +kernel))
    · exact va_eqt (z := 5099) (hs (.eq (.elem (.static "MownWords" "SHAPES" "[I") (.int 15)) (.int 5099)) (by decide +kernel))
    · exact va_eqt (z := 26474) (hs (.eq (.elem (.static "MownWords" "SHAPES" "[I") (.int 16)) (.int 26474)) (by decide +kernel))
    · exact va_eqt (z := 22379) (hs (.eq (.elem (.static "MownWords" "SHAPES" "[I") (.int 17)) (.int 22379)) (by decide +kernel))
    · exact va_eqt (z := 14478) (hs (.eq (.elem (.static "MownWords" "SHAPES" "[I") (.int 18)) (.int 14478)) (by decide +kernel))
    · exact va_eqt (z := 9367) (hs (.eq (.elem (.static "MownWords" "SHAPES" "[I") (.int 19)) (.int 9367)) (by decide +kernel))
    · exact va_eqt (z := 27501) (hs (.eq (.elem (.static "MownWords" "SHAPES" "[I") (.int 20)) (.int 27501)) (by decide +kernel))
    · exact va_eqt (z := 11117) (hs (.eq (.elem (.static "MownWords" "SHAPES" "[I") (.int 21)) (.int 11117)) (by decide +kernel))
    · exact va_eqt (z := 24557) (hs (.eq (.elem (.static "MownWords" "SHAPES" "[I") (.int 22)) (.int 24557)) (by decide +kernel))
    · exact va_eqt (z := 23213) (hs (.eq (.elem (.static "MownWords" "SHAPES" "[I") (.int 23)) (.int 23213)) (by decide +kernel))
    · exact va_eqt (z := 9389) (hs (.eq (.elem (.static "MownWords" "SHAPES" "[I") (.int 24)) (.int 9389)) (by decide +kernel))
    · exact va_eqt (z := 29351) (hs (.eq (.elem (.static "MownWords" "SHAPES" "[I") (.int 25)) (.int 29351)) (by decide +kernel))
  obtain ⟨t, h1, h2⟩ := va_Tof (tm := (.static "MownWords" "SHAPES" "[I")) (ty := .int) (N := 26) (f := fun j => .int (v26 j)) (by decide) (hs (.arrayOf (.static "MownWords" "SHAPES" "[I") .int) (by decide +kernel)) (va_eqt (z := 26) (hs (.eq (.length (.static "MownWords" "SHAPES" "[I")) (.int 26)) (by decide +kernel))) hel hA
  exact ⟨t, va_Zof (hts _ ls_SHAPES) (hts _ (uwm in_RX7)) h1 hA, h2⟩
theorem lw_HIGHEST_SETTINGS (hts : ∀ w ∈ lw_tbl, w.before args s = true) (hgv : (Jvm.Cond.and given_1 narrow_1).before args s = true) : St1 "MownWords" "HIGHEST_SETTINGS" 4 vHi (fun q : Nat => s.heap.size ≤ q) s s.heap := by
  have hs := flat_of_before _ hgv
  have hA : ∀ q : Nat, q < s.heap.size → ¬ (fun q : Nat => s.heap.size ≤ q) q := fun q hq => Nat.not_le.mpr hq
  have hel : ∀ j : Nat, j < 4 → (Term.elem (.static "MownWords" "HIGHEST_SETTINGS" "[I") (.int (Int32.ofNat j))).eval args s none [] s = some (.int (vHi j)) := by
    intro j hj
    rcases (show j = 0 ∨ j = 1 ∨ j = 2 ∨ j = 3 by omega) with rfl | rfl | rfl | rfl
    · exact va_eqt (z := 5) (hs (.eq (.elem (.static "MownWords" "HIGHEST_SETTINGS" "[I") (.int 0)) (.int 5)) (by decide +kernel))
    · exact va_eqt (z := 8) (hs (.eq (.elem (.static "MownWords" "HIGHEST_SETTINGS" "[I") (.int 1)) (.int 8)) (by decide +kernel))
    · exact va_eqt (z := 7) (hs (.eq (.elem (.static "MownWords" "HIGHEST_SETTINGS" "[I") (.int 2)) (.int 7)) (by decide +kernel))
    · exact va_eqt (z := 9) (hs (.eq (.elem (.static "MownWords" "HIGHEST_SETTINGS" "[I") (.int 3)) (.int 9)) (by decide +kernel))
  obtain ⟨t, h1, h2⟩ := va_Tof (tm := (.static "MownWords" "HIGHEST_SETTINGS" "[I")) (ty := .int) (N := 4) (f := fun j => .int (vHi j)) (by decide) (hs (.arrayOf (.static "MownWords" "HIGHEST_SETTINGS" "[I") .int) (by decide +kernel)) (va_eqt (z := 4) (hs (.eq (.length (.static "MownWords" "HIGHEST_SETTINGS" "[I")) (.int 4)) (by decide +kernel))) hel hA
  exact ⟨t, va_Zof (hts _ ls_HIGHEST_SETTINGS) (hts _ (uwm in_RX7)) h1 hA, h2⟩
theorem lw_FIRST_SETTINGS (hts : ∀ w ∈ lw_tbl, w.before args s = true) (hgv : (Jvm.Cond.and given_1 narrow_1).before args s = true) : St1 "MownWords" "FIRST_SETTINGS" 4 vFs (fun q : Nat => s.heap.size ≤ q) s s.heap := by
  have hs := flat_of_before _ hgv
  have hA : ∀ q : Nat, q < s.heap.size → ¬ (fun q : Nat => s.heap.size ≤ q) q := fun q hq => Nat.not_le.mpr hq
  have hel : ∀ j : Nat, j < 4 → (Term.elem (.static "MownWords" "FIRST_SETTINGS" "[I") (.int (Int32.ofNat j))).eval args s none [] s = some (.int (vFs j)) := by
    intro j hj
    rcases (show j = 0 ∨ j = 1 ∨ j = 2 ∨ j = 3 by omega) with rfl | rfl | rfl | rfl
    · exact va_eqt (z := 2) (hs (.eq (.elem (.static "MownWords" "FIRST_SETTINGS" "[I") (.int 0)) (.int 2)) (by decide +kernel))
    · exact va_eqt (z := 2) (hs (.eq (.elem (.static "MownWords" "FIRST_SETTINGS" "[I") (.int 1)) (.int 2)) (by decide +kernel))
    · exact va_eqt (z := 3) (hs (.eq (.elem (.static "MownWords" "FIRST_SETTINGS" "[I") (.int 2)) (.int 3)) (by decide +kernel))
    · exact va_eqt (z := 1) (hs (.eq (.elem (.static "MownWords" "FIRST_SETTINGS" "[I") (.int 3)) (.int 1)) (by decide +kernel))
  obtain ⟨t, h1, h2⟩ := va_Tof (tm := (.static "MownWords" "FIRST_SETTINGS" "[I")) (ty := .int) (N := 4) (f := fun j => .int (vFs j)) (by decide) (hs (.arrayOf (.static "MownWords" "FIRST_SETTINGS" "[I") .int) (by decide +kernel)) (va_eqt (z := 4) (hs (.eq (.length (.static "MownWords" "FIRST_SETTINGS" "[I")) (.int 4)) (by decide +kernel))) hel hA
  exact ⟨t, va_Zof (hts _ ls_FIRST_SETTINGS) (hts _ (uwm in_RX7)) h1 hA, h2⟩
theorem lw_tb (hts : ∀ w ∈ lw_tbl, w.before args s = true) (hgv : (Jvm.Cond.and given_1 narrow_1).before args s = true) : Tb (fun q : Nat => s.heap.size ≤ q) s s.heap := ⟨lw_SHAPES hts hgv, lw_HIGHEST_SETTINGS hts hgv, lw_FIRST_SETTINGS hts hgv, lw_nw hts⟩
end LW3
