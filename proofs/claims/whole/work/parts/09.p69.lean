def pre (v : Nat → Int32) (i : Nat) : Nat → Int32 := fun j => if j < i then v j else 0
theorem pre_0 (v : Nat → Int32) : (fun _ : Nat => (0 : Int32)) = pre v 0 := by
  funext j
  exact (if_neg (by omega)).symm
theorem pre_up {v : Nat → Int32} {i : Nat} {x : Int32} (h : x = v i) : upd (pre v i) i x = pre v (i + 1) := by
  subst h
  funext j
  unfold upd pre
  by_cases z : j = i
  · subst z
    rw [if_pos rfl, if_pos (by omega)]
  · rw [if_neg z]
    by_cases y : j < i
    · rw [if_pos y, if_pos (by omega)]
    · rw [if_neg y, if_neg (by omega)]
theorem pre_end {v : Nat → Int32} {N : Nat} (h : ∀ j, N ≤ j → v j = 0) : pre v N = v := by
  funext j
  unfold pre
  by_cases y : j < N
  · rw [if_pos y]
  · rw [if_neg y, h j (by omega)]
theorem getD_out {L : List Int32} {j : Nat} (h : L.length ≤ j) : L.getD j 0 = 0 := by
  rw [List.getD_eq_getElem?_getD, List.getElem?_eq_none h]
  rfl
theorem va_upup {α : Type} (ov : Nat → Option α) (j : Nat) (a b : Option α) : va_up (va_up ov j a) j b = va_up ov j b := by
  funext w
  by_cases z : w = j
  · subst z
    rw [va_up_self, va_up_self]
  · rw [va_up_ne _ _ z, va_up_ne _ _ z, va_up_ne _ _ z]
def vMi : Nat → Int32 := fun j => if j < 4 then -1 else 0
theorem M0_180 : M0 180 = v26 := by
  funext j
  unfold M0
  rw [if_neg (by decide +kernel), if_neg (by decide +kernel), if_neg (by decide +kernel), if_neg (by decide +kernel), if_neg (by decide +kernel), if_pos (by decide +kernel)]
theorem M0_184 : M0 184 = vFs := by
  funext j
  unfold M0
  rw [if_neg (by decide +kernel), if_neg (by decide +kernel), if_neg (by decide +kernel), if_neg (by decide +kernel), if_pos (by decide +kernel)]
theorem M0_197 : M0 197 = vMi := by
  funext j
  unfold M0
  rw [if_neg (by decide +kernel), if_neg (by decide +kernel), if_neg (by decide +kernel), if_neg (by decide +kernel), if_neg (by decide +kernel), if_neg (by decide +kernel), if_pos (by decide +kernel)]
  rfl
set_option maxHeartbeats 4000000 in
set_option maxRecDepth 100000 in
theorem ct_X8 (l : Launch)  : Ctr l yX8_init cX8_init 2 { frames := 1, cells := 20, slots := 1152, locals := 12 } 8 [.null, .null, .null, .null, .null, .null, .null, .int 0, .int 0, .null, .int 0, .int 0, .int 0, .null, .null, .null, .int 0, .null, .null, .null, .null, .int 0, .null, .null, .null, .null, .null] 179 21 20 1152 := by
  refine z_in (by decide) rfl (by decide) (fun D cid A q0 p e s m args below meth c S hnam hr ad ov hq hov hno d ls hl => ?_)
  have S : Kx D cid A p s m args meth c cX8_init 2 RX8 := S
  have hl : lv_has ls 2 [(0, .ref q0)] := hl
  refine lv_aload_n S.1 S.2.1 dX8_init_0 rfl (lv_at hl 0 rfl) ?_
  refine k_obj S hl ml_RX8_1 dX8_init_1 ⟨by decide, by decide⟩ ?_
  refine lv_aload_n S.1 S.2.1 dX8_init_4 rfl (lv_at hl 0 rfl) ?_
  refine lv_bipush (v := 26) S.1 S.2.1 dX8_init_5 (by decide) ?_
  refine z_newa (atype := .int) (ty := .int) (i := 0) (N' := 26) (a0 := (26, .inl (fun _ => 0))) S d ac_int rfl rfl (fun _ => rfl) (by decide) (by decide) (by decide) ⟨by decide, by decide⟩ dX8_init_7 (fun qn1 ad1 H1 ha1 hn1 d => ?_)
  rw [pre_0 v26] at d
  refine lv_dup S.1 S.2.1 dX8_init_9 rfl ?_
  refine lv_iconst (v := 0) S.1 S.2.1 dX8_init_10 (by decide) ?_
  refine lv_sipush (v := 23530) S.1 S.2.1 dX8_init_11 (by decide) ?_
  refine z_iast (j := 180) (i0 := 0) (f := pre v26 0) S d ⟨by omega, by omega⟩ (va_up_self _ _ _) rfl (by decide) (by decide) dX8_init_14 hn1.symm (fun H locs d => ?_)
  rw [va_upup, pre_up (v := v26) (i := 0) (x := 23530) rfl] at d
  refine lv_dup S.1 S.2.1 dX8_init_15 rfl ?_
  refine lv_iconst (v := 1) S.1 S.2.1 dX8_init_16 (by decide) ?_
  refine lv_sipush (v := 15083) S.1 S.2.1 dX8_init_17 (by decide) ?_
  refine z_iast (j := 180) (i0 := 1) (f := pre v26 1) S d ⟨by omega, by omega⟩ (va_up_self _ _ _) rfl (by decide) (by decide) dX8_init_20 hn1.symm (fun H locs d => ?_)
  rw [va_upup, pre_up (v := v26) (i := 1) (x := 15083) rfl] at d
  refine lv_dup S.1 S.2.1 dX8_init_21 rfl ?_
  refine lv_iconst (v := 2) S.1 S.2.1 dX8_init_22 (by decide) ?_
  refine lv_sipush (v := 25166) S.1 S.2.1 dX8_init_23 (by decide) ?_
  refine z_iast (j := 180) (i0 := 2) (f := pre v26 2) S d ⟨by omega, by omega⟩ (va_up_self _ _ _) rfl (by decide) (by decide) dX8_init_26 hn1.symm (fun H locs d => ?_)
  rw [va_upup, pre_up (v := v26) (i := 2) (x := 25166) rfl] at d
  refine lv_dup S.1 S.2.1 dX8_init_27 rfl ?_
  refine lv_iconst (v := 3) S.1 S.2.1 dX8_init_28 (by decide) ?_
  refine lv_sipush (v := 15211) S.1 S.2.1 dX8_init_29 (by decide) ?_
  refine z_iast (j := 180) (i0 := 3) (f := pre v26 3) S d ⟨by omega, by omega⟩ (va_up_self _ _ _) rfl (by decide) (by decide) dX8_init_32 hn1.symm (fun H locs d => ?_)
  rw [va_upup, pre_up (v := v26) (i := 3) (x := 15211) rfl] at d
  refine lv_dup S.1 S.2.1 dX8_init_33 rfl ?_
  refine lv_iconst (v := 4) S.1 S.2.1 dX8_init_34 (by decide) ?_
  refine lv_sipush (v := 29391) S.1 S.2.1 dX8_init_35 (by decide) ?_
  refine z_iast (j := 180) (i0 := 4) (f := pre v26 4) S d ⟨by omega, by omega⟩ (va_up_self _ _ _) rfl (by decide) (by decide) dX8_init_38 hn1.symm (fun H locs d => ?_)
  rw [va_upup, pre_up (v := v26) (i := 4) (x := 29391) rfl] at d
  refine lv_dup S.1 S.2.1 dX8_init_39 rfl ?_
  refine lv_iconst (v := 5) S.1 S.2.1 dX8_init_40 (by decide) ?_
  refine lv_sipush (v := 4815) S.1 S.2.1 dX8_init_41 (by decide) ?_
  refine z_iast (j := 180) (i0 := 5) (f := pre v26 5) S d ⟨by omega, by omega⟩ (va_up_self _ _ _) rfl (by decide) (by decide) dX8_init_44 hn1.symm (fun H locs d => ?_)
  rw [va_upup, pre_up (v := v26) (i := 5) (x := 4815) rfl] at d
  refine lv_dup S.1 S.2.1 dX8_init_45 rfl ?_
  refine lv_bipush (v := 6) S.1 S.2.1 dX8_init_46 (by decide) ?_
  refine lv_sipush (v := 27470) S.1 S.2.1 dX8_init_48 (by decide) ?_
  refine z_iast (j := 180) (i0 := 6) (f := pre v26 6) S d ⟨by omega, by omega⟩ (va_up_self _ _ _) rfl (by decide) (by decide) dX8_init_51 hn1.symm (fun H locs d => ?_)
  rw [va_upup, pre_up (v := v26) (i := 6) (x := 27470) rfl] at d
  refine lv_dup S.1 S.2.1 dX8_init_52 rfl ?_
  refine lv_bipush (v := 7) S.1 S.2.1 dX8_init_53 (by decide) ?_
  refine lv_sipush (v := 23533) S.1 S.2.1 dX8_init_55 (by decide) ?_
  refine z_iast (j := 180) (i0 := 7) (f := pre v26 7) S d ⟨by omega, by omega⟩ (va_up_self _ _ _) rfl (by decide) (by decide) dX8_init_58 hn1.symm (fun H locs d => ?_)
  rw [va_upup, pre_up (v := v26) (i := 7) (x := 23533) rfl] at d
  refine lv_dup S.1 S.2.1 dX8_init_59 rfl ?_
  refine lv_bipush (v := 8) S.1 S.2.1 dX8_init_60 (by decide) ?_
  refine lv_sipush (v := 29847) S.1 S.2.1 dX8_init_62 (by decide) ?_
  refine z_iast (j := 180) (i0 := 8) (f := pre v26 8) S d ⟨by omega, by omega⟩ (va_up_self _ _ _) rfl (by decide) (by decide) dX8_init_65 hn1.symm (fun H locs d => ?_)
  rw [va_upup, pre_up (v := v26) (i := 8) (x := 29847) rfl] at d
  refine lv_dup S.1 S.2.1 dX8_init_66 rfl ?_
  refine lv_bipush (v := 9) S.1 S.2.1 dX8_init_67 (by decide) ?_
  refine lv_sipush (v := 11044) S.1 S.2.1 dX8_init_69 (by decide) ?_
  refine z_iast (j := 180) (i0 := 9) (f := pre v26 9) S d ⟨by omega, by omega⟩ (va_up_self _ _ _) rfl (by decide) (by decide) dX8_init_72 hn1.symm (fun H locs d => ?_)
  rw [va_upup, pre_up (v := v26) (i := 9) (x := 11044) rfl] at d
  refine lv_dup S.1 S.2.1 dX8_init_73 rfl ?_
  refine lv_bipush (v := 10) S.1 S.2.1 dX8_init_74 (by decide) ?_
  refine lv_sipush (v := 23277) S.1 S.2.1 dX8_init_76 (by decide) ?_
  refine z_iast (j := 180) (i0 := 10) (f := pre v26 10) S d ⟨by omega, by omega⟩ (va_up_self _ _ _) rfl (by decide) (by decide) dX8_init_79 hn1.symm (fun H locs d => ?_)
  rw [va_upup, pre_up (v := v26) (i := 10) (x := 23277) rfl] at d
  refine lv_dup S.1 S.2.1 dX8_init_80 rfl ?_
  refine lv_bipush (v := 11) S.1 S.2.1 dX8_init_81 (by decide) ?_
  refine lv_sipush (v := 31305) S.1 S.2.1 dX8_init_83 (by decide) ?_
  refine z_iast (j := 180) (i0 := 11) (f := pre v26 11) S d ⟨by omega, by omega⟩ (va_up_self _ _ _) rfl (by decide) (by decide) dX8_init_86 hn1.symm (fun H locs d => ?_)
  rw [va_upup, pre_up (v := v26) (i := 11) (x := 31305) rfl] at d
  refine lv_dup S.1 S.2.1 dX8_init_87 rfl ?_
  refine lv_bipush (v := 12) S.1 S.2.1 dX8_init_88 (by decide) ?_
  refine lv_sipush (v := 23549) S.1 S.2.1 dX8_init_90 (by decide) ?_
  refine z_iast (j := 180) (i0 := 12) (f := pre v26 12) S d ⟨by omega, by omega⟩ (va_up_self _ _ _) rfl (by decide) (by decide) dX8_init_93 hn1.symm (fun H locs d => ?_)
  rw [va_upup, pre_up (v := v26) (i := 12) (x := 23549) rfl] at d
  refine lv_dup S.1 S.2.1 dX8_init_94 rfl ?_
  refine lv_bipush (v := 13) S.1 S.2.1 dX8_init_95 (by decide) ?_
  refine lv_sipush (v := 23547) S.1 S.2.1 dX8_init_97 (by decide) ?_
  refine z_iast (j := 180) (i0 := 13) (f := pre v26 13) S d ⟨by omega, by omega⟩ (va_up_self _ _ _) rfl (by decide) (by decide) dX8_init_100 hn1.symm (fun H locs d => ?_)
  rw [va_upup, pre_up (v := v26) (i := 13) (x := 23547) rfl] at d
  refine lv_dup S.1 S.2.1 dX8_init_101 rfl ?_
  refine lv_bipush (v := 14) S.1 S.2.1 dX8_init_102 (by decide) ?_
  refine lv_sipush (v := 11114) S.1 S.2.1 dX8_init_104 (by decide) ?_
  refine z_iast (j := 180) (i0 := 14) (f := pre v26 14) S d ⟨by omega, by omega⟩ (va_up_self _ _ _) rfl (by decide) (by decide) dX8_init_107 hn1.symm (fun H locs d => ?_)
  rw [va_upup, pre_up (v := v26) (i := 14) (x := 11114) rfl] at d
  refine lv_dup S.1 S.2.1 dX8_init_108 rfl ?_
  refine lv_bipush (v := 15) S.1 S.2.1 dX8_init_109 (by decide) ?_
  refine lv_sipush (v := 5099) S.1 S.2.1 dX8_init_111 (by decide) ?_
  refine z_iast (j := 180) (i0 := 15) (f := pre v26 15) S d ⟨by omega, by omega⟩ (va_up_self _ _ _) rfl (by decide) (by decide) dX8_init_114 hn1.symm (fun H locs d => ?_)
  rw [va_upup, pre_up (v := v26) (i := 15) (x := 5099) rfl] at d
  refine lv_dup S.1 S.2.1 dX8_init_115 rfl ?_
  refine lv_bipush (v := 16) S.1 S.2.1 dX8_init_116 (by decide) ?_
  refine lv_sipush (v := 26474) S.1 S.2.1 dX8_init_118 (by decide) ?_
  refine z_iast (j := 180) (i0 := 16) (f := pre v26 16) S d ⟨by omega, by omega⟩ (va_up_self _ _ _) rfl (by decide) (by decide) dX8_init_121 hn1.symm (fun H locs d => ?_)
  rw [va_upup, pre_up (v := v26) (i := 16) (x := 26474) rfl] at d
  refine lv_dup S.1 S.2.1 dX8_init_122 rfl ?_
  refine lv_bipush (v := 17) S.1 S.2.1 dX8_init_123 (by decide) ?_
  refine lv_sipush (v := 22379) S.1 S.2.1 dX8_init_125 (by decide) ?_
  refine z_iast (j := 180) (i0 := 17) (f := pre v26 17) S d ⟨by omega, by omega⟩ (va_up_self _ _ _) rfl (by decide) (by decide) dX8_init_128 hn1.symm (fun H locs d => ?_)
  rw [va_upup, pre_up (v := v26) (i := 17) (x := 22379) rfl] at d
  refine lv_dup S.1 S.2.1 dX8_init_129 rfl ?_
  refine lv_bipush (v := 18) S.1 S.2.1 dX8_init_130 (by decide) ?_
  refine lv_sipush (v := 14478) S.1 S.2.1 dX8_init_132 (by decide) ?_
  refine z_iast (j := 180) (i0 := 18) (f := pre v26 18) S d ⟨by omega, by omega⟩ (va_up_self _ _ _) rfl (by decide) (by decide) dX8_init_135 hn1.symm (fun H locs d => ?_)
  rw [va_upup, pre_up (v := v26) (i := 18) (x := 14478) rfl] at d
  refine lv_dup S.1 S.2.1 dX8_init_136 rfl ?_
  refine lv_bipush (v := 19) S.1 S.2.1 dX8_init_137 (by decide) ?_
  refine lv_sipush (v := 9367) S.1 S.2.1 dX8_init_139 (by decide) ?_
  refine z_iast (j := 180) (i0 := 19) (f := pre v26 19) S d ⟨by omega, by omega⟩ (va_up_self _ _ _) rfl (by decide) (by decide) dX8_init_142 hn1.symm (fun H locs d => ?_)
  rw [va_upup, pre_up (v := v26) (i := 19) (x := 9367) rfl] at d
  refine lv_dup S.1 S.2.1 dX8_init_143 rfl ?_
  refine lv_bipush (v := 20) S.1 S.2.1 dX8_init_144 (by decide) ?_
  refine lv_sipush (v := 27501) S.1 S.2.1 dX8_init_146 (by decide) ?_
  refine z_iast (j := 180) (i0 := 20) (f := pre v26 20) S d ⟨by omega, by omega⟩ (va_up_self _ _ _) rfl (by decide) (by decide) dX8_init_149 hn1.symm (fun H locs d => ?_)
  rw [va_upup, pre_up (v := v26) (i := 20) (x := 27501) rfl] at d
  refine lv_dup S.1 S.2.1 dX8_init_150 rfl ?_
  refine lv_bipush (v := 21) S.1 S.2.1 dX8_init_151 (by decide) ?_
  refine lv_sipush (v := 11117) S.1 S.2.1 dX8_init_153 (by decide) ?_
  refine z_iast (j := 180) (i0 := 21) (f := pre v26 21) S d ⟨by omega, by omega⟩ (va_up_self _ _ _) rfl (by decide) (by decide) dX8_init_156 hn1.symm (fun H locs d => ?_)
  rw [va_upup, pre_up (v := v26) (i := 21) (x := 11117) rfl] at d
  refine lv_dup S.1 S.2.1 dX8_init_157 rfl ?_
  refine lv_bipush (v := 22) S.1 S.2.1 dX8_init_158 (by decide) ?_
  refine lv_sipush (v := 24557) S.1 S.2.1 dX8_init_160 (by decide) ?_
  refine z_iast (j := 180) (i0 := 22) (f := pre v26 22) S d ⟨by omega, by omega⟩ (va_up_self _ _ _) rfl (by decide) (by decide) dX8_init_163 hn1.symm (fun H locs d => ?_)
  rw [va_upup, pre_up (v := v26) (i := 22) (x := 24557) rfl] at d
  refine lv_dup S.1 S.2.1 dX8_init_164 rfl ?_
  refine lv_bipush (v := 23) S.1 S.2.1 dX8_init_165 (by decide) ?_
  refine lv_sipush (v := 23213) S.1 S.2.1 dX8_init_167 (by decide) ?_
  refine z_iast (j := 180) (i0 := 23) (f := pre v26 23) S d ⟨by omega, by omega⟩ (va_up_self _ _ _) rfl (by decide) (by decide) dX8_init_170 hn1.symm (fun H locs d => ?_)
  rw [va_upup, pre_up (v := v26) (i := 23) (x := 23213) rfl] at d
  refine lv_dup S.1 S.2.1 dX8_init_171 rfl ?_
  refine lv_bipush (v := 24) S.1 S.2.1 dX8_init_172 (by decide) ?_
  refine lv_sipush (v := 9389) S.1 S.2.1 dX8_init_174 (by decide) ?_
  refine z_iast (j := 180) (i0 := 24) (f := pre v26 24) S d ⟨by omega, by omega⟩ (va_up_self _ _ _) rfl (by decide) (by decide) dX8_init_177 hn1.symm (fun H locs d => ?_)
  rw [va_upup, pre_up (v := v26) (i := 24) (x := 9389) rfl] at d
  refine lv_dup S.1 S.2.1 dX8_init_178 rfl ?_
  refine lv_bipush (v := 25) S.1 S.2.1 dX8_init_179 (by decide) ?_
  refine lv_sipush (v := 29351) S.1 S.2.1 dX8_init_181 (by decide) ?_
  refine z_iast (j := 180) (i0 := 25) (f := pre v26 25) S d ⟨by omega, by omega⟩ (va_up_self _ _ _) rfl (by decide) (by decide) dX8_init_184 hn1.symm (fun H locs d => ?_)
  rw [va_upup, pre_up (v := v26) (i := 25) (x := 29351) rfl] at d
  refine z_putF S hnam d (j := 179) (f := 0) (fs := [.null, .null, .null, .null, .null, .null, .null, .int 0, .int 0, .null, .int 0, .int 0, .int 0, .null, .null, .null, .int 0, .null, .null, .null, .null, .int 0, .null, .null, .null, .null, .null]) ⟨by omega, by omega⟩ ((va_up_ne _ _ (by omega)).trans hov) (by rfl : vwCl[8]? = some (RX8, TX8, 27)) fx_X8 tyX8_ok nmX8 (by decide) fl_RX8_7 rfl rfl rfl rfl rfl (Nat.le_of_ble_eq_true rfl) dX8_init_185 ((ha1 179 (by omega)).trans hq).symm (fun H locs1 d => ?_)
  refine lv_aload_n S.1 S.2.1 dX8_init_188 rfl (lv_at hl 0 rfl) ?_
  refine lv_bipush (v := 9) S.1 S.2.1 dX8_init_189 (by decide) ?_
  refine z_newa (atype := .int) (ty := .int) (i := 0) (N' := 9) (a0 := (9, .inl (fun _ => 0))) S d ac_int rfl rfl (fun _ => rfl) (by decide) (by decide) (by decide) ⟨by decide, by decide⟩ dX8_init_191 (fun qn2 ad2 H2 ha2 hn2 d => ?_)
  refine z_putF S hnam d (j := 179) (f := 1) (fs := [.ref qn1, .null, .null, .null, .null, .null, .null, .int 0, .int 0, .null, .int 0, .int 0, .int 0, .null, .null, .null, .int 0, .null, .null, .null, .null, .int 0, .null, .null, .null, .null, .null]) ⟨by omega, by omega⟩ ((va_up_ne _ _ (by omega)).trans (va_up_self _ _ _)) (by rfl : vwCl[8]? = some (RX8, TX8, 27)) fx_X8 tyX8_ok nmX8 (by decide) fl_RX8_13 rfl rfl rfl rfl rfl (Nat.le_of_ble_eq_true rfl) dX8_init_193 ((ha2 179 (by omega)).trans ((ha1 179 (by omega)).trans hq)).symm (fun H locs1 d => ?_)
  refine lv_aload_n S.1 S.2.1 dX8_init_196 rfl (lv_at hl 0 rfl) ?_
  refine lv_sipush (v := 135) S.1 S.2.1 dX8_init_197 (by decide) ?_
  refine z_newa (atype := .int) (ty := .int) (i := 0) (N' := 135) (a0 := (135, .inl (fun _ => 0))) S d ac_int rfl rfl (fun _ => rfl) (by decide) (by decide) (by decide) ⟨by decide, by decide⟩ dX8_init_200 (fun qn3 ad3 H3 ha3 hn3 d => ?_)
  refine z_putF S hnam d (j := 179) (f := 2) (fs := [.ref qn1, .ref qn2, .null, .null, .null, .null, .null, .int 0, .int 0, .null, .int 0, .int 0, .int 0, .null, .null, .null, .int 0, .null, .null, .null, .null, .int 0, .null, .null, .null, .null, .null]) ⟨by omega, by omega⟩ ((va_up_ne _ _ (by omega)).trans (va_up_self _ _ _)) (by rfl : vwCl[8]? = some (RX8, TX8, 27)) fx_X8 tyX8_ok nmX8 (by decide) fl_RX8_16 rfl rfl rfl rfl rfl (Nat.le_of_ble_eq_true rfl) dX8_init_202 ((ha3 179 (by omega)).trans ((ha2 179 (by omega)).trans ((ha1 179 (by omega)).trans hq))).symm (fun H locs1 d => ?_)
  refine lv_aload_n S.1 S.2.1 dX8_init_205 rfl (lv_at hl 0 rfl) ?_
  refine lv_bipush (v := 6) S.1 S.2.1 dX8_init_206 (by decide) ?_
  refine z_newa (atype := .int) (ty := .int) (i := 0) (N' := 6) (a0 := (6, .inl (fun _ => 0))) S d ac_int rfl rfl (fun _ => rfl) (by decide) (by decide) (by decide) ⟨by decide, by decide⟩ dX8_init_208 (fun qn4 ad4 H4 ha4 hn4 d => ?_)
  refine z_putF S hnam d (j := 179) (f := 3) (fs := [.ref qn1, .ref qn2, .ref qn3, .null, .null, .null, .null, .int 0, .int 0, .null, .int 0, .int 0, .int 0, .null, .null, .null, .int 0, .null, .null, .null, .null, .int 0, .null, .null, .null, .null, .null]) ⟨by omega, by omega⟩ ((va_up_ne _ _ (by omega)).trans (va_up_self _ _ _)) (by rfl : vwCl[8]? = some (RX8, TX8, 27)) fx_X8 tyX8_ok nmX8 (by decide) fl_RX8_19 rfl rfl rfl rfl rfl (Nat.le_of_ble_eq_true rfl) dX8_init_210 ((ha4 179 (by omega)).trans ((ha3 179 (by omega)).trans ((ha2 179 (by omega)).trans ((ha1 179 (by omega)).trans hq)))).symm (fun H locs1 d => ?_)
  refine lv_aload_n S.1 S.2.1 dX8_init_213 rfl (lv_at hl 0 rfl) ?_
  refine lv_iconst (v := 4) S.1 S.2.1 dX8_init_214 (by decide) ?_
  refine z_newa (atype := .int) (ty := .int) (i := 0) (N' := 4) (a0 := (4, .inl (fun _ => 0))) S d ac_int rfl rfl (fun _ => rfl) (by decide) (by decide) (by decide) ⟨by decide, by decide⟩ dX8_init_215 (fun qn5 ad5 H5 ha5 hn5 d => ?_)
  refine z_putF S hnam d (j := 179) (f := 4) (fs := [.ref qn1, .ref qn2, .ref qn3, .ref qn4, .null, .null, .null, .int 0, .int 0, .null, .int 0, .int 0, .int 0, .null, .null, .null, .int 0, .null, .null, .null, .null, .int 0, .null, .null, .null, .null, .null]) ⟨by omega, by omega⟩ ((va_up_ne _ _ (by omega)).trans (va_up_self _ _ _)) (by rfl : vwCl[8]? = some (RX8, TX8, 27)) fx_X8 tyX8_ok nmX8 (by decide) fl_RX8_22 rfl rfl rfl rfl rfl (Nat.le_of_ble_eq_true rfl) dX8_init_217 ((ha5 179 (by omega)).trans ((ha4 179 (by omega)).trans ((ha3 179 (by omega)).trans ((ha2 179 (by omega)).trans ((ha1 179 (by omega)).trans hq))))).symm (fun H locs1 d => ?_)
  refine lv_aload_n S.1 S.2.1 dX8_init_220 rfl (lv_at hl 0 rfl) ?_
  refine lv_bipush (v := 36) S.1 S.2.1 dX8_init_221 (by decide) ?_
  refine z_newa (atype := .int) (ty := .int) (i := 0) (N' := 36) (a0 := (36, .inl (fun _ => 0))) S d ac_int rfl rfl (fun _ => rfl) (by decide) (by decide) (by decide) ⟨by decide, by decide⟩ dX8_init_223 (fun qn6 ad6 H6 ha6 hn6 d => ?_)
  refine z_putF S hnam d (j := 179) (f := 5) (fs := [.ref qn1, .ref qn2, .ref qn3, .ref qn4, .ref qn5, .null, .null, .int 0, .int 0, .null, .int 0, .int 0, .int 0, .null, .null, .null, .int 0, .null, .null, .null, .null, .int 0, .null, .null, .null, .null, .null]) ⟨by omega, by omega⟩ ((va_up_ne _ _ (by omega)).trans (va_up_self _ _ _)) (by rfl : vwCl[8]? = some (RX8, TX8, 27)) fx_X8 tyX8_ok nmX8 (by decide) fl_RX8_25 rfl rfl rfl rfl rfl (Nat.le_of_ble_eq_true rfl) dX8_init_225 ((ha6 179 (by omega)).trans ((ha5 179 (by omega)).trans ((ha4 179 (by omega)).trans ((ha3 179 (by omega)).trans ((ha2 179 (by omega)).trans ((ha1 179 (by omega)).trans hq)))))).symm (fun H locs1 d => ?_)
  refine lv_aload_n S.1 S.2.1 dX8_init_228 rfl (lv_at hl 0 rfl) ?_
  refine lv_bipush (v := 80) S.1 S.2.1 dX8_init_229 (by decide) ?_
  refine z_newa (atype := .int) (ty := .int) (i := 0) (N' := 80) (a0 := (80, .inl (fun _ => 0))) S d ac_int rfl rfl (fun _ => rfl) (by decide) (by decide) (by decide) ⟨by decide, by decide⟩ dX8_init_231 (fun qn7 ad7 H7 ha7 hn7 d => ?_)
  refine z_putF S hnam d (j := 179) (f := 6) (fs := [.ref qn1, .ref qn2, .ref qn3, .ref qn4, .ref qn5, .ref qn6, .null, .int 0, .int 0, .null, .int 0, .int 0, .int 0, .null, .null, .null, .int 0, .null, .null, .null, .null, .int 0, .null, .null, .null, .null, .null]) ⟨by omega, by omega⟩ ((va_up_ne _ _ (by omega)).trans (va_up_self _ _ _)) (by rfl : vwCl[8]? = some (RX8, TX8, 27)) fx_X8 tyX8_ok nmX8 (by decide) fl_RX8_28 rfl rfl rfl rfl rfl (Nat.le_of_ble_eq_true rfl) dX8_init_233 ((ha7 179 (by omega)).trans ((ha6 179 (by omega)).trans ((ha5 179 (by omega)).trans ((ha4 179 (by omega)).trans ((ha3 179 (by omega)).trans ((ha2 179 (by omega)).trans ((ha1 179 (by omega)).trans hq))))))).symm (fun H locs1 d => ?_)
  refine lv_aload_n S.1 S.2.1 dX8_init_236 rfl (lv_at hl 0 rfl) ?_
  refine lv_bipush (v := 80) S.1 S.2.1 dX8_init_237 (by decide) ?_
  refine z_newa (atype := .int) (ty := .int) (i := 0) (N' := 80) (a0 := (80, .inl (fun _ => 0))) S d ac_int rfl rfl (fun _ => rfl) (by decide) (by decide) (by decide) ⟨by decide, by decide⟩ dX8_init_239 (fun qn8 ad8 H8 ha8 hn8 d => ?_)
  refine z_putF S hnam d (j := 179) (f := 9) (fs := [.ref qn1, .ref qn2, .ref qn3, .ref qn4, .ref qn5, .ref qn6, .ref qn7, .int 0, .int 0, .null, .int 0, .int 0, .int 0, .null, .null, .null, .int 0, .null, .null, .null, .null, .int 0, .null, .null, .null, .null, .null]) ⟨by omega, by omega⟩ ((va_up_ne _ _ (by omega)).trans (va_up_self _ _ _)) (by rfl : vwCl[8]? = some (RX8, TX8, 27)) fx_X8 tyX8_ok nmX8 (by decide) fl_RX8_31 rfl rfl rfl rfl rfl (Nat.le_of_ble_eq_true rfl) dX8_init_241 ((ha8 179 (by omega)).trans ((ha7 179 (by omega)).trans ((ha6 179 (by omega)).trans ((ha5 179 (by omega)).trans ((ha4 179 (by omega)).trans ((ha3 179 (by omega)).trans ((ha2 179 (by omega)).trans ((ha1 179 (by omega)).trans hq)))))))).symm (fun H locs1 d => ?_)
  refine lv_aload_n S.1 S.2.1 dX8_init_244 rfl (lv_at hl 0 rfl) ?_
  refine lv_bipush (v := 40) S.1 S.2.1 dX8_init_245 (by decide) ?_
  refine z_newa (atype := .int) (ty := .int) (i := 0) (N' := 40) (a0 := (40, .inl (fun _ => 0))) S d ac_int rfl rfl (fun _ => rfl) (by decide) (by decide) (by decide) ⟨by decide, by decide⟩ dX8_init_247 (fun qn9 ad9 H9 ha9 hn9 d => ?_)
  refine z_putF S hnam d (j := 179) (f := 13) (fs := [.ref qn1, .ref qn2, .ref qn3, .ref qn4, .ref qn5, .ref qn6, .ref qn7, .int 0, .int 0, .ref qn8, .int 0, .int 0, .int 0, .null, .null, .null, .int 0, .null, .null, .null, .null, .int 0, .null, .null, .null, .null, .null]) ⟨by omega, by omega⟩ ((va_up_ne _ _ (by omega)).trans (va_up_self _ _ _)) (by rfl : vwCl[8]? = some (RX8, TX8, 27)) fx_X8 tyX8_ok nmX8 (by decide) fl_RX8_34 rfl rfl rfl rfl rfl (Nat.le_of_ble_eq_true rfl) dX8_init_249 ((ha9 179 (by omega)).trans ((ha8 179 (by omega)).trans ((ha7 179 (by omega)).trans ((ha6 179 (by omega)).trans ((ha5 179 (by omega)).trans ((ha4 179 (by omega)).trans ((ha3 179 (by omega)).trans ((ha2 179 (by omega)).trans ((ha1 179 (by omega)).trans hq))))))))).symm (fun H locs1 d => ?_)
  refine lv_aload_n S.1 S.2.1 dX8_init_252 rfl (lv_at hl 0 rfl) ?_
  refine lv_bipush (v := 10) S.1 S.2.1 dX8_init_253 (by decide) ?_
  refine z_newa (atype := .int) (ty := .int) (i := 0) (N' := 10) (a0 := (10, .inl (fun _ => 0))) S d ac_int rfl rfl (fun _ => rfl) (by decide) (by decide) (by decide) ⟨by decide, by decide⟩ dX8_init_255 (fun qn10 ad10 H10 ha10 hn10 d => ?_)
  refine z_putF S hnam d (j := 179) (f := 14) (fs := [.ref qn1, .ref qn2, .ref qn3, .ref qn4, .ref qn5, .ref qn6, .ref qn7, .int 0, .int 0, .ref qn8, .int 0, .int 0, .int 0, .ref qn9, .null, .null, .int 0, .null, .null, .null, .null, .int 0, .null, .null, .null, .null, .null]) ⟨by omega, by omega⟩ ((va_up_ne _ _ (by omega)).trans (va_up_self _ _ _)) (by rfl : vwCl[8]? = some (RX8, TX8, 27)) fx_X8 tyX8_ok nmX8 (by decide) fl_RX8_37 rfl rfl rfl rfl rfl (Nat.le_of_ble_eq_true rfl) dX8_init_257 ((ha10 179 (by omega)).trans ((ha9 179 (by omega)).trans ((ha8 179 (by omega)).trans ((ha7 179 (by omega)).trans ((ha6 179 (by omega)).trans ((ha5 179 (by omega)).trans ((ha4 179 (by omega)).trans ((ha3 179 (by omega)).trans ((ha2 179 (by omega)).trans ((ha1 179 (by omega)).trans hq)))))))))).symm (fun H locs1 d => ?_)
  refine lv_aload_n S.1 S.2.1 dX8_init_260 rfl (lv_at hl 0 rfl) ?_
  refine lv_bipush (v := 9) S.1 S.2.1 dX8_init_261 (by decide) ?_
  refine z_newa (atype := .int) (ty := .int) (i := 0) (N' := 9) (a0 := (9, .inl (fun _ => 0))) S d ac_int rfl rfl (fun _ => rfl) (by decide) (by decide) (by decide) ⟨by decide, by decide⟩ dX8_init_263 (fun qn11 ad11 H11 ha11 hn11 d => ?_)
  refine z_putF S hnam d (j := 179) (f := 15) (fs := [.ref qn1, .ref qn2, .ref qn3, .ref qn4, .ref qn5, .ref qn6, .ref qn7, .int 0, .int 0, .ref qn8, .int 0, .int 0, .int 0, .ref qn9, .ref qn10, .null, .int 0, .null, .null, .null, .null, .int 0, .null, .null, .null, .null, .null]) ⟨by omega, by omega⟩ ((va_up_ne _ _ (by omega)).trans (va_up_self _ _ _)) (by rfl : vwCl[8]? = some (RX8, TX8, 27)) fx_X8 tyX8_ok nmX8 (by decide) fl_RX8_40 rfl rfl rfl rfl rfl (Nat.le_of_ble_eq_true rfl) dX8_init_265 ((ha11 179 (by omega)).trans ((ha10 179 (by omega)).trans ((ha9 179 (by omega)).trans ((ha8 179 (by omega)).trans ((ha7 179 (by omega)).trans ((ha6 179 (by omega)).trans ((ha5 179 (by omega)).trans ((ha4 179 (by omega)).trans ((ha3 179 (by omega)).trans ((ha2 179 (by omega)).trans ((ha1 179 (by omega)).trans hq))))))))))).symm (fun H locs1 d => ?_)
  refine lv_aload_n S.1 S.2.1 dX8_init_268 rfl (lv_at hl 0 rfl) ?_
  refine lv_bipush (v := 90) S.1 S.2.1 dX8_init_269 (by decide) ?_
  refine z_newa (atype := .int) (ty := .int) (i := 0) (N' := 90) (a0 := (90, .inl (fun _ => 0))) S d ac_int rfl rfl (fun _ => rfl) (by decide) (by decide) (by decide) ⟨by decide, by decide⟩ dX8_init_271 (fun qn12 ad12 H12 ha12 hn12 d => ?_)
  refine z_putF S hnam d (j := 179) (f := 17) (fs := [.ref qn1, .ref qn2, .ref qn3, .ref qn4, .ref qn5, .ref qn6, .ref qn7, .int 0, .int 0, .ref qn8, .int 0, .int 0, .int 0, .ref qn9, .ref qn10, .ref qn11, .int 0, .null, .null, .null, .null, .int 0, .null, .null, .null, .null, .null]) ⟨by omega, by omega⟩ ((va_up_ne _ _ (by omega)).trans (va_up_self _ _ _)) (by rfl : vwCl[8]? = some (RX8, TX8, 27)) fx_X8 tyX8_ok nmX8 (by decide) fl_RX8_43 rfl rfl rfl rfl rfl (Nat.le_of_ble_eq_true rfl) dX8_init_273 ((ha12 179 (by omega)).trans ((ha11 179 (by omega)).trans ((ha10 179 (by omega)).trans ((ha9 179 (by omega)).trans ((ha8 179 (by omega)).trans ((ha7 179 (by omega)).trans ((ha6 179 (by omega)).trans ((ha5 179 (by omega)).trans ((ha4 179 (by omega)).trans ((ha3 179 (by omega)).trans ((ha2 179 (by omega)).trans ((ha1 179 (by omega)).trans hq)))))))))))).symm (fun H locs1 d => ?_)
  refine lv_aload_n S.1 S.2.1 dX8_init_276 rfl (lv_at hl 0 rfl) ?_
  refine lv_bipush (v := 90) S.1 S.2.1 dX8_init_277 (by decide) ?_
  refine z_newa (atype := .int) (ty := .int) (i := 0) (N' := 90) (a0 := (90, .inl (fun _ => 0))) S d ac_int rfl rfl (fun _ => rfl) (by decide) (by decide) (by decide) ⟨by decide, by decide⟩ dX8_init_279 (fun qn13 ad13 H13 ha13 hn13 d => ?_)
  refine z_putF S hnam d (j := 179) (f := 18) (fs := [.ref qn1, .ref qn2, .ref qn3, .ref qn4, .ref qn5, .ref qn6, .ref qn7, .int 0, .int 0, .ref qn8, .int 0, .int 0, .int 0, .ref qn9, .ref qn10, .ref qn11, .int 0, .ref qn12, .null, .null, .null, .int 0, .null, .null, .null, .null, .null]) ⟨by omega, by omega⟩ ((va_up_ne _ _ (by omega)).trans (va_up_self _ _ _)) (by rfl : vwCl[8]? = some (RX8, TX8, 27)) fx_X8 tyX8_ok nmX8 (by decide) fl_RX8_46 rfl rfl rfl rfl rfl (Nat.le_of_ble_eq_true rfl) dX8_init_281 ((ha13 179 (by omega)).trans ((ha12 179 (by omega)).trans ((ha11 179 (by omega)).trans ((ha10 179 (by omega)).trans ((ha9 179 (by omega)).trans ((ha8 179 (by omega)).trans ((ha7 179 (by omega)).trans ((ha6 179 (by omega)).trans ((ha5 179 (by omega)).trans ((ha4 179 (by omega)).trans ((ha3 179 (by omega)).trans ((ha2 179 (by omega)).trans ((ha1 179 (by omega)).trans hq))))))))))))).symm (fun H locs1 d => ?_)
  refine lv_aload_n S.1 S.2.1 dX8_init_284 rfl (lv_at hl 0 rfl) ?_
  refine lv_bipush (v := 26) S.1 S.2.1 dX8_init_285 (by decide) ?_
  refine z_newa (atype := .long) (ty := .long) (i := 2) (N' := 26) (a0 := (26, .inr (.inl (fun _ => 0)))) S d ac_long rfl rfl (fun _ => rfl) (by decide) (by decide) (by decide) ⟨by decide, by decide⟩ dX8_init_287 (fun qn14 ad14 H14 ha14 hn14 d => ?_)
  refine z_putF S hnam d (j := 179) (f := 19) (fs := [.ref qn1, .ref qn2, .ref qn3, .ref qn4, .ref qn5, .ref qn6, .ref qn7, .int 0, .int 0, .ref qn8, .int 0, .int 0, .int 0, .ref qn9, .ref qn10, .ref qn11, .int 0, .ref qn12, .ref qn13, .null, .null, .int 0, .null, .null, .null, .null, .null]) ⟨by omega, by omega⟩ ((va_up_ne _ _ (by omega)).trans (va_up_self _ _ _)) (by rfl : vwCl[8]? = some (RX8, TX8, 27)) fx_X8 tyX8_ok nmX8 (by decide) fl_RX8_49 rfl rfl rfl rfl rfl (Nat.le_of_ble_eq_true rfl) dX8_init_289 ((ha14 179 (by omega)).trans ((ha13 179 (by omega)).trans ((ha12 179 (by omega)).trans ((ha11 179 (by omega)).trans ((ha10 179 (by omega)).trans ((ha9 179 (by omega)).trans ((ha8 179 (by omega)).trans ((ha7 179 (by omega)).trans ((ha6 179 (by omega)).trans ((ha5 179 (by omega)).trans ((ha4 179 (by omega)).trans ((ha3 179 (by omega)).trans ((ha2 179 (by omega)).trans ((ha1 179 (by omega)).trans hq)))))))))))))).symm (fun H locs1 d => ?_)
  refine lv_aload_n S.1 S.2.1 dX8_init_292 rfl (lv_at hl 0 rfl) ?_
  refine lv_sipush (v := 135) S.1 S.2.1 dX8_init_293 (by decide) ?_
  refine z_newa (atype := .int) (ty := .int) (i := 0) (N' := 135) (a0 := (135, .inl (fun _ => 0))) S d ac_int rfl rfl (fun _ => rfl) (by decide) (by decide) (by decide) ⟨by decide, by decide⟩ dX8_init_296 (fun qn15 ad15 H15 ha15 hn15 d => ?_)
  refine z_putF S hnam d (j := 179) (f := 20) (fs := [.ref qn1, .ref qn2, .ref qn3, .ref qn4, .ref qn5, .ref qn6, .ref qn7, .int 0, .int 0, .ref qn8, .int 0, .int 0, .int 0, .ref qn9, .ref qn10, .ref qn11, .int 0, .ref qn12, .ref qn13, .ref qn14, .null, .int 0, .null, .null, .null, .null, .null]) ⟨by omega, by omega⟩ ((va_up_ne _ _ (by omega)).trans (va_up_self _ _ _)) (by rfl : vwCl[8]? = some (RX8, TX8, 27)) fx_X8 tyX8_ok nmX8 (by decide) fl_RX8_53 rfl rfl rfl rfl rfl (Nat.le_of_ble_eq_true rfl) dX8_init_298 ((ha15 179 (by omega)).trans ((ha14 179 (by omega)).trans ((ha13 179 (by omega)).trans ((ha12 179 (by omega)).trans ((ha11 179 (by omega)).trans ((ha10 179 (by omega)).trans ((ha9 179 (by omega)).trans ((ha8 179 (by omega)).trans ((ha7 179 (by omega)).trans ((ha6 179 (by omega)).trans ((ha5 179 (by omega)).trans ((ha4 179 (by omega)).trans ((ha3 179 (by omega)).trans ((ha2 179 (by omega)).trans ((ha1 179 (by omega)).trans hq))))))))))))))).symm (fun H locs1 d => ?_)
  refine lv_aload_n S.1 S.2.1 dX8_init_301 rfl (lv_at hl 0 rfl) ?_
  refine lv_sipush (v := 270) S.1 S.2.1 dX8_init_302 (by decide) ?_
  refine z_newa (atype := .int) (ty := .int) (i := 0) (N' := 270) (a0 := (270, .inl (fun _ => 0))) S d ac_int rfl rfl (fun _ => rfl) (by decide) (by decide) (by decide) ⟨by decide, by decide⟩ dX8_init_305 (fun qn16 ad16 H16 ha16 hn16 d => ?_)
  refine z_putF S hnam d (j := 179) (f := 22) (fs := [.ref qn1, .ref qn2, .ref qn3, .ref qn4, .ref qn5, .ref qn6, .ref qn7, .int 0, .int 0, .ref qn8, .int 0, .int 0, .int 0, .ref qn9, .ref qn10, .ref qn11, .int 0, .ref qn12, .ref qn13, .ref qn14, .ref qn15, .int 0, .null, .null, .null, .null, .null]) ⟨by omega, by omega⟩ ((va_up_ne _ _ (by omega)).trans (va_up_self _ _ _)) (by rfl : vwCl[8]? = some (RX8, TX8, 27)) fx_X8 tyX8_ok nmX8 (by decide) fl_RX8_56 rfl rfl rfl rfl rfl (Nat.le_of_ble_eq_true rfl) dX8_init_307 ((ha16 179 (by omega)).trans ((ha15 179 (by omega)).trans ((ha14 179 (by omega)).trans ((ha13 179 (by omega)).trans ((ha12 179 (by omega)).trans ((ha11 179 (by omega)).trans ((ha10 179 (by omega)).trans ((ha9 179 (by omega)).trans ((ha8 179 (by omega)).trans ((ha7 179 (by omega)).trans ((ha6 179 (by omega)).trans ((ha5 179 (by omega)).trans ((ha4 179 (by omega)).trans ((ha3 179 (by omega)).trans ((ha2 179 (by omega)).trans ((ha1 179 (by omega)).trans hq)))))))))))))))).symm (fun H locs1 d => ?_)
  refine lv_aload_n S.1 S.2.1 dX8_init_310 rfl (lv_at hl 0 rfl) ?_
  refine lv_iconst (v := 2) S.1 S.2.1 dX8_init_311 (by decide) ?_
  refine z_newa (atype := .int) (ty := .int) (i := 0) (N' := 2) (a0 := (2, .inl (fun _ => 0))) S d ac_int rfl rfl (fun _ => rfl) (by decide) (by decide) (by decide) ⟨by decide, by decide⟩ dX8_init_312 (fun qn17 ad17 H17 ha17 hn17 d => ?_)
  refine z_putF S hnam d (j := 179) (f := 23) (fs := [.ref qn1, .ref qn2, .ref qn3, .ref qn4, .ref qn5, .ref qn6, .ref qn7, .int 0, .int 0, .ref qn8, .int 0, .int 0, .int 0, .ref qn9, .ref qn10, .ref qn11, .int 0, .ref qn12, .ref qn13, .ref qn14, .ref qn15, .int 0, .ref qn16, .null, .null, .null, .null]) ⟨by omega, by omega⟩ ((va_up_ne _ _ (by omega)).trans (va_up_self _ _ _)) (by rfl : vwCl[8]? = some (RX8, TX8, 27)) fx_X8 tyX8_ok nmX8 (by decide) fl_RX8_59 rfl rfl rfl rfl rfl (Nat.le_of_ble_eq_true rfl) dX8_init_314 ((ha17 179 (by omega)).trans ((ha16 179 (by omega)).trans ((ha15 179 (by omega)).trans ((ha14 179 (by omega)).trans ((ha13 179 (by omega)).trans ((ha12 179 (by omega)).trans ((ha11 179 (by omega)).trans ((ha10 179 (by omega)).trans ((ha9 179 (by omega)).trans ((ha8 179 (by omega)).trans ((ha7 179 (by omega)).trans ((ha6 179 (by omega)).trans ((ha5 179 (by omega)).trans ((ha4 179 (by omega)).trans ((ha3 179 (by omega)).trans ((ha2 179 (by omega)).trans ((ha1 179 (by omega)).trans hq))))))))))))))))).symm (fun H locs1 d => ?_)
  refine lv_aload_n S.1 S.2.1 dX8_init_317 rfl (lv_at hl 0 rfl) ?_
  refine lv_iconst (v := 4) S.1 S.2.1 dX8_init_318 (by decide) ?_
  refine z_newa (atype := .int) (ty := .int) (i := 0) (N' := 4) (a0 := (4, .inl (fun _ => 0))) S d ac_int rfl rfl (fun _ => rfl) (by decide) (by decide) (by decide) ⟨by decide, by decide⟩ dX8_init_319 (fun qn18 ad18 H18 ha18 hn18 d => ?_)
  refine z_putF S hnam d (j := 179) (f := 24) (fs := [.ref qn1, .ref qn2, .ref qn3, .ref qn4, .ref qn5, .ref qn6, .ref qn7, .int 0, .int 0, .ref qn8, .int 0, .int 0, .int 0, .ref qn9, .ref qn10, .ref qn11, .int 0, .ref qn12, .ref qn13, .ref qn14, .ref qn15, .int 0, .ref qn16, .ref qn17, .null, .null, .null]) ⟨by omega, by omega⟩ ((va_up_ne _ _ (by omega)).trans (va_up_self _ _ _)) (by rfl : vwCl[8]? = some (RX8, TX8, 27)) fx_X8 tyX8_ok nmX8 (by decide) fl_RX8_62 rfl rfl rfl rfl rfl (Nat.le_of_ble_eq_true rfl) dX8_init_321 ((ha18 179 (by omega)).trans ((ha17 179 (by omega)).trans ((ha16 179 (by omega)).trans ((ha15 179 (by omega)).trans ((ha14 179 (by omega)).trans ((ha13 179 (by omega)).trans ((ha12 179 (by omega)).trans ((ha11 179 (by omega)).trans ((ha10 179 (by omega)).trans ((ha9 179 (by omega)).trans ((ha8 179 (by omega)).trans ((ha7 179 (by omega)).trans ((ha6 179 (by omega)).trans ((ha5 179 (by omega)).trans ((ha4 179 (by omega)).trans ((ha3 179 (by omega)).trans ((ha2 179 (by omega)).trans ((ha1 179 (by omega)).trans hq)))))))))))))))))).symm (fun H locs1 d => ?_)
  refine lv_aload_n S.1 S.2.1 dX8_init_324 rfl (lv_at hl 0 rfl) ?_
  refine lv_iconst (v := 4) S.1 S.2.1 dX8_init_325 (by decide) ?_
  refine z_newa (atype := .int) (ty := .int) (i := 0) (N' := 4) (a0 := (4, .inl (fun _ => 0))) S d ac_int rfl rfl (fun _ => rfl) (by decide) (by decide) (by decide) ⟨by decide, by decide⟩ dX8_init_326 (fun qn19 ad19 H19 ha19 hn19 d => ?_)
  refine z_putF S hnam d (j := 179) (f := 25) (fs := [.ref qn1, .ref qn2, .ref qn3, .ref qn4, .ref qn5, .ref qn6, .ref qn7, .int 0, .int 0, .ref qn8, .int 0, .int 0, .int 0, .ref qn9, .ref qn10, .ref qn11, .int 0, .ref qn12, .ref qn13, .ref qn14, .ref qn15, .int 0, .ref qn16, .ref qn17, .ref qn18, .null, .null]) ⟨by omega, by omega⟩ ((va_up_ne _ _ (by omega)).trans (va_up_self _ _ _)) (by rfl : vwCl[8]? = some (RX8, TX8, 27)) fx_X8 tyX8_ok nmX8 (by decide) fl_RX8_65 rfl rfl rfl rfl rfl (Nat.le_of_ble_eq_true rfl) dX8_init_328 ((ha19 179 (by omega)).trans ((ha18 179 (by omega)).trans ((ha17 179 (by omega)).trans ((ha16 179 (by omega)).trans ((ha15 179 (by omega)).trans ((ha14 179 (by omega)).trans ((ha13 179 (by omega)).trans ((ha12 179 (by omega)).trans ((ha11 179 (by omega)).trans ((ha10 179 (by omega)).trans ((ha9 179 (by omega)).trans ((ha8 179 (by omega)).trans ((ha7 179 (by omega)).trans ((ha6 179 (by omega)).trans ((ha5 179 (by omega)).trans ((ha4 179 (by omega)).trans ((ha3 179 (by omega)).trans ((ha2 179 (by omega)).trans ((ha1 179 (by omega)).trans hq))))))))))))))))))).symm (fun H locs1 d => ?_)
  refine lv_aload_n S.1 S.2.1 dX8_init_331 rfl (lv_at hl 0 rfl) ?_
  refine lv_bipush (v := 96) S.1 S.2.1 dX8_init_332 (by decide) ?_
  refine z_newa (atype := .int) (ty := .int) (i := 0) (N' := 96) (a0 := (96, .inl (fun _ => 0))) S d ac_int rfl rfl (fun _ => rfl) (by decide) (by decide) (by decide) ⟨by decide, by decide⟩ dX8_init_334 (fun qn20 ad20 H20 ha20 hn20 d => ?_)
  refine z_putF S hnam d (j := 179) (f := 26) (fs := [.ref qn1, .ref qn2, .ref qn3, .ref qn4, .ref qn5, .ref qn6, .ref qn7, .int 0, .int 0, .ref qn8, .int 0, .int 0, .int 0, .ref qn9, .ref qn10, .ref qn11, .int 0, .ref qn12, .ref qn13, .ref qn14, .ref qn15, .int 0, .ref qn16, .ref qn17, .ref qn18, .ref qn19, .null]) ⟨by omega, by omega⟩ ((va_up_ne _ _ (by omega)).trans (va_up_self _ _ _)) (by rfl : vwCl[8]? = some (RX8, TX8, 27)) fx_X8 tyX8_ok nmX8 (by decide) fl_RX8_68 rfl rfl rfl rfl rfl (Nat.le_of_ble_eq_true rfl) dX8_init_336 ((ha20 179 (by omega)).trans ((ha19 179 (by omega)).trans ((ha18 179 (by omega)).trans ((ha17 179 (by omega)).trans ((ha16 179 (by omega)).trans ((ha15 179 (by omega)).trans ((ha14 179 (by omega)).trans ((ha13 179 (by omega)).trans ((ha12 179 (by omega)).trans ((ha11 179 (by omega)).trans ((ha10 179 (by omega)).trans ((ha9 179 (by omega)).trans ((ha8 179 (by omega)).trans ((ha7 179 (by omega)).trans ((ha6 179 (by omega)).trans ((ha5 179 (by omega)).trans ((ha4 179 (by omega)).trans ((ha3 179 (by omega)).trans ((ha2 179 (by omega)).trans ((ha1 179 (by omega)).trans hq)))))))))))))))))))).symm (fun H locs1 d => ?_)
  refine dz_gen d (fun OV hOV d => ?_)
  have hO179 : OV 179 = some (.inr (8, [.ref qn1, .ref qn2, .ref qn3, .ref qn4, .ref qn5, .ref qn6, .ref qn7, .int 0, .int 0, .ref qn8, .int 0, .int 0, .int 0, .ref qn9, .ref qn10, .ref qn11, .int 0, .ref qn12, .ref qn13, .ref qn14, .ref qn15, .int 0, .ref qn16, .ref qn17, .ref qn18, .ref qn19, .ref qn20])) := by rw [hOV]; exact va_up_self _ _ _
  have hO180 : OV 180 = some (.inl (cid 0, 26, .inl (pre v26 26))) := by rw [hOV]; simp [va_up]
  have hO181 : OV 181 = some (.inl (cid 0, 9, .inl (fun _ => 0))) := by rw [hOV]; simp [va_up]
  have hO182 : OV 182 = some (.inl (cid 0, 135, .inl (fun _ => 0))) := by rw [hOV]; simp [va_up]
  have hO183 : OV 183 = some (.inl (cid 0, 6, .inl (fun _ => 0))) := by rw [hOV]; simp [va_up]
  have hO184 : OV 184 = some (.inl (cid 0, 4, .inl (fun _ => 0))) := by rw [hOV]; simp [va_up]
  have hO185 : OV 185 = some (.inl (cid 0, 36, .inl (fun _ => 0))) := by rw [hOV]; simp [va_up]
  have hO186 : OV 186 = some (.inl (cid 0, 80, .inl (fun _ => 0))) := by rw [hOV]; simp [va_up]
  have hO187 : OV 187 = some (.inl (cid 0, 80, .inl (fun _ => 0))) := by rw [hOV]; simp [va_up]
  have hO188 : OV 188 = some (.inl (cid 0, 40, .inl (fun _ => 0))) := by rw [hOV]; simp [va_up]
  have hO189 : OV 189 = some (.inl (cid 0, 10, .inl (fun _ => 0))) := by rw [hOV]; simp [va_up]
  have hO190 : OV 190 = some (.inl (cid 0, 9, .inl (fun _ => 0))) := by rw [hOV]; simp [va_up]
  have hO191 : OV 191 = some (.inl (cid 0, 90, .inl (fun _ => 0))) := by rw [hOV]; simp [va_up]
  have hO192 : OV 192 = some (.inl (cid 0, 90, .inl (fun _ => 0))) := by rw [hOV]; simp [va_up]
  have hO193 : OV 193 = some (.inl (cid 2, 26, .inr (.inl (fun _ => 0)))) := by rw [hOV]; simp [va_up]
  have hO194 : OV 194 = some (.inl (cid 0, 135, .inl (fun _ => 0))) := by rw [hOV]; simp [va_up]
  have hO195 : OV 195 = some (.inl (cid 0, 270, .inl (fun _ => 0))) := by rw [hOV]; simp [va_up]
  have hO196 : OV 196 = some (.inl (cid 0, 2, .inl (fun _ => 0))) := by rw [hOV]; simp [va_up]
  have hO197 : OV 197 = some (.inl (cid 0, 4, .inl (fun _ => 0))) := by rw [hOV]; simp [va_up]
  have hO198 : OV 198 = some (.inl (cid 0, 4, .inl (fun _ => 0))) := by rw [hOV]; simp [va_up]
  have hO199 : OV 199 = some (.inl (cid 0, 96, .inl (fun _ => 0))) := by rw [hOV]; simp [va_up]
  have g5 : ad20 (179 + 5) = qn5 := ((ha20 (179 + 5) (by omega)).trans ((ha19 (179 + 5) (by omega)).trans ((ha18 (179 + 5) (by omega)).trans ((ha17 (179 + 5) (by omega)).trans ((ha16 (179 + 5) (by omega)).trans ((ha15 (179 + 5) (by omega)).trans ((ha14 (179 + 5) (by omega)).trans ((ha13 (179 + 5) (by omega)).trans ((ha12 (179 + 5) (by omega)).trans ((ha11 (179 + 5) (by omega)).trans ((ha10 (179 + 5) (by omega)).trans ((ha9 (179 + 5) (by omega)).trans ((ha8 (179 + 5) (by omega)).trans ((ha7 (179 + 5) (by omega)).trans ((ha6 (179 + 5) (by omega)).trans hn5)))))))))))))))
  have g18 : ad20 (179 + 18) = qn18 := ((ha20 (179 + 18) (by omega)).trans ((ha19 (179 + 18) (by omega)).trans hn18))
  have gq := ((ha20 179 (by omega)).trans ((ha19 179 (by omega)).trans ((ha18 179 (by omega)).trans ((ha17 179 (by omega)).trans ((ha16 179 (by omega)).trans ((ha15 179 (by omega)).trans ((ha14 179 (by omega)).trans ((ha13 179 (by omega)).trans ((ha12 179 (by omega)).trans ((ha11 179 (by omega)).trans ((ha10 179 (by omega)).trans ((ha9 179 (by omega)).trans ((ha8 179 (by omega)).trans ((ha7 179 (by omega)).trans ((ha6 179 (by omega)).trans ((ha5 179 (by omega)).trans ((ha4 179 (by omega)).trans ((ha3 179 (by omega)).trans ((ha2 179 (by omega)).trans ((ha1 179 (by omega)).trans hq))))))))))))))))))))
  have r1 : ad20 (179 + 1) = qn1 := ((ha20 (179 + 1) (by omega)).trans ((ha19 (179 + 1) (by omega)).trans ((ha18 (179 + 1) (by omega)).trans ((ha17 (179 + 1) (by omega)).trans ((ha16 (179 + 1) (by omega)).trans ((ha15 (179 + 1) (by omega)).trans ((ha14 (179 + 1) (by omega)).trans ((ha13 (179 + 1) (by omega)).trans ((ha12 (179 + 1) (by omega)).trans ((ha11 (179 + 1) (by omega)).trans ((ha10 (179 + 1) (by omega)).trans ((ha9 (179 + 1) (by omega)).trans ((ha8 (179 + 1) (by omega)).trans ((ha7 (179 + 1) (by omega)).trans ((ha6 (179 + 1) (by omega)).trans ((ha5 (179 + 1) (by omega)).trans ((ha4 (179 + 1) (by omega)).trans ((ha3 (179 + 1) (by omega)).trans ((ha2 (179 + 1) (by omega)).trans hn1)))))))))))))))))))
  have r2 : ad20 (179 + 2) = qn2 := ((ha20 (179 + 2) (by omega)).trans ((ha19 (179 + 2) (by omega)).trans ((ha18 (179 + 2) (by omega)).trans ((ha17 (179 + 2) (by omega)).trans ((ha16 (179 + 2) (by omega)).trans ((ha15 (179 + 2) (by omega)).trans ((ha14 (179 + 2) (by omega)).trans ((ha13 (179 + 2) (by omega)).trans ((ha12 (179 + 2) (by omega)).trans ((ha11 (179 + 2) (by omega)).trans ((ha10 (179 + 2) (by omega)).trans ((ha9 (179 + 2) (by omega)).trans ((ha8 (179 + 2) (by omega)).trans ((ha7 (179 + 2) (by omega)).trans ((ha6 (179 + 2) (by omega)).trans ((ha5 (179 + 2) (by omega)).trans ((ha4 (179 + 2) (by omega)).trans ((ha3 (179 + 2) (by omega)).trans hn2))))))))))))))))))
  have r3 : ad20 (179 + 3) = qn3 := ((ha20 (179 + 3) (by omega)).trans ((ha19 (179 + 3) (by omega)).trans ((ha18 (179 + 3) (by omega)).trans ((ha17 (179 + 3) (by omega)).trans ((ha16 (179 + 3) (by omega)).trans ((ha15 (179 + 3) (by omega)).trans ((ha14 (179 + 3) (by omega)).trans ((ha13 (179 + 3) (by omega)).trans ((ha12 (179 + 3) (by omega)).trans ((ha11 (179 + 3) (by omega)).trans ((ha10 (179 + 3) (by omega)).trans ((ha9 (179 + 3) (by omega)).trans ((ha8 (179 + 3) (by omega)).trans ((ha7 (179 + 3) (by omega)).trans ((ha6 (179 + 3) (by omega)).trans ((ha5 (179 + 3) (by omega)).trans ((ha4 (179 + 3) (by omega)).trans hn3)))))))))))))))))
  have r4 : ad20 (179 + 4) = qn4 := ((ha20 (179 + 4) (by omega)).trans ((ha19 (179 + 4) (by omega)).trans ((ha18 (179 + 4) (by omega)).trans ((ha17 (179 + 4) (by omega)).trans ((ha16 (179 + 4) (by omega)).trans ((ha15 (179 + 4) (by omega)).trans ((ha14 (179 + 4) (by omega)).trans ((ha13 (179 + 4) (by omega)).trans ((ha12 (179 + 4) (by omega)).trans ((ha11 (179 + 4) (by omega)).trans ((ha10 (179 + 4) (by omega)).trans ((ha9 (179 + 4) (by omega)).trans ((ha8 (179 + 4) (by omega)).trans ((ha7 (179 + 4) (by omega)).trans ((ha6 (179 + 4) (by omega)).trans ((ha5 (179 + 4) (by omega)).trans hn4))))))))))))))))
  have r5 : ad20 (179 + 5) = qn5 := ((ha20 (179 + 5) (by omega)).trans ((ha19 (179 + 5) (by omega)).trans ((ha18 (179 + 5) (by omega)).trans ((ha17 (179 + 5) (by omega)).trans ((ha16 (179 + 5) (by omega)).trans ((ha15 (179 + 5) (by omega)).trans ((ha14 (179 + 5) (by omega)).trans ((ha13 (179 + 5) (by omega)).trans ((ha12 (179 + 5) (by omega)).trans ((ha11 (179 + 5) (by omega)).trans ((ha10 (179 + 5) (by omega)).trans ((ha9 (179 + 5) (by omega)).trans ((ha8 (179 + 5) (by omega)).trans ((ha7 (179 + 5) (by omega)).trans ((ha6 (179 + 5) (by omega)).trans hn5)))))))))))))))
  have r6 : ad20 (179 + 6) = qn6 := ((ha20 (179 + 6) (by omega)).trans ((ha19 (179 + 6) (by omega)).trans ((ha18 (179 + 6) (by omega)).trans ((ha17 (179 + 6) (by omega)).trans ((ha16 (179 + 6) (by omega)).trans ((ha15 (179 + 6) (by omega)).trans ((ha14 (179 + 6) (by omega)).trans ((ha13 (179 + 6) (by omega)).trans ((ha12 (179 + 6) (by omega)).trans ((ha11 (179 + 6) (by omega)).trans ((ha10 (179 + 6) (by omega)).trans ((ha9 (179 + 6) (by omega)).trans ((ha8 (179 + 6) (by omega)).trans ((ha7 (179 + 6) (by omega)).trans hn6))))))))))))))
  have r7 : ad20 (179 + 7) = qn7 := ((ha20 (179 + 7) (by omega)).trans ((ha19 (179 + 7) (by omega)).trans ((ha18 (179 + 7) (by omega)).trans ((ha17 (179 + 7) (by omega)).trans ((ha16 (179 + 7) (by omega)).trans ((ha15 (179 + 7) (by omega)).trans ((ha14 (179 + 7) (by omega)).trans ((ha13 (179 + 7) (by omega)).trans ((ha12 (179 + 7) (by omega)).trans ((ha11 (179 + 7) (by omega)).trans ((ha10 (179 + 7) (by omega)).trans ((ha9 (179 + 7) (by omega)).trans ((ha8 (179 + 7) (by omega)).trans hn7)))))))))))))
  have r8 : ad20 (179 + 8) = qn8 := ((ha20 (179 + 8) (by omega)).trans ((ha19 (179 + 8) (by omega)).trans ((ha18 (179 + 8) (by omega)).trans ((ha17 (179 + 8) (by omega)).trans ((ha16 (179 + 8) (by omega)).trans ((ha15 (179 + 8) (by omega)).trans ((ha14 (179 + 8) (by omega)).trans ((ha13 (179 + 8) (by omega)).trans ((ha12 (179 + 8) (by omega)).trans ((ha11 (179 + 8) (by omega)).trans ((ha10 (179 + 8) (by omega)).trans ((ha9 (179 + 8) (by omega)).trans hn8))))))))))))
  have r9 : ad20 (179 + 9) = qn9 := ((ha20 (179 + 9) (by omega)).trans ((ha19 (179 + 9) (by omega)).trans ((ha18 (179 + 9) (by omega)).trans ((ha17 (179 + 9) (by omega)).trans ((ha16 (179 + 9) (by omega)).trans ((ha15 (179 + 9) (by omega)).trans ((ha14 (179 + 9) (by omega)).trans ((ha13 (179 + 9) (by omega)).trans ((ha12 (179 + 9) (by omega)).trans ((ha11 (179 + 9) (by omega)).trans ((ha10 (179 + 9) (by omega)).trans hn9)))))))))))
  have r10 : ad20 (179 + 10) = qn10 := ((ha20 (179 + 10) (by omega)).trans ((ha19 (179 + 10) (by omega)).trans ((ha18 (179 + 10) (by omega)).trans ((ha17 (179 + 10) (by omega)).trans ((ha16 (179 + 10) (by omega)).trans ((ha15 (179 + 10) (by omega)).trans ((ha14 (179 + 10) (by omega)).trans ((ha13 (179 + 10) (by omega)).trans ((ha12 (179 + 10) (by omega)).trans ((ha11 (179 + 10) (by omega)).trans hn10))))))))))
  have r11 : ad20 (179 + 11) = qn11 := ((ha20 (179 + 11) (by omega)).trans ((ha19 (179 + 11) (by omega)).trans ((ha18 (179 + 11) (by omega)).trans ((ha17 (179 + 11) (by omega)).trans ((ha16 (179 + 11) (by omega)).trans ((ha15 (179 + 11) (by omega)).trans ((ha14 (179 + 11) (by omega)).trans ((ha13 (179 + 11) (by omega)).trans ((ha12 (179 + 11) (by omega)).trans hn11)))))))))
  have r12 : ad20 (179 + 12) = qn12 := ((ha20 (179 + 12) (by omega)).trans ((ha19 (179 + 12) (by omega)).trans ((ha18 (179 + 12) (by omega)).trans ((ha17 (179 + 12) (by omega)).trans ((ha16 (179 + 12) (by omega)).trans ((ha15 (179 + 12) (by omega)).trans ((ha14 (179 + 12) (by omega)).trans ((ha13 (179 + 12) (by omega)).trans hn12))))))))
  have r13 : ad20 (179 + 13) = qn13 := ((ha20 (179 + 13) (by omega)).trans ((ha19 (179 + 13) (by omega)).trans ((ha18 (179 + 13) (by omega)).trans ((ha17 (179 + 13) (by omega)).trans ((ha16 (179 + 13) (by omega)).trans ((ha15 (179 + 13) (by omega)).trans ((ha14 (179 + 13) (by omega)).trans hn13)))))))
  have r14 : ad20 (179 + 14) = qn14 := ((ha20 (179 + 14) (by omega)).trans ((ha19 (179 + 14) (by omega)).trans ((ha18 (179 + 14) (by omega)).trans ((ha17 (179 + 14) (by omega)).trans ((ha16 (179 + 14) (by omega)).trans ((ha15 (179 + 14) (by omega)).trans hn14))))))
  have r15 : ad20 (179 + 15) = qn15 := ((ha20 (179 + 15) (by omega)).trans ((ha19 (179 + 15) (by omega)).trans ((ha18 (179 + 15) (by omega)).trans ((ha17 (179 + 15) (by omega)).trans ((ha16 (179 + 15) (by omega)).trans hn15)))))
  have r16 : ad20 (179 + 16) = qn16 := ((ha20 (179 + 16) (by omega)).trans ((ha19 (179 + 16) (by omega)).trans ((ha18 (179 + 16) (by omega)).trans ((ha17 (179 + 16) (by omega)).trans hn16))))
  have r17 : ad20 (179 + 17) = qn17 := ((ha20 (179 + 17) (by omega)).trans ((ha19 (179 + 17) (by omega)).trans ((ha18 (179 + 17) (by omega)).trans hn17)))
  have r18 : ad20 (179 + 18) = qn18 := ((ha20 (179 + 18) (by omega)).trans ((ha19 (179 + 18) (by omega)).trans hn18))
  have r19 : ad20 (179 + 19) = qn19 := ((ha20 (179 + 19) (by omega)).trans hn19)
  have r20 : ad20 (179 + 20) = qn20 := hn20
  clear hOV
  refine lv_iconst (v := 0) S.1 S.2.1 dX8_init_339 (by decide) ?_
  refine lv_istore_n (lv' := [(1, .int (nI 0)), (0, .ref q0)]) S.1 S.2.1 dX8_init_340 rfl hl (by decide) rfl (fun ls hl => ?_)
  have e0 : va_up OV 197 (some (.inl (cid 0, 4, .inl (pre vMi 0)))) = OV := by
    funext w
    by_cases z : w = 197
    · subst z
      rw [va_up_self, hO197, pre_0 vMi]
    · rw [va_up_ne _ _ z]
  rw [← e0] at d
  refine lv_iload_n S.1 S.2.1 dX8_init_341 rfl (lv_at hl 0 rfl) ?_
  refine lv_iconst (v := 4) S.1 S.2.1 dX8_init_342 (by decide) ?_
  refine lv_icmp_ge (tgt := 359) S.1 S.2.1 dX8_init_343 (by decide) (fun cc => absurd cc (by decide)) (fun _ => ?_)
  refine lv_aload_n S.1 S.2.1 dX8_init_346 rfl (lv_at hl 1 rfl) ?_
  refine z_get S d (j := 179) (f := 24) (fs := [.ref qn1, .ref qn2, .ref qn3, .ref qn4, .ref qn5, .ref qn6, .ref qn7, .int 0, .int 0, .ref qn8, .int 0, .int 0, .int 0, .ref qn9, .ref qn10, .ref qn11, .int 0, .ref qn12, .ref qn13, .ref qn14, .ref qn15, .int 0, .ref qn16, .ref qn17, .ref qn18, .ref qn19, .ref qn20]) ⟨by omega, by omega⟩ ((va_up_ne _ _ (by omega)).trans hO179) (by rfl : vwCl[8]? = some (RX8, TX8, 27)) fx_X8 (by decide) fl_RX8_62 rfl dX8_init_347 gq.symm ?_
  refine lv_iload_n S.1 S.2.1 dX8_init_350 rfl (lv_at hl 0 rfl) ?_
  refine lv_iconst (v := (-1)) S.1 S.2.1 dX8_init_351 (by decide) ?_
  refine z_iast (j := 197) (i0 := 0) (f := pre vMi 0) S d ⟨by omega, by omega⟩ (va_up_self _ _ _) rfl (by decide) (by decide) dX8_init_352 r18.symm (fun H locs d => ?_)
  rw [va_upup, pre_up (v := vMi) (i := 0) (x := (-1)) rfl] at d
  refine lv_iinc (v := nI 1) (lv' := [(1, .int (nI 1)), (0, .ref q0)]) S.1 S.2.1 dX8_init_353 hl (k := 0) rfl (by decide) (by decide) rfl (fun ls hl => ?_)
  refine lv_goto (tgt := 341) S.1 S.2.1 dX8_init_356 (by decide) ?_
  refine lv_iload_n S.1 S.2.1 dX8_init_341 rfl (lv_at hl 0 rfl) ?_
  refine lv_iconst (v := 4) S.1 S.2.1 dX8_init_342 (by decide) ?_
  refine lv_icmp_ge (tgt := 359) S.1 S.2.1 dX8_init_343 (by decide) (fun cc => absurd cc (by decide)) (fun _ => ?_)
  refine lv_aload_n S.1 S.2.1 dX8_init_346 rfl (lv_at hl 1 rfl) ?_
  refine z_get S d (j := 179) (f := 24) (fs := [.ref qn1, .ref qn2, .ref qn3, .ref qn4, .ref qn5, .ref qn6, .ref qn7, .int 0, .int 0, .ref qn8, .int 0, .int 0, .int 0, .ref qn9, .ref qn10, .ref qn11, .int 0, .ref qn12, .ref qn13, .ref qn14, .ref qn15, .int 0, .ref qn16, .ref qn17, .ref qn18, .ref qn19, .ref qn20]) ⟨by omega, by omega⟩ ((va_up_ne _ _ (by omega)).trans hO179) (by rfl : vwCl[8]? = some (RX8, TX8, 27)) fx_X8 (by decide) fl_RX8_62 rfl dX8_init_347 gq.symm ?_
  refine lv_iload_n S.1 S.2.1 dX8_init_350 rfl (lv_at hl 0 rfl) ?_
  refine lv_iconst (v := (-1)) S.1 S.2.1 dX8_init_351 (by decide) ?_
  refine z_iast (j := 197) (i0 := 1) (f := pre vMi 1) S d ⟨by omega, by omega⟩ (va_up_self _ _ _) rfl (by decide) (by decide) dX8_init_352 r18.symm (fun H locs d => ?_)
  rw [va_upup, pre_up (v := vMi) (i := 1) (x := (-1)) rfl] at d
  refine lv_iinc (v := nI 2) (lv' := [(1, .int (nI 2)), (0, .ref q0)]) S.1 S.2.1 dX8_init_353 hl (k := 0) rfl (by decide) (by decide) rfl (fun ls hl => ?_)
  refine lv_goto (tgt := 341) S.1 S.2.1 dX8_init_356 (by decide) ?_
  refine lv_iload_n S.1 S.2.1 dX8_init_341 rfl (lv_at hl 0 rfl) ?_
  refine lv_iconst (v := 4) S.1 S.2.1 dX8_init_342 (by decide) ?_
  refine lv_icmp_ge (tgt := 359) S.1 S.2.1 dX8_init_343 (by decide) (fun cc => absurd cc (by decide)) (fun _ => ?_)
  refine lv_aload_n S.1 S.2.1 dX8_init_346 rfl (lv_at hl 1 rfl) ?_
  refine z_get S d (j := 179) (f := 24) (fs := [.ref qn1, .ref qn2, .ref qn3, .ref qn4, .ref qn5, .ref qn6, .ref qn7, .int 0, .int 0, .ref qn8, .int 0, .int 0, .int 0, .ref qn9, .ref qn10, .ref qn11, .int 0, .ref qn12, .ref qn13, .ref qn14, .ref qn15, .int 0, .ref qn16, .ref qn17, .ref qn18, .ref qn19, .ref qn20]) ⟨by omega, by omega⟩ ((va_up_ne _ _ (by omega)).trans hO179) (by rfl : vwCl[8]? = some (RX8, TX8, 27)) fx_X8 (by decide) fl_RX8_62 rfl dX8_init_347 gq.symm ?_
  refine lv_iload_n S.1 S.2.1 dX8_init_350 rfl (lv_at hl 0 rfl) ?_
  refine lv_iconst (v := (-1)) S.1 S.2.1 dX8_init_351 (by decide) ?_
  refine z_iast (j := 197) (i0 := 2) (f := pre vMi 2) S d ⟨by omega, by omega⟩ (va_up_self _ _ _) rfl (by decide) (by decide) dX8_init_352 r18.symm (fun H locs d => ?_)
  rw [va_upup, pre_up (v := vMi) (i := 2) (x := (-1)) rfl] at d
  refine lv_iinc (v := nI 3) (lv' := [(1, .int (nI 3)), (0, .ref q0)]) S.1 S.2.1 dX8_init_353 hl (k := 0) rfl (by decide) (by decide) rfl (fun ls hl => ?_)
  refine lv_goto (tgt := 341) S.1 S.2.1 dX8_init_356 (by decide) ?_
  refine lv_iload_n S.1 S.2.1 dX8_init_341 rfl (lv_at hl 0 rfl) ?_
  refine lv_iconst (v := 4) S.1 S.2.1 dX8_init_342 (by decide) ?_
  refine lv_icmp_ge (tgt := 359) S.1 S.2.1 dX8_init_343 (by decide) (fun cc => absurd cc (by decide)) (fun _ => ?_)
  refine lv_aload_n S.1 S.2.1 dX8_init_346 rfl (lv_at hl 1 rfl) ?_
  refine z_get S d (j := 179) (f := 24) (fs := [.ref qn1, .ref qn2, .ref qn3, .ref qn4, .ref qn5, .ref qn6, .ref qn7, .int 0, .int 0, .ref qn8, .int 0, .int 0, .int 0, .ref qn9, .ref qn10, .ref qn11, .int 0, .ref qn12, .ref qn13, .ref qn14, .ref qn15, .int 0, .ref qn16, .ref qn17, .ref qn18, .ref qn19, .ref qn20]) ⟨by omega, by omega⟩ ((va_up_ne _ _ (by omega)).trans hO179) (by rfl : vwCl[8]? = some (RX8, TX8, 27)) fx_X8 (by decide) fl_RX8_62 rfl dX8_init_347 gq.symm ?_
  refine lv_iload_n S.1 S.2.1 dX8_init_350 rfl (lv_at hl 0 rfl) ?_
  refine lv_iconst (v := (-1)) S.1 S.2.1 dX8_init_351 (by decide) ?_
  refine z_iast (j := 197) (i0 := 3) (f := pre vMi 3) S d ⟨by omega, by omega⟩ (va_up_self _ _ _) rfl (by decide) (by decide) dX8_init_352 r18.symm (fun H locs d => ?_)
  rw [va_upup, pre_up (v := vMi) (i := 3) (x := (-1)) rfl] at d
  refine lv_iinc (v := nI 4) (lv' := [(1, .int (nI 4)), (0, .ref q0)]) S.1 S.2.1 dX8_init_353 hl (k := 0) rfl (by decide) (by decide) rfl (fun ls hl => ?_)
  refine lv_goto (tgt := 341) S.1 S.2.1 dX8_init_356 (by decide) ?_
  refine lv_iload_n S.1 S.2.1 dX8_init_341 rfl (lv_at hl 0 rfl) ?_
  refine lv_iconst (v := 4) S.1 S.2.1 dX8_init_342 (by decide) ?_
  refine lv_icmp_ge (tgt := 359) S.1 S.2.1 dX8_init_343 (by decide) (fun _ => ?_) (fun cc => absurd (show (4 : Int32) ≤ nI 4 by decide) cc)
  have e1 : va_up (va_up OV 197 (some (.inl (cid 0, 4, .inl (pre vMi 4))))) 184 (some (.inl (cid 0, 4, .inl (pre vFs 0)))) = va_up OV 197 (some (.inl (cid 0, 4, .inl (pre vMi 4)))) := by
    funext w
    by_cases z : w = 184
    · subst z
      rw [va_up_self, va_up_ne _ _ (by omega), hO184, pre_0 vFs]
    · rw [va_up_ne _ _ z]
  rw [← e1] at d
  refine lv_aload_n S.1 S.2.1 dX8_init_359 rfl (lv_at hl 1 rfl) ?_
  refine z_get S d (j := 179) (f := 4) (fs := [.ref qn1, .ref qn2, .ref qn3, .ref qn4, .ref qn5, .ref qn6, .ref qn7, .int 0, .int 0, .ref qn8, .int 0, .int 0, .int 0, .ref qn9, .ref qn10, .ref qn11, .int 0, .ref qn12, .ref qn13, .ref qn14, .ref qn15, .int 0, .ref qn16, .ref qn17, .ref qn18, .ref qn19, .ref qn20]) ⟨by omega, by omega⟩ ((va_up_ne _ _ (by omega)).trans ((va_up_ne _ _ (by omega)).trans hO179)) (by rfl : vwCl[8]? = some (RX8, TX8, 27)) fx_X8 (by decide) fl_RX8_22 rfl dX8_init_360 gq.symm ?_
  refine lv_iconst (v := 0) S.1 S.2.1 dX8_init_363 (by decide) ?_
  refine lv_iconst (v := 2) S.1 S.2.1 dX8_init_364 (by decide) ?_
  refine z_iast (j := 184) (i0 := 0) (f := pre vFs 0) S d ⟨by omega, by omega⟩ (va_up_self _ _ _) rfl (by decide) (by decide) dX8_init_365 r5.symm (fun H locs d => ?_)
  rw [va_upup, pre_up (v := vFs) (i := 0) (x := 2) rfl] at d
  refine lv_aload_n S.1 S.2.1 dX8_init_366 rfl (lv_at hl 1 rfl) ?_
  refine z_get S d (j := 179) (f := 4) (fs := [.ref qn1, .ref qn2, .ref qn3, .ref qn4, .ref qn5, .ref qn6, .ref qn7, .int 0, .int 0, .ref qn8, .int 0, .int 0, .int 0, .ref qn9, .ref qn10, .ref qn11, .int 0, .ref qn12, .ref qn13, .ref qn14, .ref qn15, .int 0, .ref qn16, .ref qn17, .ref qn18, .ref qn19, .ref qn20]) ⟨by omega, by omega⟩ ((va_up_ne _ _ (by omega)).trans ((va_up_ne _ _ (by omega)).trans hO179)) (by rfl : vwCl[8]? = some (RX8, TX8, 27)) fx_X8 (by decide) fl_RX8_22 rfl dX8_init_367 gq.symm ?_
  refine lv_iconst (v := 1) S.1 S.2.1 dX8_init_370 (by decide) ?_
  refine lv_iconst (v := 2) S.1 S.2.1 dX8_init_371 (by decide) ?_
  refine z_iast (j := 184) (i0 := 1) (f := pre vFs 1) S d ⟨by omega, by omega⟩ (va_up_self _ _ _) rfl (by decide) (by decide) dX8_init_372 r5.symm (fun H locs d => ?_)
  rw [va_upup, pre_up (v := vFs) (i := 1) (x := 2) rfl] at d
  refine lv_aload_n S.1 S.2.1 dX8_init_373 rfl (lv_at hl 1 rfl) ?_
  refine z_get S d (j := 179) (f := 4) (fs := [.ref qn1, .ref qn2, .ref qn3, .ref qn4, .ref qn5, .ref qn6, .ref qn7, .int 0, .int 0, .ref qn8, .int 0, .int 0, .int 0, .ref qn9, .ref qn10, .ref qn11, .int 0, .ref qn12, .ref qn13, .ref qn14, .ref qn15, .int 0, .ref qn16, .ref qn17, .ref qn18, .ref qn19, .ref qn20]) ⟨by omega, by omega⟩ ((va_up_ne _ _ (by omega)).trans ((va_up_ne _ _ (by omega)).trans hO179)) (by rfl : vwCl[8]? = some (RX8, TX8, 27)) fx_X8 (by decide) fl_RX8_22 rfl dX8_init_374 gq.symm ?_
  refine lv_iconst (v := 2) S.1 S.2.1 dX8_init_377 (by decide) ?_
  refine lv_iconst (v := 3) S.1 S.2.1 dX8_init_378 (by decide) ?_
  refine z_iast (j := 184) (i0 := 2) (f := pre vFs 2) S d ⟨by omega, by omega⟩ (va_up_self _ _ _) rfl (by decide) (by decide) dX8_init_379 r5.symm (fun H locs d => ?_)
  rw [va_upup, pre_up (v := vFs) (i := 2) (x := 3) rfl] at d
  refine lv_aload_n S.1 S.2.1 dX8_init_380 rfl (lv_at hl 1 rfl) ?_
  refine z_get S d (j := 179) (f := 4) (fs := [.ref qn1, .ref qn2, .ref qn3, .ref qn4, .ref qn5, .ref qn6, .ref qn7, .int 0, .int 0, .ref qn8, .int 0, .int 0, .int 0, .ref qn9, .ref qn10, .ref qn11, .int 0, .ref qn12, .ref qn13, .ref qn14, .ref qn15, .int 0, .ref qn16, .ref qn17, .ref qn18, .ref qn19, .ref qn20]) ⟨by omega, by omega⟩ ((va_up_ne _ _ (by omega)).trans ((va_up_ne _ _ (by omega)).trans hO179)) (by rfl : vwCl[8]? = some (RX8, TX8, 27)) fx_X8 (by decide) fl_RX8_22 rfl dX8_init_381 gq.symm ?_
  refine lv_iconst (v := 3) S.1 S.2.1 dX8_init_384 (by decide) ?_
  refine lv_iconst (v := 1) S.1 S.2.1 dX8_init_385 (by decide) ?_
  refine z_iast (j := 184) (i0 := 3) (f := pre vFs 3) S d ⟨by omega, by omega⟩ (va_up_self _ _ _) rfl (by decide) (by decide) dX8_init_386 r5.symm (fun H locs d => ?_)
  rw [va_upup, pre_up (v := vFs) (i := 3) (x := 1) rfl] at d
  refine z_end S hr d (fun j hj1 hj2 => ?_) gq dX8_init_387 (by decide) (by decide)
  rcases (show j = 179 ∨ j = 180 ∨ j = 181 ∨ j = 182 ∨ j = 183 ∨ j = 184 ∨ j = 185 ∨ j = 186 ∨ j = 187 ∨ j = 188 ∨ j = 189 ∨ j = 190 ∨ j = 191 ∨ j = 192 ∨ j = 193 ∨ j = 194 ∨ j = 195 ∨ j = 196 ∨ j = 197 ∨ j = 198 ∨ j = 199 by omega) with rfl | rfl | rfl | rfl | rfl | rfl | rfl | rfl | rfl | rfl | rfl | rfl | rfl | rfl | rfl | rfl | rfl | rfl | rfl | rfl | rfl
  · rw [wo_20 (by decide +kernel), r1, r2, r3, r4, r5, r6, r7, r8, r9, r10, r11, r12, r13, r14, r15, r16, r17, r18, r19, r20]
    exact zc_s ((va_up_ne _ _ (by omega)).trans ((va_up_ne _ _ (by omega)).trans hO179))
  · show _ = wcell _ _ _ _ _
    rw [wc_21 (by decide +kernel), M0_180, show ln 180 = 26 by decide +kernel]
    refine zc_s ((va_up_ne _ _ (by omega)).trans ((va_up_ne _ _ (by omega)).trans (hO180.trans ?_)))
    exact congrArg (fun f => some (Sum.inl (cid 0, 26, Sum.inl f))) (pre_end (v := v26) (N := 26) (fun j hj => getD_out hj))
  · rw [wc_m0 (N := 9) (by decide +kernel) (by decide +kernel) (by decide) (by decide) (by decide)]
    exact zc_s ((va_up_ne _ _ (by omega)).trans ((va_up_ne _ _ (by omega)).trans hO181))
  · rw [wc_m0 (N := 135) (by decide +kernel) (by decide +kernel) (by decide) (by decide) (by decide)]
    exact zc_s ((va_up_ne _ _ (by omega)).trans ((va_up_ne _ _ (by omega)).trans hO182))
  · rw [wc_m0 (N := 6) (by decide +kernel) (by decide +kernel) (by decide) (by decide) (by decide)]
    exact zc_s ((va_up_ne _ _ (by omega)).trans ((va_up_ne _ _ (by omega)).trans hO183))
  · show _ = wcell _ _ _ _ _
    rw [wc_21 (by decide +kernel), M0_184, show ln 184 = 4 by decide +kernel]
    refine zc_s ((va_up_self _ _ _).trans ?_)
    exact congrArg (fun f => some (Sum.inl (cid 0, 4, Sum.inl f))) (pre_end (v := vFs) (N := 4) (fun j hj => getD_out hj))
  · rw [wc_m0 (N := 36) (by decide +kernel) (by decide +kernel) (by decide) (by decide) (by decide)]
    exact zc_s ((va_up_ne _ _ (by omega)).trans ((va_up_ne _ _ (by omega)).trans hO185))
  · rw [wc_m0 (N := 80) (by decide +kernel) (by decide +kernel) (by decide) (by decide) (by decide)]
    exact zc_s ((va_up_ne _ _ (by omega)).trans ((va_up_ne _ _ (by omega)).trans hO186))
  · rw [wc_m0 (N := 80) (by decide +kernel) (by decide +kernel) (by decide) (by decide) (by decide)]
    exact zc_s ((va_up_ne _ _ (by omega)).trans ((va_up_ne _ _ (by omega)).trans hO187))
  · rw [wc_m0 (N := 40) (by decide +kernel) (by decide +kernel) (by decide) (by decide) (by decide)]
    exact zc_s ((va_up_ne _ _ (by omega)).trans ((va_up_ne _ _ (by omega)).trans hO188))
  · rw [wc_m0 (N := 10) (by decide +kernel) (by decide +kernel) (by decide) (by decide) (by decide)]
    exact zc_s ((va_up_ne _ _ (by omega)).trans ((va_up_ne _ _ (by omega)).trans hO189))
  · rw [wc_m0 (N := 9) (by decide +kernel) (by decide +kernel) (by decide) (by decide) (by decide)]
    exact zc_s ((va_up_ne _ _ (by omega)).trans ((va_up_ne _ _ (by omega)).trans hO190))
  · rw [wc_m0 (N := 90) (by decide +kernel) (by decide +kernel) (by decide) (by decide) (by decide)]
    exact zc_s ((va_up_ne _ _ (by omega)).trans ((va_up_ne _ _ (by omega)).trans hO191))
  · rw [wc_m0 (N := 90) (by decide +kernel) (by decide +kernel) (by decide) (by decide) (by decide)]
    exact zc_s ((va_up_ne _ _ (by omega)).trans ((va_up_ne _ _ (by omega)).trans hO192))
  · rw [wc_ml0 (N := 26) (by decide +kernel) (by decide +kernel) (by omega)]
    exact zc_s ((va_up_ne _ _ (by omega)).trans ((va_up_ne _ _ (by omega)).trans hO193))
  · rw [wc_m0 (N := 135) (by decide +kernel) (by decide +kernel) (by decide) (by decide) (by decide)]
    exact zc_s ((va_up_ne _ _ (by omega)).trans ((va_up_ne _ _ (by omega)).trans hO194))
  · rw [wc_m0 (N := 270) (by decide +kernel) (by decide +kernel) (by decide) (by decide) (by decide)]
    exact zc_s ((va_up_ne _ _ (by omega)).trans ((va_up_ne _ _ (by omega)).trans hO195))
  · rw [wc_m0 (N := 2) (by decide +kernel) (by decide +kernel) (by decide) (by decide) (by decide)]
    exact zc_s ((va_up_ne _ _ (by omega)).trans ((va_up_ne _ _ (by omega)).trans hO196))
  · show _ = wcell _ _ _ _ _
    rw [wc_21 (by decide +kernel), M0_197, show ln 197 = 4 by decide +kernel]
    refine zc_s ((va_up_ne _ _ (by omega)).trans ((va_up_self _ _ _).trans ?_))
    exact congrArg (fun f => some (Sum.inl (cid 0, 4, Sum.inl f))) (pre_end (v := vMi) (N := 4) (fun j hj => if_neg (by omega)))
  · rw [wc_m0 (N := 4) (by decide +kernel) (by decide +kernel) (by decide) (by decide) (by decide)]
    exact zc_s ((va_up_ne _ _ (by omega)).trans ((va_up_ne _ _ (by omega)).trans hO198))
  · rw [wc_m0 (N := 96) (by decide +kernel) (by decide +kernel) (by decide) (by decide) (by decide)]
    exact zc_s ((va_up_ne _ _ (by omega)).trans ((va_up_ne _ _ (by omega)).trans hO199))
