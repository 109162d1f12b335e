/-- a method without a world -/
def SE (p : Program) (s : State) (m : MethodId) (args : Array Value) (meth : Method) (c : Code) (cc : ByteArray) (nL : Nat) (own : String) : Prop :=
  p.tables.exec = Jvm.exec ∧ c.code = cc ∧ c.maxLocals = nL ∧ s.vm.findClass own = some m.cls ∧ (∀ w ∈ UW, w.before args s = true) ∧ meth.locks = false
section SEE
variable {p : Program} {l : Launch} {e : Env} {R : Room} {s : State} {m : MethodId} {args : Array Value} {below : List Frame} {meth : Method} {c : Code} {cc : ByteArray} {nL : Nat} {own : String} {pc : Nat} {ls : Array Slot}
theorem SE.uw (S : SE p s m args meth c cc nL own) {w : Cond} (h : w ∈ UW) : w.before args s = true := S.2.2.2.2.1 w h
theorem e_iret {z v : Int32} {ty : FieldType} {cells slots : Nat} (S : SE p s m args meth c cc nL own) (hr : meth.sig.returnType = some ty) (hn : narrow ty (.int v) = .int v) (hz : v = z) (hd : decode cc pc = .ok (.ireturn, 1)) : W p l e R s m args below meth c s.heap [] cells slots (MQ below (va_Qi (fun (r : Int32) (_ : Unit) => r = z) (fun _ _ => True) (fun _ => False)) args s cells slots (fun _ => False)) (F0 m pc ls [.int v]) :=
  W.zret S.1 S.2.1 hr hn (fun t ht hW => ⟨⟨v, (), rfl, hz, trivial⟩, by rw [ht]; exact Nat.le_refl _, fun q _ _ => by rw [ht]⟩) (fun q hq => by cases hq) hd S.2.2.2.2.2
end SEE
theorem e_in {l : Launch} {y : MethodName} {bytes : ByteArray} {maxL : Nat} {ret : Option FieldType} {rm : Room} {As : List Value} {Qc : Array Value → State → Outcome → State → Prop} (hy : plainName y.cls = true) (h : ∀ p e s m args below meth c, SE p s m args meth c bytes maxL y.cls → meth.sig.returnType = ret → ∀ ls, lv_has ls maxL (lv_args 0 As) → W p l e rm s m args below meth c s.heap [] 0 0 (MQ below Qc args s 0 0 (fun _ => False)) (F0 m 0 ls [])) (hlen : (lg_sl As).length ≤ maxL) : Met l y (.code y bytes maxL ret :: UW) rm (va_Pc As (fun _ => True)) Qc 0 0 (fun _ => False) := by
  refine Met.ofW (cc := bytes) (maxL := maxL) (ret := ret) hy rfl ?_
  intro p e s m args below meth c s₁ B hml hv
  obtain ⟨rfl, -⟩ := hv
  have hts := atoms_spec (ws := .code y bytes maxL ret :: UW) B.pre
  rw [lg_entry_eq]
  exact h p e s m _ below meth c ⟨B.exec, B.bytes, hml, findClass_of_methodNamed B.named, fun w hw => hts w (List.mem_cons_of_mem _ hw), B.notSynchronized⟩ B.returns _ (lv_entry As hlen)
set_option maxHeartbeats 4000000 in
set_option maxRecDepth 100000 in
theorem cE_J6_bitCount (l : Launch) (a0 : Int32) {z : Int32} (h : f_J6_bitCount_0f7a4 a0 = some z) : Met l yJ6_bitCount_0f7a4 (.code yJ6_bitCount_0f7a4 cJ6_bitCount_0f7a4 1 (Option.some Jvm.ClassFile.FieldType.int) :: UW) rm_J6_bitCount_0f7a4 (va_Pc [.int a0] (fun _ => True)) (va_Qi (fun (r : Int32) (_ : Unit) => r = z) (fun _ _ => True) (fun _ => False)) 0 0 (fun _ => False) := by
  refine e_in (by decide) (fun p e s m args below meth c S hr ls hl => ?_) (Nat.le_of_ble_eq_true rfl)
  have S : SE p s m args meth c cJ6_bitCount_0f7a4 1 RJ6 := S
  have hl : lv_has ls 1 [(0, .int a0)] := hl
  unfold f_J6_bitCount_0f7a4 at h
  refine lv_iload_n S.1 S.2.1 dJ6_bitCount_0f7a4_0 rfl (lv_at hl 0 rfl) ?_
  refine lv_iload_n S.1 S.2.1 dJ6_bitCount_0f7a4_1 rfl (lv_at hl 0 rfl) ?_
  refine lv_iconst (v := 1) S.1 S.2.1 dJ6_bitCount_0f7a4_2 (by decide) ?_
  refine lv_iushr S.1 S.2.1 dJ6_bitCount_0f7a4_3 rfl ?_
  refine lv_ldcw (v := 1431655765) S.1 S.2.1 S.2.2.2.1 (S.uw ck_RJ6_265) dJ6_bitCount_0f7a4_4 ?_
  refine lv_iand S.1 S.2.1 dJ6_bitCount_0f7a4_7 ?_
  refine lv_isub S.1 S.2.1 dJ6_bitCount_0f7a4_8 ?_
  obtain ⟨v1, ev1, h⟩ := lt_e h
  refine r_top ev1 ?_
  refine lv_istore_n (lv' := [(0, .int v1)]) S.1 S.2.1 dJ6_bitCount_0f7a4_9 rfl hl (by decide) rfl (fun ls hl => ?_)
  refine lv_iload_n S.1 S.2.1 dJ6_bitCount_0f7a4_10 rfl (lv_at hl 0 rfl) ?_
  refine lv_ldcw (v := 858993459) S.1 S.2.1 S.2.2.2.1 (S.uw ck_RJ6_266) dJ6_bitCount_0f7a4_11 ?_
  refine lv_iand S.1 S.2.1 dJ6_bitCount_0f7a4_14 ?_
  refine lv_iload_n S.1 S.2.1 dJ6_bitCount_0f7a4_15 rfl (lv_at hl 0 rfl) ?_
  refine lv_iconst (v := 2) S.1 S.2.1 dJ6_bitCount_0f7a4_16 (by decide) ?_
  refine lv_iushr S.1 S.2.1 dJ6_bitCount_0f7a4_17 rfl ?_
  refine lv_ldcw (v := 858993459) S.1 S.2.1 S.2.2.2.1 (S.uw ck_RJ6_266) dJ6_bitCount_0f7a4_18 ?_
  refine lv_iand S.1 S.2.1 dJ6_bitCount_0f7a4_21 ?_
  refine lv_iadd S.1 S.2.1 dJ6_bitCount_0f7a4_22 ?_
  obtain ⟨v2, ev2, h⟩ := lt_e h
  refine r_top ev2 ?_
  refine lv_istore_n (lv' := [(0, .int v2)]) S.1 S.2.1 dJ6_bitCount_0f7a4_23 rfl hl (by decide) rfl (fun ls hl => ?_)
  refine lv_iload_n S.1 S.2.1 dJ6_bitCount_0f7a4_24 rfl (lv_at hl 0 rfl) ?_
  refine lv_iload_n S.1 S.2.1 dJ6_bitCount_0f7a4_25 rfl (lv_at hl 0 rfl) ?_
  refine lv_iconst (v := 4) S.1 S.2.1 dJ6_bitCount_0f7a4_26 (by decide) ?_
  refine lv_iushr S.1 S.2.1 dJ6_bitCount_0f7a4_27 rfl ?_
  refine lv_iadd S.1 S.2.1 dJ6_bitCount_0f7a4_28 ?_
  refine lv_ldcw (v := 252645135) S.1 S.2.1 S.2.2.2.1 (S.uw ck_RJ6_267) dJ6_bitCount_0f7a4_29 ?_
  refine lv_iand S.1 S.2.1 dJ6_bitCount_0f7a4_32 ?_
  obtain ⟨v3, ev3, h⟩ := lt_e h
  refine r_top ev3 ?_
  refine lv_istore_n (lv' := [(0, .int v3)]) S.1 S.2.1 dJ6_bitCount_0f7a4_33 rfl hl (by decide) rfl (fun ls hl => ?_)
  refine lv_iload_n S.1 S.2.1 dJ6_bitCount_0f7a4_34 rfl (lv_at hl 0 rfl) ?_
  refine lv_iload_n S.1 S.2.1 dJ6_bitCount_0f7a4_35 rfl (lv_at hl 0 rfl) ?_
  refine lv_bipush (v := 8) S.1 S.2.1 dJ6_bitCount_0f7a4_36 (by decide) ?_
  refine lv_iushr S.1 S.2.1 dJ6_bitCount_0f7a4_38 rfl ?_
  refine lv_iadd S.1 S.2.1 dJ6_bitCount_0f7a4_39 ?_
  obtain ⟨v4, ev4, h⟩ := lt_e h
  refine r_top ev4 ?_
  refine lv_istore_n (lv' := [(0, .int v4)]) S.1 S.2.1 dJ6_bitCount_0f7a4_40 rfl hl (by decide) rfl (fun ls hl => ?_)
  refine lv_iload_n S.1 S.2.1 dJ6_bitCount_0f7a4_41 rfl (lv_at hl 0 rfl) ?_
  refine lv_iload_n S.1 S.2.1 dJ6_bitCount_0f7a4_42 rfl (lv_at hl 0 rfl) ?_
  refine lv_bipush (v := 16) S.1 S.2.1 dJ6_bitCount_0f7a4_43 (by decide) ?_
  refine lv_iushr S.1 S.2.1 dJ6_bitCount_0f7a4_45 rfl ?_
  refine lv_iadd S.1 S.2.1 dJ6_bitCount_0f7a4_46 ?_
  obtain ⟨v5, ev5, h⟩ := lt_e h
  refine r_top ev5 ?_
  refine lv_istore_n (lv' := [(0, .int v5)]) S.1 S.2.1 dJ6_bitCount_0f7a4_47 rfl hl (by decide) rfl (fun ls hl => ?_)
  refine lv_iload_n S.1 S.2.1 dJ6_bitCount_0f7a4_48 rfl (lv_at hl 0 rfl) ?_
  refine lv_bipush (v := 63) S.1 S.2.1 dJ6_bitCount_0f7a4_49 (by decide) ?_
  refine lv_iand S.1 S.2.1 dJ6_bitCount_0f7a4_51 ?_
  obtain rfl := Option.some.inj h
  exact e_iret S hr rfl rfl dJ6_bitCount_0f7a4_52
section ZB
variable {p : Program} {l : Launch} {e : Env} {R : Room} {s : State} {m : MethodId} {args : Array Value} {below : List Frame} {meth : Method} {c : Code} {H : Heap} {locs : List Loc} {cells slots : Nat} {Q : State → Prop}
variable {cc : ByteArray} {nL : Nat} {own : String} {pc : Nat} {ls : Array Slot} {rest : List Value} {D : va_G} {cid : Nat → ClassId} {A : Nat → Prop} {k n : Nat} {ad : Nat → Nat} {ov : Nat → Option va_E}
theorem z_bc {x z : Int32} {idx : Nat} {lv : List (Nat × Value)} (S : Kx D cid A p s m args meth c cc nL own) (hls : lv_has ls nL lv) (d : Dz D cid A s k n ad ov H locs) (h : f_J6_bitCount_0f7a4 x = some z) (hl : (.methodLink own idx yJ6_bitCount_0f7a4 : Cond) ∈ UW) (hF : 1 ≤ R.frames ∧ 20 ≤ R.locals) (hsum : (rest.map fun v => v.category).sum ≤ 8) (hcs : cells ≤ R.cells ∧ slots ≤ R.slots) (hd : decode cc pc = .ok (.invokestatic idx, 3))
    (kk : ∀ (H1 : Heap) (locs1 : List Loc), Dz D cid A s k n ad ov H1 locs1 → W p l e R s m args below meth c H1 locs1 cells slots Q (F0 m (pc + 3) ls (.int z :: rest))) : W p l e R s m args below meth c H locs cells slots Q (F0 m pc ls (.int x :: rest)) := by
  refine va_calli (va_runS (As := [.int x]) (rest := rest) ⟨S.1, S.2.1, S.2.2.1, S.2.2.2.1, S.2.2.2.2.1⟩ (cE_J6_bitCount l x h) (va_cwS 1 S.2.2.2.2.1 (gSs hl sm_yJ6_bitCount_0f7a4 in_RJ6 co_yJ6_bitCount_0f7a4) rfl rfl rfl hyS_J6_bitCount_0f7a4 ⟨hF.1, hF.2⟩) ⟨fun a U g mk q => ⟨q.1, trivial⟩, fun U hU hW => ⟨rfl, trivial⟩⟩ rfl rfl hls.1 rfl (lv_room hsum) hd hcs) d.1.2.2 (fun _ _ h => h.elim) (fun _ h => h.elim) (fun r u t H1 locs1 ht hvm hp hb hz1 hk1 hS => ?_)
  subst hp
  exact kk H1 locs1 ⟨⟨d.1.1.kept (fun i x hx => hk1 x.1 ((d.1.1 i x hx).lt) (fun f => f)), d.1.2.1, hS⟩, d.2⟩
end ZB
/-- the rings when those of the letters below l, and of l for the low sets below lw, are made -/
def rowc (l lw r : Nat) : Nat → Int64 := fun j => if r < l then sN (fun i => decide (lo i r = j)) else if r = l then sN (fun i => decide (i < lw) && decide (lo i r = j)) else 0
def OVR (cid : Nat → ClassId) (OV : Nat → Option va_E) (l lw : Nat) : Nat → Option va_E := fun j => if 104 ≤ j ∧ j < 130 then some (.inl (cid 2, 7, .inr (.inl (rowc l lw (j - 104))))) else OV j
theorem OVR_in {cid : Nat → ClassId} {OV : Nat → Option va_E} {l lw j : Nat} (h : 104 ≤ j ∧ j < 130) : OVR cid OV l lw j = some (.inl (cid 2, 7, .inr (.inl (rowc l lw (j - 104))))) := if_pos h
theorem OVR_out {cid : Nat → ClassId} {OV : Nat → Option va_E} {l lw j : Nat} (h : ¬ (104 ≤ j ∧ j < 130)) : OVR cid OV l lw j = OV j := if_neg h
theorem sN_f {P : Nat → Bool} (h : ∀ i, i < 64 → P i = false) : sN P = 0 := (sN_0 P).mpr h
theorem sN_bit {P : Nat → Bool} {w : Nat} (hw : w < 64) : sN P ||| lN (2 ^ w) = sN (fun i => P i || decide (i = w)) := by
  unfold sN
  rw [fb_orL]
  congr 1
  apply Nat.eq_of_testBit_eq
  intro j
  rw [Nat.testBit_or, Nat.testBit_two_pow, bs_tb, bs_tb]
  by_cases h : j < 64
  · have e : decide (w = j) = decide (j = w) := decide_eq_decide.mpr ⟨fun h => h.symm, fun h => h.symm⟩
    simp [h, e]
  · have : ¬ w = j := by omega
    simp [h, this]
theorem rowc_next {l : Nat} : rowc l 64 = rowc (l + 1) 0 := by
  funext r j
  unfold rowc
  by_cases h1 : r < l
  · rw [if_pos h1, if_pos (by omega)]
  · rw [if_neg h1]
    by_cases h2 : r = l
    · rw [if_pos h2, if_pos (by omega)]
      exact sN_ext (fun i hi => by rw [decide_eq_true hi, Bool.true_and])
    · rw [if_neg h2, if_neg (by omega)]
      by_cases h3 : r = l + 1
      · rw [if_pos h3]
        exact (sN_f (fun i _ => by simp)).symm
      · rw [if_neg h3]
theorem rowc_step {l lw : Nat} (hw : lw < 64) : vp_updL (rowc l lw l) (lo lw l) (rowc l lw l (lo lw l) ||| lN (2 ^ lw)) = rowc l (lw + 1) l := by
  funext j
  unfold vp_updL rowc
  by_cases h : j = lo lw l
  · subst h
    rw [if_pos rfl, if_neg (by omega), if_pos rfl, if_neg (by omega), if_pos rfl, sN_bit hw]
    refine sN_ext (fun i hi => ?_)
    by_cases z : i = lw
    · subst z; simp
    · have e1 : (i < lw + 1) ↔ (i < lw) := by omega
      simp [z, e1]
  · rw [if_neg h, if_neg (by omega), if_pos rfl, if_neg (by omega), if_pos rfl]
    refine sN_ext (fun i hi => ?_)
    by_cases z : i = lw
    · subst z
      have : ¬ lo i l = j := fun q => h q.symm
      simp [this]
    · have e1 : (i < lw + 1) ↔ (i < lw) := by omega
      simp [e1]
theorem rowc_other {l lw lw' r : Nat} (h : r ≠ l) : rowc l lw r = rowc l lw' r := by
  funext j
  unfold rowc
  by_cases h1 : r < l
  · rw [if_pos h1, if_pos h1]
  · rw [if_neg h1, if_neg h1, if_neg h, if_neg h]
theorem OVR_step {cid : Nat → ClassId} {OV : Nat → Option va_E} {l lw : Nat} (hl : l < 26) (hw : lw < 64) : va_up (OVR cid OV l lw) (104 + l) (some (.inl (cid 2, 7, .inr (.inl (vp_updL (rowc l lw l) (lo lw l) (rowc l lw l (lo lw l) ||| lN (2 ^ lw))))))) = OVR cid OV l (lw + 1) := by
  funext j
  by_cases z : j = 104 + l
  · subst z
    rw [va_up_self, OVR_in (by omega), rowc_step hw, show 104 + l - 104 = l by omega]
  · rw [va_up_ne _ _ z]
    by_cases y : 104 ≤ j ∧ j < 130
    · rw [OVR_in y, OVR_in y, rowc_other (lw' := lw + 1) (show j - 104 ≠ l by omega)]
    · rw [OVR_out y, OVR_out y]
section LO
variable {p : Program} {l : Launch} {e : Env} {R : Room} {s : State} {m : MethodId} {args : Array Value} {below : List Frame} {meth : Method} {c : Code} {cells slots : Nat} {Q : State → Prop}
variable {D : va_G} {cid : Nat → ClassId} {A : Nat → Prop} {ad : Nat → Nat} {OV : Nat → Option va_E} {E : List Value} {q0 : Nat}
set_option maxHeartbeats 4000000 in
set_option maxRecDepth 100000 in
theorem lz_X1_58 {t : Nat} (S : Kx D cid A p s m args meth c cX1_init 3 RX1) (hO0 : OV 102 = some (.inr (1, E))) (hE : E[0]? = some (.ref (ad 103))) (hO1 : OV 103 = none) (hq : ad 102 = q0) (hF : 1 ≤ R.frames ∧ 20 ≤ R.locals) (hcs : cells ≤ R.cells ∧ slots ≤ R.slots) (ht : t < 26)
    (hK : ∀ (H : Heap) (locs : List Loc) (ls : Array Slot), Dz D cid A s 102 56 ad (OVR cid OV t 64) H locs → lv_has ls 3 [(2, .int (nI 64)), (1, .int (nI t)), (0, .ref q0)] → W p l e R s m args below meth c H locs cells slots Q (F0 m 96 ls [])) :
    ∀ (r w : Nat) (H : Heap) (locs : List Loc) (ls : Array Slot), w + r = 64 → Dz D cid A s 102 56 ad (OVR cid OV t w) H locs → lv_has ls 3 [(2, .int (nI w)), (1, .int (nI t)), (0, .ref q0)] → W p l e R s m args below meth c H locs cells slots Q (F0 m 58 ls []) := by
  intro r
  induction r with
  | zero =>
    intro w H locs ls hw d hl
    have h64 : w = 64 := by omega
    subst h64
    refine lv_iload_n S.1 S.2.1 dX1_init_58 rfl (lv_at hl 0 rfl) ?_
    refine lv_bipush (v := 64) S.1 S.2.1 dX1_init_59 (by decide) ?_
    exact lv_icmp_ge (tgt := 96) S.1 S.2.1 dX1_init_61 (by decide) (fun cc => hK H locs ls d hl) (fun cc => absurd (show (64 : Int32) ≤ nI 64 by decide) cc)
  | succ r ih =>
    intro w H locs ls hw d hl
    have hw64 : w < 64 := by omega
    have hlo := lo_le hw64 t
    have hx := lx_lt hw64 t
    refine lv_iload_n S.1 S.2.1 dX1_init_58 rfl (lv_at hl 0 rfl) ?_
    refine lv_bipush (v := 64) S.1 S.2.1 dX1_init_59 (by decide) ?_
    refine lv_icmp_ge (tgt := 96) S.1 S.2.1 dX1_init_61 (by decide) (fun cc => absurd cc (by rw [show (64 : Int32) = nI 64 from rfl, q_le (by omega) (by omega)]; omega)) (fun cc => ?_)
    refine lv_aload_n S.1 S.2.1 dX1_init_64 rfl (lv_at hl 2 rfl) ?_
    refine z_get S d (j := 102) (f := 0) (fs := E) ⟨by omega, by omega⟩ ((OVR_out (by omega)).trans hO0) (by rfl : vwCl[1]? = some (RX1, TX1, 5)) fx_X1 (by decide) fl_RX1_13 hE dX1_init_65 hq.symm ?_
    refine lv_iload_n S.1 S.2.1 dX1_init_68 rfl (lv_at hl 1 rfl) ?_
    refine z_aald (j := 103) (t0 := 7) (ty := .array .long) (i0 := t) (b := ad (104 + t)) S d ⟨by omega, by omega⟩ ((zc_n ((OVR_out (by omega)).trans hO1)).trans (wc_18 (by decide +kernel))) rfl rfl rfl ht (by omega) (if_pos ht) dX1_init_69 rfl ?_
    refine lv_iload_n S.1 S.2.1 dX1_init_70 rfl (lv_at hl 0 rfl) ?_
    refine z_gst S d S.2.2.2.2.2.2.2.1.1 (nv_RX1_32 S.2.2.2.2.2.2.2.1.2.2.2) dX1_init_71 (fun tq htq => ?_)
    refine lv_iload_n S.1 S.2.1 dX1_init_74 rfl (lv_at hl 1 rfl) ?_
    refine z_tald (i0 := t) S d htq rfl ht (by omega) dX1_init_75 ?_
    refine lv_bipush (v := 64) S.1 S.2.1 dX1_init_76 (by decide) ?_
    refine lv_irem S.1 S.2.1 dX1_init_78 (by decide) ?_
    refine lv_ixor S.1 S.2.1 dX1_init_79 ?_
    have hb : f_J6_bitCount_0f7a4 (nI w ^^^ (v26 t - v26 t / 64 * 64)) = some (nI (lo w t)) := by
      rw [v26_ t ht, show (64 : Int32) = nI 64 from rfl, pk_rem (by have := shp_lt t; omega) (by omega) (by omega), i_xor, bc (by omega)]
      rfl
    refine z_bc S hl d hb ml_RX1_36 hF (by show _ ≤ 8; exact Nat.le_of_ble_eq_true rfl) hcs dX1_init_80 (fun H locs d => ?_)
    refine lv_dup2_11 S.1 S.2.1 dX1_init_83 rfl rfl ?_
    refine z_lald (j := 104 + t) (i0 := lo w t) (f := rowc t w t) S d ⟨by omega, by omega⟩ ((OVR_in (by omega)).trans (by rw [show 104 + t - 104 = t by omega])) rfl (by omega) (by omega) dX1_init_84 rfl ?_
    refine lv_lconst (v := 1) S.1 S.2.1 dX1_init_85 (by decide) ?_
    refine lv_iload_n S.1 S.2.1 dX1_init_86 rfl (lv_at hl 0 rfl) ?_
    refine lv_lshl S.1 S.2.1 dX1_init_87 rfl ?_
    refine lv_lor S.1 S.2.1 dX1_init_88 ?_
    have e1 : (1 : Int64) <<< ((nI w).toInt64 &&& 63) = lN (2 ^ w) := by
      rw [show (1 : Int64) = lN 1 from rfl, wb_shl 1 hw64, Nat.one_mul]
    rw [e1]
    refine z_last (j := 104 + t) (i0 := lo w t) (f := rowc t w t) S d ⟨by omega, by omega⟩ ((OVR_in (by omega)).trans (by rw [show 104 + t - 104 = t by omega])) rfl (by omega) (by omega) dX1_init_89 rfl (fun H locs d => ?_)
    refine lv_iinc (v := nI (w + 1)) (lv' := [(2, .int (nI (w + 1))), (1, .int (nI t)), (0, .ref q0)]) S.1 S.2.1 dX1_init_90 hl (k := 0) rfl (by rw [← nI_1]; rfl) (by decide) rfl (fun ls hl => ?_)
    refine lv_goto (tgt := 58) S.1 S.2.1 dX1_init_93 (by decide) ?_
    rw [OVR_step ht hw64] at d
    exact ih (w + 1) H locs ls (by omega) d hl
set_option maxHeartbeats 4000000 in
set_option maxRecDepth 100000 in
theorem lz_X1_50 (S : Kx D cid A p s m args meth c cX1_init 3 RX1) (hO0 : OV 102 = some (.inr (1, E))) (hE : E[0]? = some (.ref (ad 103))) (hO1 : OV 103 = none) (hq : ad 102 = q0) (hF : 1 ≤ R.frames ∧ 20 ≤ R.locals) (hcs : cells ≤ R.cells ∧ slots ≤ R.slots)
    (hK : ∀ (H : Heap) (locs : List Loc) (ls : Array Slot), Dz D cid A s 102 56 ad (OVR cid OV 26 0) H locs → W p l e R s m args below meth c H locs cells slots Q (F0 m 102 ls [])) :
    ∀ (r t : Nat) (H : Heap) (locs : List Loc) (ls : Array Slot), t + r = 26 → Dz D cid A s 102 56 ad (OVR cid OV t 0) H locs → lv_has ls 3 [(1, .int (nI t)), (0, .ref q0)] → W p l e R s m args below meth c H locs cells slots Q (F0 m 50 ls []) := by
  intro r
  induction r with
  | zero =>
    intro t H locs ls ht d hl
    have h26 : t = 26 := by omega
    subst h26
    refine lv_iload_n S.1 S.2.1 dX1_init_50 rfl (lv_at hl 0 rfl) ?_
    refine lv_bipush (v := 26) S.1 S.2.1 dX1_init_51 (by decide) ?_
    exact lv_icmp_ge (tgt := 102) S.1 S.2.1 dX1_init_53 (by decide) (fun cc => hK H locs ls d) (fun cc => absurd (show (26 : Int32) ≤ nI 26 by decide) cc)
  | succ r ih =>
    intro t H locs ls ht d hl
    have ht26 : t < 26 := by omega
    refine lv_iload_n S.1 S.2.1 dX1_init_50 rfl (lv_at hl 0 rfl) ?_
    refine lv_bipush (v := 26) S.1 S.2.1 dX1_init_51 (by decide) ?_
    refine lv_icmp_ge (tgt := 102) S.1 S.2.1 dX1_init_53 (by decide) (fun cc => absurd cc (by rw [show (26 : Int32) = nI 26 from rfl, q_le (by omega) (by omega)]; omega)) (fun cc => ?_)
    refine lv_iconst (v := 0) S.1 S.2.1 dX1_init_56 (by decide) ?_
    refine lv_istore_n (lv' := [(2, .int 0), (1, .int (nI t)), (0, .ref q0)]) S.1 S.2.1 dX1_init_57 rfl hl (by decide) rfl (fun ls hl => ?_)
    refine lz_X1_58 S hO0 hE hO1 hq hF hcs ht26 (fun H locs ls d hl => ?_) 64 0 H locs ls rfl d hl
    refine lv_iinc (v := nI (t + 1)) (lv' := [(1, .int (nI (t + 1))), (2, .int (nI 64)), (0, .ref q0)]) S.1 S.2.1 dX1_init_96 hl (k := 1) rfl (by rw [← nI_1]; rfl) (by decide) rfl (fun ls hl => ?_)
    refine lv_goto (tgt := 50) S.1 S.2.1 dX1_init_99 (by decide) ?_
    have e : OVR cid OV t 64 = OVR cid OV (t + 1) 0 := by
      unfold OVR
      rw [rowc_next]
    rw [e] at d
    exact ih (t + 1) H locs ls (by omega) d (lv_sub hl [0, 2] rfl)
end LO
set_option maxHeartbeats 4000000 in
set_option maxRecDepth 100000 in
theorem ct_X1 (l : Launch)  : Ctr l yX1_init cX1_init 3 { frames := 1, cells := 55, slots := 666, locals := 20 } 1 [.null, .null, .null, .int 0, .int 0] 102 56 55 666 := by
  refine z_in (by decide) rfl (by decide) (fun D cid A q0 p e s m args below meth c S hnam hr ad ov hq hov hno d ls hl => ?_)
  have S : Kx D cid A p s m args meth c cX1_init 3 RX1 := S
  have hl : lv_has ls 3 [(0, .ref q0)] := hl
  refine lv_aload_n S.1 S.2.1 dX1_init_0 rfl (lv_at hl 0 rfl) ?_
  refine k_obj S hl ml_RX1_5 dX1_init_1 ⟨by decide, by decide⟩ ?_
  refine lv_aload_n S.1 S.2.1 dX1_init_4 rfl (lv_at hl 0 rfl) ?_
  refine lv_bipush (v := 26) S.1 S.2.1 dX1_init_5 (by decide) ?_
  refine lv_bipush (v := 7) S.1 S.2.1 dX1_init_7 (by decide) ?_
  refine z_mna (ty := .long) (iy := 2) (t0 := 7) (N' := 26) (K' := 7) (z := (7, .inr (.inl (fun _ => 0)))) S d rfl cl_RX1_11 S.2.2.2.2.2.2.2.2.1.2.2.2.2 ac_long (S.K.2 2 _ rfl).2 rfl (by decide) (by decide) (by decide) (by decide) (by decide) rfl rfl ⟨by decide, by decide⟩ (fun c => (arrV_new c 7 _)) dX1_init_9 (fun ad => wc_18 (by decide +kernel)) (by decide +kernel) (fun qn1 ad1 H1 ha1 hn1 d => ?_)
  refine z_putF S hnam d (j := 102) (f := 0) (fs := [.null, .null, .null, .int 0, .int 0]) ⟨by omega, by omega⟩ (by simp [va_up, hov]) (by rfl : vwCl[1]? = some (RX1, TX1, 5)) fx_X1 tyX1_ok nmX1 (by decide) fl_RX1_13 rfl rfl rfl rfl rfl (Nat.le_of_ble_eq_true rfl) dX1_init_13 ((ha1 102 (by omega)).trans hq).symm (fun H locs1 d => ?_)
  refine lv_aload_n S.1 S.2.1 dX1_init_16 rfl (lv_at hl 0 rfl) ?_
  refine lv_bipush (v := 26) S.1 S.2.1 dX1_init_17 (by decide) ?_
  refine lv_bipush (v := 16) S.1 S.2.1 dX1_init_19 (by decide) ?_
  refine z_mna (ty := .int) (iy := 0) (t0 := 5) (N' := 26) (K' := 16) (z := (16, .inl (fun _ => 0))) S d rfl cl_RX1_16 S.2.2.2.2.2.2.2.2.1.2.2.2.1 ac_int (S.K.2 0 _ rfl).2 rfl (by decide) (by decide) (by decide) (by decide) (by decide) rfl rfl ⟨by decide, by decide⟩ (fun c => (arrV_new c 16 _)) dX1_init_21 (fun ad => wc_19 (by decide +kernel)) (by decide +kernel) (fun qn2 ad2 H2 ha2 hn2 d => ?_)
  refine z_putF S hnam d (j := 102) (f := 1) (fs := [.ref qn1, .null, .null, .int 0, .int 0]) ⟨by omega, by omega⟩ (by simp [va_up, hov]) (by rfl : vwCl[1]? = some (RX1, TX1, 5)) fx_X1 tyX1_ok nmX1 (by decide) fl_RX1_18 rfl rfl rfl rfl rfl (Nat.le_of_ble_eq_true rfl) dX1_init_25 ((ha2 102 (by omega)).trans ((ha1 102 (by omega)).trans hq)).symm (fun H locs1 d => ?_)
  refine lv_aload_n S.1 S.2.1 dX1_init_28 rfl (lv_at hl 0 rfl) ?_
  refine lv_bipush (v := 16) S.1 S.2.1 dX1_init_29 (by decide) ?_
  refine z_newa (atype := .long) (ty := .long) (i := 2) (N' := 16) (a0 := (16, .inr (.inl (fun _ => 0)))) S d ac_long rfl rfl (fun _ => rfl) (by decide) (by decide) (by decide) ⟨by decide, by decide⟩ dX1_init_31 (fun qn3 ad3 H3 ha3 hn3 d => ?_)
  refine z_putF S hnam d (j := 102) (f := 2) (fs := [.ref qn1, .ref qn2, .null, .int 0, .int 0]) ⟨by omega, by omega⟩ (by simp [va_up, hov]) (by rfl : vwCl[1]? = some (RX1, TX1, 5)) fx_X1 tyX1_ok nmX1 (by decide) fl_RX1_21 rfl rfl rfl rfl rfl (Nat.le_of_ble_eq_true rfl) dX1_init_33 ((ha3 102 (by omega)).trans ((ha2 102 (by omega)).trans ((ha1 102 (by omega)).trans hq))).symm (fun H locs1 d => ?_)
  refine lv_aload_n S.1 S.2.1 dX1_init_36 rfl (lv_at hl 0 rfl) ?_
  refine lv_bipush (v := (-4)) S.1 S.2.1 dX1_init_37 (by decide) ?_
  refine z_put S d (j := 102) (f := 3) (fs := [.ref qn1, .ref qn2, .ref qn3, .int 0, .int 0]) ⟨by omega, by omega⟩ (by simp [va_up, hov]) (by rfl : vwCl[1]? = some (RX1, TX1, 5)) fx_X1 tyX1_ok nmX1 (by decide) fl_RX1_25 rfl rfl rfl rfl (Nat.le_of_ble_eq_true rfl) dX1_init_39 ((ha3 102 (by omega)).trans ((ha2 102 (by omega)).trans ((ha1 102 (by omega)).trans hq))).symm (fun H locs1 d => ?_)
  refine lv_aload_n S.1 S.2.1 dX1_init_42 rfl (lv_at hl 0 rfl) ?_
  refine lv_bipush (v := (-4)) S.1 S.2.1 dX1_init_43 (by decide) ?_
  refine z_put S d (j := 102) (f := 4) (fs := [.ref qn1, .ref qn2, .ref qn3, .int (-4), .int 0]) ⟨by omega, by omega⟩ (by simp [va_up, hov]) (by rfl : vwCl[1]? = some (RX1, TX1, 5)) fx_X1 tyX1_ok nmX1 (by decide) fl_RX1_29 rfl rfl rfl rfl (Nat.le_of_ble_eq_true rfl) dX1_init_45 ((ha3 102 (by omega)).trans ((ha2 102 (by omega)).trans ((ha1 102 (by omega)).trans hq))).symm (fun H locs1 d => ?_)
  refine dz_gen d (fun OV hOV d => ?_)
  have hO0 : OV 102 = some (.inr (1, [.ref qn1, .ref qn2, .ref qn3, .int (-4), .int (-4)])) := by rw [hOV]; simp [va_up, hov]
  have hO1 : OV 103 = none := by rw [hOV]; simp [va_up, hov]
  have hO2 : ∀ j, 104 ≤ j → j < 130 → OV j = some (.inl (cid 2, 7, .inr (.inl (fun _ => 0)))) := fun j h1 h2 => by
    have n1 : j ≠ 102 := by omega
    have n2 : j ≠ 103 := by omega
    have n3 : j < 130 := by omega
    have n4 : ¬ j < 103 := by omega
    have n5 : j ≠ 157 := by omega
    rw [hOV]
    simp [va_up, hov, n1, n2, n3, n4, n5]
  have hO3 : OV 130 = none := by rw [hOV]; simp [va_up, hov]
  have hO4 : ∀ j, 131 ≤ j → j < 157 → OV j = some (.inl (cid 0, 16, .inl (fun _ => 0))) := fun j h1 h2 => by
    have n1 : j ≠ 102 := by omega
    have n2 : ¬ j < 130 := by omega
    have n3 : j ≠ 130 := by omega
    have n4 : j < 157 := by omega
    have n5 : j ≠ 157 := by omega
    rw [hOV]
    simp [va_up, hov, n1, n2, n3, n4, n5]
  have hO5 : OV 157 = some (.inl (cid 2, 16, .inr (.inl (fun _ => 0)))) := by rw [hOV]; simp [va_up, hov]
  have g1 : ad3 (102 + 1) = qn1 := ((ha3 (102 + 1) (by omega)).trans ((ha2 (102 + 1) (by omega)).trans hn1))
  have g2 : ad3 (102 + 28) = qn2 := ((ha3 (102 + 28) (by omega)).trans hn2)
  have g3 : ad3 (102 + 55) = qn3 := hn3
  have gq := ((ha3 102 (by omega)).trans ((ha2 102 (by omega)).trans ((ha1 102 (by omega)).trans hq)))
  clear hOV
  refine lv_iconst (v := 0) S.1 S.2.1 dX1_init_48 (by decide) ?_
  refine lv_istore_n (lv' := [(1, .int 0), (0, .ref q0)]) S.1 S.2.1 dX1_init_49 rfl hl (by decide) rfl (fun ls hl => ?_)
  have e0 : OVR cid OV 0 0 = OV := by
    funext j
    by_cases y : 104 ≤ j ∧ j < 130
    · rw [OVR_in y, hO2 j y.1 y.2]
      have er : rowc 0 0 (j - 104) = fun _ => 0 := by
        funext i
        unfold rowc
        rw [if_neg (by omega)]
        split
        · exact sN_f (fun _ _ => by simp)
        · rfl
      rw [er]
    · exact OVR_out y
  rw [← e0] at d
  refine W.widen (k := 55) (n := 666) (by decide) (by decide) ?_
  refine lz_X1_50 (E := [.ref qn1, .ref qn2, .ref qn3, .int (-4), .int (-4)]) S hO0 (by rw [← g1]; rfl) hO1 gq ⟨by decide, by decide⟩ ⟨by decide, by decide⟩ (fun H locs ls d => ?_) 26 0 _ _ ls rfl d hl
  refine z_end S hr d (fun j hj1 hj2 => ?_) gq dX1_init_102 (by decide) (by decide)
  rcases (show j = 102 ∨ j = 103 ∨ (104 ≤ j ∧ j < 130) ∨ j = 130 ∨ (131 ≤ j ∧ j < 157) ∨ j = 157 by omega) with rfl | rfl | hj | rfl | hj | rfl
  · rw [wo_5 (by decide +kernel), g1, g2, g3]
    exact zc_s ((OVR_out (by omega)).trans hO0)
  · exact zc_n ((OVR_out (by omega)).trans hO1)
  · show _ = wcell _ _ _ _ _
    rw [wc_12 ((by decide +kernel : ∀ j, j < 130 → 104 ≤ j → kd j = 12) j hj.2 hj.1), (by decide +kernel : ∀ j, j < 130 → 104 ≤ j → ln j = 7) j hj.2 hj.1]
    have eL : L0 j = rowc 26 0 (j - 104) := by
      funext i
      unfold L0 rowc
      rw [if_pos hj, if_pos (by omega)]
    rw [eL]
    exact zc_s (OVR_in hj)
  · exact zc_n ((OVR_out (by omega)).trans hO3)
  · rw [wc_i0 (N := 16) ((by decide +kernel : ∀ j, j < 157 → 131 ≤ j → kd j = 10) j hj.2 hj.1) ((by decide +kernel : ∀ j, j < 157 → 131 ≤ j → ln j = 16) j hj.2 hj.1) (by omega) (by omega)]
    exact zc_s ((OVR_out (by omega)).trans (hO4 j hj.1 hj.2))
  · rw [wc_l0 (N := 16) (by decide +kernel) (by decide +kernel) (by omega)]
    exact zc_s ((OVR_out (by omega)).trans hO5)
