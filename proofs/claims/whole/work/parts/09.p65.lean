theorem blk_2 {t : Nat} (h : kd t = 2) : ∀ j, t ≤ j → j < t + 2 → ∀ c ∈ kids j, t ≤ c ∧ c < t + 2 := by
  intro j a b c hc
  rcases (show j = t ∨ j = t + 1 by omega) with rfl | rfl
  · unfold kids at hc
    rw [h] at hc
    simp [kidsK] at hc
    omega
  · unfold kids at hc
    rw [(ch_2_1 h).1] at hc
    simp [kidsK] at hc
theorem blk_3 {t : Nat} (h : kd t = 3) : ∀ j, t ≤ j → j < t + 2 → ∀ c ∈ kids j, t ≤ c ∧ c < t + 2 := by
  intro j a b c hc
  rcases (show j = t ∨ j = t + 1 by omega) with rfl | rfl
  · unfold kids at hc
    rw [h] at hc
    simp [kidsK] at hc
    omega
  · unfold kids at hc
    rw [(ch_3_2 h).1] at hc
    simp [kidsK] at hc
theorem blk_7 {t : Nat} (h : kd t = 7) : ∀ j, t ≤ j → j < t + 2 → ∀ c ∈ kids j, t ≤ c ∧ c < t + 2 := by
  intro j a b c hc
  rcases (show j = t ∨ j = t + 1 by omega) with rfl | rfl
  · unfold kids at hc
    rw [h] at hc
    simp [kidsK] at hc
    omega
  · unfold kids at hc
    rw [(ch_7_2 h).1] at hc
    simp [kidsK] at hc
theorem dz_gen {D : va_G} {cid : Nat → ClassId} {A : Nat → Prop} {s : State} {k n : Nat} {ad : Nat → Nat} {ov : Nat → Option va_E} {H : Heap} {locs : List Loc} {P : Prop} (d : Dz D cid A s k n ad ov H locs) (kk : ∀ OV : Nat → Option va_E, OV = ov → Dz D cid A s k n ad OV H locs → P) : P := kk ov rfl d
set_option maxHeartbeats 4000000 in
set_option maxRecDepth 100000 in
theorem lz_X0_76 {p : Program} {l : Launch} {e : Env} {R : Room} {s : State} {m : MethodId} {args : Array Value} {below : List Frame} {meth : Method} {c : Code} {Q : State → Prop} {D : va_G} {cid : Nat → ClassId} {A : Nat → Prop} {k : Nat} {ad0 : Nat → Nat} {ov0 : Nat → Option va_E} {E : List Value} {q0 c0 s0 : Nat} (hk : kd k = 1) (S : Kx D cid A p s m args meth c cX0_init 2 RX0) (hE : E[1]? = some (.ref (ad0 (k + 2)))) (hov : ov0 k = some (.inr (0, E))) (hno : ∀ j, k + 2 + 4 ≤ j → ov0 j = none) (hq : ad0 k = q0) (hrC : c0 + 2 * 9 ≤ R.cells) (hrS : s0 + 9 * 17 ≤ R.slots) (hrF : 2 ≤ R.frames ∧ 32 ≤ R.locals)
    (hK : ∀ (ad : Nat → Nat) (H : Heap) (locs : List Loc) (ls : Array Slot), (∀ j, j < k + 2 + 4 → ad j = ad0 j) → Dz D cid A s k (6 + 2 * 9) ad (va_up ov0 (k + 2) (some (.inl (cid 3, 9, .inr (.inr (.inr (.inr (fun j => if j < 9 then some (ad (k + 2 + 4 + 2 * j)) else none)))))))) H locs → lv_has ls 2 [(1, .int (nI 9)), (0, .ref q0)] → W p l e R s m args below meth c H locs (c0 + 2 * 9) (s0 + 9 * 17) Q (F0 m 101 ls [])) :
    ∀ (r i : Nat) (ad : Nat → Nat) (H : Heap) (locs : List Loc) (ls : Array Slot), i + r = 9 → (∀ j, j < k + 2 + 4 → ad j = ad0 j) → Dz D cid A s k (6 + 2 * i) ad (va_up ov0 (k + 2) (some (.inl (cid 3, 9, .inr (.inr (.inr (.inr (fun j => if j < i then some (ad (k + 2 + 4 + 2 * j)) else none)))))))) H locs → lv_has ls 2 [(1, .int (nI i)), (0, .ref q0)] → W p l e R s m args below meth c H locs (c0 + 2 * i) (s0 + i * 17) Q (F0 m 76 ls []) := by
  intro r
  induction r with
  | zero =>
    intro i ad H locs ls hir hag d hl
    have hi9 : i = 9 := by omega
    subst hi9
    refine lv_iload_n S.1 S.2.1 dX0_init_76 rfl (lv_at hl 0 rfl) ?_
    refine lv_bipush (v := 9) S.1 S.2.1 dX0_init_77 (by decide) ?_
    exact lv_icmp_ge (tgt := 101) S.1 S.2.1 dX0_init_79 (by decide) (fun cc => hK ad H locs ls hag d hl) (fun cc => absurd (show (9 : Int32) ≤ nI 9 by decide) cc)
  | succ r ih =>
    intro i ad H locs ls hir hag d hl
    have hi : i < 9 := by omega
    have hkd : kd (k + 2 + 4 + 2 * i) = 2 := (ca_13 (ch_1_1 hk).1 hi).1
    refine lv_iload_n S.1 S.2.1 dX0_init_76 rfl (lv_at hl 0 rfl) ?_
    refine lv_bipush (v := 9) S.1 S.2.1 dX0_init_77 (by decide) ?_
    refine lv_icmp_ge (tgt := 101) S.1 S.2.1 dX0_init_79 (by decide) (fun cc => absurd cc (by rw [show (9 : Int32) = nI 9 from rfl, q_le (by omega) (by omega)]; omega)) (fun cc => ?_)
    refine lv_aload_n S.1 S.2.1 dX0_init_82 rfl (lv_at hl 1 rfl) ?_
    refine z_get S d (j := k) (f := 1) (fs := E) ⟨by omega, by omega⟩ ((va_up_ne _ _ (by omega)).trans hov) (by rfl : vwCl[0]? = some (RX0, TX0, 7)) fx_X0 (by decide) fl_RX0_20 hE dX0_init_83 ((hag k (by omega)).trans hq).symm ?_
    refine lv_iload_n S.1 S.2.1 dX0_init_86 rfl (lv_at hl 0 rfl) ?_
    refine z_new (C := RX4) (T := TX4) (N := 2) (ci := 4) (ty := tyX4) (fs := [.int 0, .null]) S d fx_X4 tyX4_ok cl_RX0_18 it_RX4 in_RX4 rfl (fun j hj => by rcases (show j = 0 ∨ j = 1 by omega) with rfl | rfl <;> rfl) ⟨by omega, by omega⟩ dX0_init_87 (fun q ad1 H1 ha1 hq1 d => ?_)
    refine lv_dup S.1 S.2.1 dX0_init_90 rfl ?_
    have et : k + (6 + 2 * i) = k + 2 + 4 + 2 * i := by omega
    rw [et] at hq1 ha1 d
    refine z_callN (t := k + 2 + 4 + 2 * i) S hl d et.symm (ct_X4 l hkd) (va_up_self _ _ _) (by decide) (blk_2 hkd) (nv_RX0_49 S.2.2.2.2.2.2.2.1.2.2.2) in_RX4 im_yX4_init co_yX4_init rfl (by decide +kernel) ⟨rfl, rfl⟩ ⟨by show 1 + 1 ≤ _; omega, by show 8 + (1 + 11) + 12 ≤ _; omega⟩ (by show _ ≤ 8; exact Nat.le_of_ble_eq_true rfl) ⟨by omega, by omega⟩ dX0_init_91 hq1.symm (fun ad2 H2 locs2 ha2 d => ?_)
    have h02 : ∀ j, j < k + 2 + 4 + 2 * i → ad2 j = ad j := fun j hj => (ha2 j (by omega)).trans (ha1 j hj)
    refine z_aast (C := RX4) (T := TX4) (N := 2) (t0 := 3) (jk := k + 2 + 4 + 2 * i) (j := k + 2) (i0 := i) S d ⟨by omega, by omega⟩ (by rw [va_up_ne _ _ (by omega), va_up_ne _ _ (by omega), va_up_self]) rfl ⟨by omega, by omega⟩ ((zc_n (va_up_self _ _ _)).trans (wo_2 hkd)) (by rfl : vwCl[4]? = some (RX4, TX4, 2)) rfl hi (by omega) dX0_init_94 (((h02 (k + 2) (by omega)).trans (hag _ (by omega))).symm) (((ha2 _ (Nat.le_refl _)).trans hq1).symm) (fun H3 locs3 d => ?_)
    refine lv_iinc (v := nI (i + 1)) (lv' := [(1, .int (nI (i + 1))), (0, .ref q0)]) S.1 S.2.1 dX0_init_95 hl (k := 0) rfl (by rw [← nI_1]; rfl) (by decide) rfl (fun ls hl => ?_)
    refine lv_goto (tgt := 76) S.1 S.2.1 dX0_init_98 (by decide) ?_
    refine W.widen (k := c0 + 2 * (i + 1)) (n := s0 + (i + 1) * 17) (by omega) (by omega) ?_
    rw [show 6 + 2 * i + 2 = 6 + 2 * (i + 1) by omega] at d
    have eov : ∀ X : va_E, va_up (va_up (va_up (va_up ov0 (k + 2) (some X)) (k + 2 + 4 + 2 * i) (some (.inr (4, [.int 0, .null])))) (k + 2 + 4 + 2 * i) none) (k + 2) (some (.inl (cid 3, 9, .inr (.inr (.inr (.inr (va_up (fun j => if j < i then some (ad (k + 2 + 4 + 2 * j)) else none) i (some q)))))))) = va_up ov0 (k + 2) (some (.inl (cid 3, 9, .inr (.inr (.inr (.inr (fun j => if j < (i + 1) then some (ad2 (k + 2 + 4 + 2 * j)) else none))))))) := fun X => by
      funext j
      by_cases z : j = k + 2
      · subst z
        rw [va_up_self, va_up_self]
        congr 8
        funext w
        by_cases z1 : w = i
        · subst z1
          rw [va_up_self, if_pos (by omega), ha2 _ (Nat.le_refl _), hq1]
        · rw [va_up_ne _ _ z1]
          by_cases z2 : w < i
          · rw [if_pos z2, if_pos (by omega), h02 _ (by omega)]
          · rw [if_neg z2, if_neg (by omega)]
      · rw [va_up_ne _ _ z, va_up_ne _ _ z]
        by_cases z1 : j = k + 2 + 4 + 2 * i
        · subst z1
          rw [va_up_self, hno _ (by omega)]
        · rw [va_up_ne _ _ z1, va_up_ne _ _ z1, va_up_ne _ _ z]
    rw [eov] at d
    exact ih (i + 1) ad2 H3 locs3 ls (by omega) (fun j hj => (h02 j (by omega)).trans (hag j hj)) d hl
set_option maxHeartbeats 4000000 in
set_option maxRecDepth 100000 in
theorem lz_X0_103 {p : Program} {l : Launch} {e : Env} {R : Room} {s : State} {m : MethodId} {args : Array Value} {below : List Frame} {meth : Method} {c : Code} {Q : State → Prop} {D : va_G} {cid : Nat → ClassId} {A : Nat → Prop} {k : Nat} {ad0 : Nat → Nat} {ov0 : Nat → Option va_E} {E : List Value} {q0 c0 s0 : Nat} (hk : kd k = 1) (S : Kx D cid A p s m args meth c cX0_init 2 RX0) (hE : E[3]? = some (.ref (ad0 (k + 3)))) (hov : ov0 k = some (.inr (0, E))) (hno : ∀ j, k + 3 + 21 ≤ j → ov0 j = none) (hq : ad0 k = q0) (hrC : c0 + 2 * 10 ≤ R.cells) (hrS : s0 + 10 * 9 ≤ R.slots) (hrF : 2 ≤ R.frames ∧ 32 ≤ R.locals)
    (hK : ∀ (ad : Nat → Nat) (H : Heap) (locs : List Loc) (ls : Array Slot), (∀ j, j < k + 3 + 21 → ad j = ad0 j) → Dz D cid A s k (24 + 2 * 10) ad (va_up ov0 (k + 3) (some (.inl (cid 4, 10, .inr (.inr (.inr (.inr (fun j => if j < 10 then some (ad (k + 3 + 21 + 2 * j)) else none)))))))) H locs → lv_has ls 2 [(1, .int (nI 10)), (0, .ref q0)] → W p l e R s m args below meth c H locs (c0 + 2 * 10) (s0 + 10 * 9) Q (F0 m 128 ls [])) :
    ∀ (r i : Nat) (ad : Nat → Nat) (H : Heap) (locs : List Loc) (ls : Array Slot), i + r = 10 → (∀ j, j < k + 3 + 21 → ad j = ad0 j) → Dz D cid A s k (24 + 2 * i) ad (va_up ov0 (k + 3) (some (.inl (cid 4, 10, .inr (.inr (.inr (.inr (fun j => if j < i then some (ad (k + 3 + 21 + 2 * j)) else none)))))))) H locs → lv_has ls 2 [(1, .int (nI i)), (0, .ref q0)] → W p l e R s m args below meth c H locs (c0 + 2 * i) (s0 + i * 9) Q (F0 m 103 ls []) := by
  intro r
  induction r with
  | zero =>
    intro i ad H locs ls hir hag d hl
    have hi9 : i = 10 := by omega
    subst hi9
    refine lv_iload_n S.1 S.2.1 dX0_init_103 rfl (lv_at hl 0 rfl) ?_
    refine lv_bipush (v := 10) S.1 S.2.1 dX0_init_104 (by decide) ?_
    exact lv_icmp_ge (tgt := 128) S.1 S.2.1 dX0_init_106 (by decide) (fun cc => hK ad H locs ls hag d hl) (fun cc => absurd (show (10 : Int32) ≤ nI 10 by decide) cc)
  | succ r ih =>
    intro i ad H locs ls hir hag d hl
    have hi : i < 10 := by omega
    have hkd : kd (k + 3 + 21 + 2 * i) = 3 := (ca_14 (ch_1_3 hk).1 hi).1
    refine lv_iload_n S.1 S.2.1 dX0_init_103 rfl (lv_at hl 0 rfl) ?_
    refine lv_bipush (v := 10) S.1 S.2.1 dX0_init_104 (by decide) ?_
    refine lv_icmp_ge (tgt := 128) S.1 S.2.1 dX0_init_106 (by decide) (fun cc => absurd cc (by rw [show (10 : Int32) = nI 10 from rfl, q_le (by omega) (by omega)]; omega)) (fun cc => ?_)
    refine lv_aload_n S.1 S.2.1 dX0_init_109 rfl (lv_at hl 1 rfl) ?_
    refine z_get S d (j := k) (f := 3) (fs := E) ⟨by omega, by omega⟩ ((va_up_ne _ _ (by omega)).trans hov) (by rfl : vwCl[0]? = some (RX0, TX0, 7)) fx_X0 (by decide) fl_RX0_30 hE dX0_init_110 ((hag k (by omega)).trans hq).symm ?_
    refine lv_iload_n S.1 S.2.1 dX0_init_113 rfl (lv_at hl 0 rfl) ?_
    refine z_new (C := RX6) (T := TX6) (N := 3) (ci := 6) (ty := tyX6) (fs := [.int 0, .int 0, .null]) S d fx_X6 tyX6_ok cl_RX0_28 it_RX6 in_RX6 rfl (fun j hj => by rcases (show j = 0 ∨ j = 1 ∨ j = 2 by omega) with rfl | rfl | rfl <;> rfl) ⟨by omega, by omega⟩ dX0_init_114 (fun q ad1 H1 ha1 hq1 d => ?_)
    refine lv_dup S.1 S.2.1 dX0_init_117 rfl ?_
    have et : k + (24 + 2 * i) = k + 3 + 21 + 2 * i := by omega
    rw [et] at hq1 ha1 d
    refine z_callN (t := k + 3 + 21 + 2 * i) S hl d et.symm (ct_X6 l hkd) (va_up_self _ _ _) (by decide) (blk_3 hkd) (nv_RX0_50 S.2.2.2.2.2.2.2.1.2.2.2) in_RX6 im_yX6_init co_yX6_init rfl (by decide +kernel) ⟨rfl, rfl⟩ ⟨by show 1 + 1 ≤ _; omega, by show 8 + (1 + 11) + 12 ≤ _; omega⟩ (by show _ ≤ 8; exact Nat.le_of_ble_eq_true rfl) ⟨by omega, by omega⟩ dX0_init_118 hq1.symm (fun ad2 H2 locs2 ha2 d => ?_)
    have h02 : ∀ j, j < k + 3 + 21 + 2 * i → ad2 j = ad j := fun j hj => (ha2 j (by omega)).trans (ha1 j hj)
    refine z_aast (C := RX6) (T := TX6) (N := 3) (t0 := 4) (jk := k + 3 + 21 + 2 * i) (j := k + 3) (i0 := i) S d ⟨by omega, by omega⟩ (by rw [va_up_ne _ _ (by omega), va_up_ne _ _ (by omega), va_up_self]) rfl ⟨by omega, by omega⟩ ((zc_n (va_up_self _ _ _)).trans (wo_3 hkd)) (by rfl : vwCl[6]? = some (RX6, TX6, 3)) rfl hi (by omega) dX0_init_121 (((h02 (k + 3) (by omega)).trans (hag _ (by omega))).symm) (((ha2 _ (Nat.le_refl _)).trans hq1).symm) (fun H3 locs3 d => ?_)
    refine lv_iinc (v := nI (i + 1)) (lv' := [(1, .int (nI (i + 1))), (0, .ref q0)]) S.1 S.2.1 dX0_init_122 hl (k := 0) rfl (by rw [← nI_1]; rfl) (by decide) rfl (fun ls hl => ?_)
    refine lv_goto (tgt := 103) S.1 S.2.1 dX0_init_125 (by decide) ?_
    refine W.widen (k := c0 + 2 * (i + 1)) (n := s0 + (i + 1) * 9) (by omega) (by omega) ?_
    rw [show 24 + 2 * i + 2 = 24 + 2 * (i + 1) by omega] at d
    have eov : ∀ X : va_E, va_up (va_up (va_up (va_up ov0 (k + 3) (some X)) (k + 3 + 21 + 2 * i) (some (.inr (6, [.int 0, .int 0, .null])))) (k + 3 + 21 + 2 * i) none) (k + 3) (some (.inl (cid 4, 10, .inr (.inr (.inr (.inr (va_up (fun j => if j < i then some (ad (k + 3 + 21 + 2 * j)) else none) i (some q)))))))) = va_up ov0 (k + 3) (some (.inl (cid 4, 10, .inr (.inr (.inr (.inr (fun j => if j < (i + 1) then some (ad2 (k + 3 + 21 + 2 * j)) else none))))))) := fun X => by
      funext j
      by_cases z : j = k + 3
      · subst z
        rw [va_up_self, va_up_self]
        congr 8
        funext w
        by_cases z1 : w = i
        · subst z1
          rw [va_up_self, if_pos (by omega), ha2 _ (Nat.le_refl _), hq1]
        · rw [va_up_ne _ _ z1]
          by_cases z2 : w < i
          · rw [if_pos z2, if_pos (by omega), h02 _ (by omega)]
          · rw [if_neg z2, if_neg (by omega)]
      · rw [va_up_ne _ _ z, va_up_ne _ _ z]
        by_cases z1 : j = k + 3 + 21 + 2 * i
        · subst z1
          rw [va_up_self, hno _ (by omega)]
        · rw [va_up_ne _ _ z1, va_up_ne _ _ z1, va_up_ne _ _ z]
    rw [eov] at d
    exact ih (i + 1) ad2 H3 locs3 ls (by omega) (fun j hj => (h02 j (by omega)).trans (hag j hj)) d hl
set_option maxHeartbeats 4000000 in
set_option maxRecDepth 100000 in
theorem ct_X0 (l : Launch) {k : Nat} (hk : kd k = 1) : Ctr l yX0_init cX0_init 2 { frames := 2, cells := 43, slots := 278, locals := 32 } 0 [.null, .null, .int 0, .null, .int 0, .null, .null] k 44 43 278 := by
  refine z_in (by decide) rfl (by decide) (fun D cid A q0 p e s m args below meth c S hnam hr ad ov hq hov hno d ls hl => ?_)
  have S : Kx D cid A p s m args meth c cX0_init 2 RX0 := S
  have hl : lv_has ls 2 [(0, .ref q0)] := hl
  refine lv_aload_n S.1 S.2.1 dX0_init_0 rfl (lv_at hl 0 rfl) ?_
  refine k_obj S hl ml_RX0_3 dX0_init_1 ⟨by decide, by decide⟩ ?_
  refine lv_aload_n S.1 S.2.1 dX0_init_4 rfl (lv_at hl 0 rfl) ?_
  refine z_gst S d S.2.2.2.2.2.2.2.1.2.2.1 (nv_RX0_9 S.2.2.2.2.2.2.2.1.2.2.2) dX0_init_5 (fun tq1 ht1 => ?_)
  refine z_tlen S d ht1 (v := 4) rfl dX0_init_8 ?_
  refine z_newa (atype := .int) (ty := .int) (i := 0) (N' := 4) (a0 := (4, .inl (fun _ => 0))) S d ac_int rfl rfl (fun _ => rfl) (by decide) (by decide) (by decide) ⟨by decide, by decide⟩ dX0_init_9 (fun qn2 ad2 H2 ha2 hn2 d => ?_)
  refine z_putF S hnam d (j := k) (f := 0) (fs := [.null, .null, .int 0, .null, .int 0, .null, .null]) ⟨by omega, by omega⟩ (by simp [va_up, hov]) (by rfl : vwCl[0]? = some (RX0, TX0, 7)) fx_X0 tyX0_ok nmX0 (by decide) fl_RX0_13 rfl rfl rfl rfl rfl (Nat.le_of_ble_eq_true rfl) dX0_init_11 ((ha2 k (by omega)).trans hq).symm (fun H locs1 d => ?_)
  refine lv_aload_n S.1 S.2.1 dX0_init_14 rfl (lv_at hl 0 rfl) ?_
  refine lv_bipush (v := 9) S.1 S.2.1 dX0_init_15 (by decide) ?_
  refine z_newq (C := "MownWords$Strip") (i := 3) (N' := 9) S d cl_RX0_18 S.2.2.2.2.2.2.2.2.1.1 rfl (by decide) (by decide) (by decide) ⟨by decide, by decide⟩ dX0_init_17 (fun qn3 ad3 H3 ha3 hn3 d => ?_)
  refine z_putF S hnam d (j := k) (f := 1) (fs := [.ref qn2, .null, .int 0, .null, .int 0, .null, .null]) ⟨by omega, by omega⟩ (by simp [va_up, hov]) (by rfl : vwCl[0]? = some (RX0, TX0, 7)) fx_X0 tyX0_ok nmX0 (by decide) fl_RX0_20 rfl rfl rfl rfl rfl (Nat.le_of_ble_eq_true rfl) dX0_init_20 ((ha3 k (by omega)).trans ((ha2 k (by omega)).trans hq)).symm (fun H locs1 d => ?_)
  refine lv_aload_n S.1 S.2.1 dX0_init_23 rfl (lv_at hl 0 rfl) ?_
  refine lv_iconst (v := 0) S.1 S.2.1 dX0_init_24 (by decide) ?_
  refine z_put S d (j := k) (f := 2) (fs := [.ref qn2, .ref qn3, .int 0, .null, .int 0, .null, .null]) ⟨by omega, by omega⟩ (by simp [va_up, hov]) (by rfl : vwCl[0]? = some (RX0, TX0, 7)) fx_X0 tyX0_ok nmX0 (by decide) fl_RX0_24 rfl rfl rfl rfl (Nat.le_of_ble_eq_true rfl) dX0_init_25 ((ha3 k (by omega)).trans ((ha2 k (by omega)).trans hq)).symm (fun H locs1 d => ?_)
  refine lv_aload_n S.1 S.2.1 dX0_init_28 rfl (lv_at hl 0 rfl) ?_
  refine lv_bipush (v := 10) S.1 S.2.1 dX0_init_29 (by decide) ?_
  refine z_newq (C := "MownWords$Word") (i := 4) (N' := 10) S d cl_RX0_28 S.2.2.2.2.2.2.2.2.1.2.1 rfl (by decide) (by decide) (by decide) ⟨by decide, by decide⟩ dX0_init_31 (fun qn4 ad4 H4 ha4 hn4 d => ?_)
  refine z_putF S hnam d (j := k) (f := 3) (fs := [.ref qn2, .ref qn3, .int 0, .null, .int 0, .null, .null]) ⟨by omega, by omega⟩ (by simp [va_up, hov]) (by rfl : vwCl[0]? = some (RX0, TX0, 7)) fx_X0 tyX0_ok nmX0 (by decide) fl_RX0_30 rfl rfl rfl rfl rfl (Nat.le_of_ble_eq_true rfl) dX0_init_34 ((ha4 k (by omega)).trans ((ha3 k (by omega)).trans ((ha2 k (by omega)).trans hq))).symm (fun H locs1 d => ?_)
  refine lv_aload_n S.1 S.2.1 dX0_init_37 rfl (lv_at hl 0 rfl) ?_
  refine lv_iconst (v := 0) S.1 S.2.1 dX0_init_38 (by decide) ?_
  refine z_put S d (j := k) (f := 4) (fs := [.ref qn2, .ref qn3, .int 0, .ref qn4, .int 0, .null, .null]) ⟨by omega, by omega⟩ (by simp [va_up, hov]) (by rfl : vwCl[0]? = some (RX0, TX0, 7)) fx_X0 tyX0_ok nmX0 (by decide) fl_RX0_34 rfl rfl rfl rfl (Nat.le_of_ble_eq_true rfl) dX0_init_39 ((ha4 k (by omega)).trans ((ha3 k (by omega)).trans ((ha2 k (by omega)).trans hq))).symm (fun H locs1 d => ?_)
  refine lv_aload_n S.1 S.2.1 dX0_init_42 rfl (lv_at hl 0 rfl) ?_
  refine lv_bipush (v := 6) S.1 S.2.1 dX0_init_43 (by decide) ?_
  refine z_newa (atype := .int) (ty := .int) (i := 0) (N' := 6) (a0 := (6, .inl (fun _ => 0))) S d ac_int rfl rfl (fun _ => rfl) (by decide) (by decide) (by decide) ⟨by decide, by decide⟩ dX0_init_45 (fun qn5 ad5 H5 ha5 hn5 d => ?_)
  refine z_putF S hnam d (j := k) (f := 5) (fs := [.ref qn2, .ref qn3, .int 0, .ref qn4, .int 0, .null, .null]) ⟨by omega, by omega⟩ (by simp [va_up, hov]) (by rfl : vwCl[0]? = some (RX0, TX0, 7)) fx_X0 tyX0_ok nmX0 (by decide) fl_RX0_37 rfl rfl rfl rfl rfl (Nat.le_of_ble_eq_true rfl) dX0_init_47 ((ha5 k (by omega)).trans ((ha4 k (by omega)).trans ((ha3 k (by omega)).trans ((ha2 k (by omega)).trans hq)))).symm (fun H locs1 d => ?_)
  refine lv_aload_n S.1 S.2.1 dX0_init_50 rfl (lv_at hl 0 rfl) ?_
  refine lv_bipush (v := 6) S.1 S.2.1 dX0_init_51 (by decide) ?_
  refine z_newa (atype := .int) (ty := .int) (i := 0) (N' := 6) (a0 := (6, .inl (fun _ => 0))) S d ac_int rfl rfl (fun _ => rfl) (by decide) (by decide) (by decide) ⟨by decide, by decide⟩ dX0_init_53 (fun qn6 ad6 H6 ha6 hn6 d => ?_)
  refine z_putF S hnam d (j := k) (f := 6) (fs := [.ref qn2, .ref qn3, .int 0, .ref qn4, .int 0, .ref qn5, .null]) ⟨by omega, by omega⟩ (by simp [va_up, hov]) (by rfl : vwCl[0]? = some (RX0, TX0, 7)) fx_X0 tyX0_ok nmX0 (by decide) fl_RX0_40 rfl rfl rfl rfl rfl (Nat.le_of_ble_eq_true rfl) dX0_init_55 ((ha6 k (by omega)).trans ((ha5 k (by omega)).trans ((ha4 k (by omega)).trans ((ha3 k (by omega)).trans ((ha2 k (by omega)).trans hq))))).symm (fun H locs1 d => ?_)
  refine z_gst S d S.2.2.2.2.2.2.2.1.2.2.1 (nv_RX0_9 S.2.2.2.2.2.2.2.1.2.2.2) dX0_init_58 (fun tq7 ht7 => ?_)
  refine lv_iconst (v := 0) S.1 S.2.1 dX0_init_61 (by decide) ?_
  refine lv_aload_n S.1 S.2.1 dX0_init_62 rfl (lv_at hl 0 rfl) ?_
  refine z_get S d (j := k) (f := 0) (fs := [.ref qn2, .ref qn3, .int 0, .ref qn4, .int 0, .ref qn5, .ref qn6]) ⟨by omega, by omega⟩ (by simp [va_up, hov]) (by rfl : vwCl[0]? = some (RX0, TX0, 7)) fx_X0 (by decide) fl_RX0_13 rfl dX0_init_63 ((ha6 k (by omega)).trans ((ha5 k (by omega)).trans ((ha4 k (by omega)).trans ((ha3 k (by omega)).trans ((ha2 k (by omega)).trans hq))))).symm ?_
  refine lv_iconst (v := 0) S.1 S.2.1 dX0_init_66 (by decide) ?_
  refine z_gst S d S.2.2.2.2.2.2.2.1.2.2.1 (nv_RX0_9 S.2.2.2.2.2.2.2.1.2.2.2) dX0_init_67 (fun tq8 ht8 => ?_)
  refine z_tlen S d ht8 (v := 4) rfl dX0_init_70 ?_
  refine z_cpyT (N' := 4) (n1 := 4) (j := k + 1) (f := vFs) (g := fun _ => 0) S hl d ht7 ⟨by omega, by omega⟩ (by simp [va_up, hov]) rfl (by decide) (by decide) ml_RX0_43 ⟨by decide, Nat.le_of_ble_eq_true rfl⟩ dX0_init_71 ((ha6 (k + 1) (by omega)).trans ((ha5 (k + 1) (by omega)).trans ((ha4 (k + 1) (by omega)).trans ((ha3 (k + 1) (by omega)).trans hn2)))).symm (fun H locs1 d => ?_)
  refine lv_iconst (v := 0) S.1 S.2.1 dX0_init_74 (by decide) ?_
  refine lv_istore_n (lv' := [(1, .int 0), (0, .ref q0)]) S.1 S.2.1 dX0_init_75 rfl hl (by decide) rfl (fun ls hl => ?_)
  refine dz_gen d (fun OV hOV d => ?_)
  have hO0 : OV k = some (.inr (0, [.ref qn2, .ref qn3, .int 0, .ref qn4, .int 0, .ref qn5, .ref qn6])) := by rw [hOV]; simp [va_up, hov]
  have hO1 : OV (k + 1) = some (.inl (cid 0, 4, .inl (va_cpy vFs (fun _ => 0) 0 0 4))) := by rw [hOV]; simp [va_up, hov]
  have hO2 : OV (k + 2) = some (.inl (cid 3, 9, .inr (.inr (.inr (.inr (fun _ => none)))))) := by rw [hOV]; simp [va_up, hov]
  have hO3 : OV (k + 3) = some (.inl (cid 4, 10, .inr (.inr (.inr (.inr (fun _ => none)))))) := by rw [hOV]; simp [va_up, hov]
  have hO4 : OV (k + 4) = some (.inl (cid 0, 6, .inl (fun _ => 0))) := by rw [hOV]; simp [va_up, hov]
  have hO5 : OV (k + 5) = some (.inl (cid 0, 6, .inl (fun _ => 0))) := by rw [hOV]; simp [va_up, hov]
  have hOn : ∀ j, k + 6 ≤ j → OV j = none := fun j hj => d.2.2 j hj
  have hk2 : k = 1 ∨ k = 45 := (by decide +kernel : ∀ k, k < 200 → kd k = 1 → k = 1 ∨ k = 45) k (kd_lt hk (by decide)) hk
  have g1 : ad6 (k + 1) = qn2 := ((ha6 (k + 1) (by omega)).trans ((ha5 (k + 1) (by omega)).trans ((ha4 (k + 1) (by omega)).trans ((ha3 (k + 1) (by omega)).trans hn2))))
  have g2 : ad6 (k + 2) = qn3 := ((ha6 (k + 2) (by omega)).trans ((ha5 (k + 2) (by omega)).trans ((ha4 (k + 2) (by omega)).trans hn3)))
  have g3 : ad6 (k + 3) = qn4 := ((ha6 (k + 3) (by omega)).trans ((ha5 (k + 3) (by omega)).trans hn4))
  have g4 : ad6 (k + 4) = qn5 := ((ha6 (k + 4) (by omega)).trans hn5)
  have g5 : ad6 (k + 5) = qn6 := hn6
  have gq := ((ha6 k (by omega)).trans ((ha5 k (by omega)).trans ((ha4 k (by omega)).trans ((ha3 k (by omega)).trans ((ha2 k (by omega)).trans hq)))))
  clear hOV
  have e0 : va_up OV (k + 2) (some (.inl (cid 3, 9, .inr (.inr (.inr (.inr (fun j => if j < 0 then some (ad6 (k + 2 + 4 + 2 * j)) else none))))))) = OV := by
    funext j
    by_cases z : j = k + 2
    · subst z
      rw [va_up_self, hO2]
      congr 8
    · rw [va_up_ne _ _ z]
  rw [← e0] at d
  refine W.widen (k := 5 + 2 * 0) (n := 35 + 0 * 17) (by decide) (by decide) ?_
  refine lz_X0_76 (c0 := 5) (s0 := 35) (ad0 := ad6) (ov0 := OV) (E := [.ref qn2, .ref qn3, .int 0, .ref qn4, .int 0, .ref qn5, .ref qn6]) hk S (by rw [g2]; rfl) hO0 (fun j hj => hOn j (by omega)) gq (by decide) (by decide) ⟨by decide, by decide⟩ (fun adA H locs ls hagA d hl => ?_) 9 0 ad6 _ _ ls rfl (fun _ _ => rfl) d hl
  refine lv_iconst (v := 0) S.1 S.2.1 dX0_init_101 (by decide) ?_
  refine lv_istore_n (lv' := [(1, .int 0), (0, .ref q0)]) S.1 S.2.1 dX0_init_102 rfl hl (by decide) rfl (fun ls hl => ?_)
  have e1 : ∀ X : va_E, va_up (va_up OV (k + 2) (some X)) (k + 3) (some (.inl (cid 4, 10, .inr (.inr (.inr (.inr (fun j => if j < 0 then some (adA (k + 3 + 21 + 2 * j)) else none))))))) = va_up OV (k + 2) (some X) := fun X => by
    funext j
    by_cases z : j = k + 3
    · subst z
      rw [va_up_self, va_up_ne _ _ (by omega), hO3]
      congr 8
    · rw [va_up_ne _ _ z]
  rw [← e1] at d
  refine W.widen (k := 23 + 2 * 0) (n := 188 + 0 * 9) (by decide) (by decide) ?_
  refine lz_X0_103 (c0 := 23) (s0 := 188) (ad0 := adA) (E := [.ref qn2, .ref qn3, .int 0, .ref qn4, .int 0, .ref qn5, .ref qn6]) hk S (by rw [hagA _ (by omega), g3]; rfl) ((va_up_ne _ _ (by omega)).trans hO0) (fun j hj => (va_up_ne _ _ (by omega)).trans (hOn j (by omega))) ((hagA k (by omega)).trans gq) (by decide) (by decide) ⟨by decide, by decide⟩ (fun adB H locs ls hagB d hl => ?_) 10 0 adA _ _ ls rfl (fun _ _ => rfl) d hl
  have hAB : ∀ j, j < k + 6 → adB j = ad6 j := fun j hj => (hagB j (by omega)).trans (hagA j (by omega))
  refine z_end S hr d (fun j hj1 hj2 => ?_) ((hAB k (by omega)).trans gq) dX0_init_128 (by decide) (by decide)
  rcases (show j = k ∨ j = k + 1 ∨ j = k + 2 ∨ j = k + 3 ∨ j = k + 4 ∨ j = k + 5 ∨ k + 6 ≤ j by omega) with rfl | rfl | rfl | rfl | rfl | rfl | hj
  · rw [wo_1 hk, hAB (j + 1) (by omega), hAB (j + 2) (by omega), hAB (j + 3) (by omega), hAB (j + 4) (by omega), hAB (j + 5) (by omega), g1, g2, g3, g4, g5]
    exact zc_s ((va_up_ne _ _ (by omega)).trans ((va_up_ne _ _ (by omega)).trans hO0))
  · show _ = wcell _ _ _ _ _
    rw [wc_10 (ch_1_0 hk).1, (ch_1_0 hk).2]
    have eM : M0 (k + 1) = va_cpy vFs (fun _ => 0) 0 0 4 := by
      have h10 := (ch_1_0 hk).1
      funext j
      unfold M0
      rw [if_neg (by rw [h10]; decide), if_neg (by rw [h10]; decide), if_neg (by rw [h10]; decide), if_pos ⟨h10, by omega⟩]
      by_cases hj : j < 4
      · rw [pk_cpy_in (by omega) (by omega)]; congr 1; omega
      · rw [pk_cpy_out (Or.inr (by omega))]
        unfold vFs
        rw [List.getD_eq_getElem?_getD, List.getElem?_eq_none (by simp; omega)]
        rfl
    rw [eM]
    exact zc_s ((va_up_ne _ _ (by omega)).trans ((va_up_ne _ _ (by omega)).trans hO1))
  · show _ = wcell _ _ _ _ _
    rw [wc_13 (ch_1_1 hk).1]
    refine (zc_s ((va_up_ne _ _ (by omega)).trans (va_up_self _ _ _))).trans ?_
    congr 7
    funext w
    by_cases hw : w < 9
    · rw [if_pos hw, if_pos hw, hagB _ (by omega)]
    · rw [if_neg hw, if_neg hw]
  · show _ = wcell _ _ _ _ _
    rw [wc_14 (ch_1_3 hk).1]
    exact zc_s (va_up_self _ _ _)
  · rw [wc_i0 (ch_1_5 hk).1 (ch_1_5 hk).2 (by omega) (by omega)]
    exact zc_s ((va_up_ne _ _ (by omega)).trans ((va_up_ne _ _ (by omega)).trans hO4))
  · rw [wc_i0 (ch_1_6 hk).1 (ch_1_6 hk).2 (by omega) (by omega)]
    exact zc_s ((va_up_ne _ _ (by omega)).trans ((va_up_ne _ _ (by omega)).trans hO5))
  · exact zc_n ((va_up_ne _ _ (by omega)).trans ((va_up_ne _ _ (by omega)).trans (hOn j hj)))
