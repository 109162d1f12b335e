theorem lw_bound {Ln i : Nat} (hi : i ≤ Ln) (hL : Ln ≤ 2560) (h : ¬ (Int32.ofNat Ln - 5 < nI i)) : i + 5 ≤ Ln := by
  rw [Int32.lt_iff_toInt_lt, nI_toInt (by omega), show Int32.ofNat Ln - 5 = nI Ln - nI 5 from rfl, pk_sub_toInt (by omega) (by omega)] at h
  omega
theorem va_D_fst {A : Nat → Prop} {ws ws' : va_W} (h : va_D A ws) (he : ws'.map (fun q => q.1) = ws.map (fun q => q.1)) : va_D A ws' := by
  have key : ∀ (i : Nat) (p : Nat × va_E), ws'[i]? = some p → ∃ p2 : Nat × va_E, ws[i]? = some p2 ∧ p2.1 = p.1 := fun i p hp => by
    have h1 : (ws'.map (fun q => q.1))[i]? = some p.1 := by rw [List.getElem?_map, hp]; rfl
    rw [he, List.getElem?_map] at h1
    cases e : ws[i]? with
    | none => rw [e] at h1; cases h1
    | some p2 => rw [e] at h1; exact ⟨p2, rfl, Option.some.inj h1⟩
  refine ⟨fun i j p q hi hj hpq => ?_, fun k q hk => ?_⟩
  · obtain ⟨p2, a1, a2⟩ := key i p hi
    obtain ⟨q2, b1, b2⟩ := key j q hj
    exact h.1 i j p2 q2 a1 b1 (by rw [a2, b2]; exact hpq)
  · obtain ⟨q2, b1, b2⟩ := key k q hk
    rw [← b2]
    exact h.2 k q2 b1
theorem vw_fst {bb : Bool} {cid : Nat → ClassId} {a : Nat → Nat} {M : Mem} {L : MemL} : (vw bb cid a M L).map (fun q => q.1) = (List.range (gnn bb)).map (fun j => a (glo bb + j)) := by
  unfold vw
  rw [List.map_map]
  rfl
section LAW3
variable {p : Program} {l : Launch} {e : Env} {s : State} {m : MethodId} {args : Array Value} {below : List Frame} {meth : Method} {c : Code} {Q : State → Prop}
variable {D : va_G} {cid : Nat → ClassId} {A : Nat → Prop} {a : Nat → Nat} {b Ln : Nat} {xs : Nat → Int32}
set_option maxHeartbeats 4000000 in
set_option maxRecDepth 100000 in
theorem lw_turn {i : Nat} {M M' : Mem} {L L' : MemL} {Z : Sg} {H : Heap} {locs : List Loc} {ls : Array Slot} (X : LC D cid A a b Ln xs p s m args meth c) (I : LI Z M L M') (d : Hw D cid A a s M L M' L' H locs) (hl : lv_has ls 4 (lvL i a b)) (hi : i + 5 ≤ Ln) (hb : Ln ≤ 2560)
    (kk : ∀ (Z : Sg) (M : Mem) (L : MemL) (M' : Mem) (L' : MemL) (H : Heap) (locs : List Loc) (ls : Array Slot), LI Z M L M' → Hw D cid A a s M L M' L' H locs → lv_has ls 4 (lvL (i + 5) a b) → W p l e room_1 s m args below meth c H locs 600000 7302250 Q (F0 m 18 ls [])) : W p l e room_1 s m args below meth c H locs 600000 7302250 Q (F0 m 26 ls []) := by
  have k1 : ∀ (Z : Sg) (M : Mem) (L : MemL) (M' : Mem) (L' : MemL) (H : Heap) (locs : List Loc), LI Z M L M' → Hw D cid A a s M L M' L' H locs → W p l e room_1 s m args below meth c H locs 600000 7302250 Q (F0 m 1380 ls []) := fun Z M L M' L' H locs I d => by
    refine lv_iinc (v := nI (i + 5)) (lv' := lvL (i + 5) a b) X.1.1 X.1.2.1 dL_law_1380 hl (k := 0) rfl (by rw [← q_ad]; rfl) (by decide) rfl (fun ls hl => ?_)
    exact lv_goto (tgt := 18) X.1.1 X.1.2.1 dL_law_1383 (by decide) (kk Z M L M' L' H locs ls I d hl)
  refine lv_aload_n X.1.1 X.1.2.1 dL_law_26 rfl (lv_at hl 3 rfl) ?_
  refine lv_iload_n X.1.1 X.1.2.1 dL_law_27 rfl (lv_at hl 0 rfl) ?_
  refine va_sld X.1.1 X.1.2.1 X.2.2.1 X.2.2.2.1 X.2.2.2.2 d.2 (inb_vp (q_ib (by omega) (by omega))) dL_law_28 ?_
  rw [q_cl (by omega)]
  refine lv_bipush (v := 63) X.1.1 X.1.2.1 dL_law_29 (by decide) ?_
  refine lv_iand X.1.1 X.1.2.1 dL_law_31 ?_
  generalize hx : (xs i &&& 63 : Int32) = x
  by_cases ho : x.toInt < 0 ∨ 37 < x.toInt
  · exact lv_tableOut (tgt := 1380) X.1.1 X.1.2.1 dL_law_32 ho (by decide) (k1 Z M L M' L' H locs I d)
  · have hk : ∃ n : Nat, n < 38 ∧ x.toInt = (n : Int) := ⟨x.toInt.toNat, by omega, by omega⟩
    obtain ⟨n, hn, en⟩ := hk
    have o1 : ¬ x.toInt < 0 := fun h => ho (Or.inl h)
    have o2 : ¬ (37 : Int) < x.toInt := fun h => ho (Or.inr h)
    have o3 : (x.toInt - 0).toNat = n := by omega
    rcases (show n = 0 ∨ n = 1 ∨ n = 2 ∨ n = 3 ∨ n = 4 ∨ n = 5 ∨ n = 6 ∨ n = 7 ∨ n = 8 ∨ n = 9 ∨ n = 10 ∨ n = 11 ∨ n = 12 ∨ n = 13 ∨ n = 14 ∨ n = 15 ∨ n = 16 ∨ n = 17 ∨ n = 18 ∨ n = 19 ∨ n = 20 ∨ n = 21 ∨ n = 22 ∨ n = 23 ∨ n = 24 ∨ n = 25 ∨ n = 26 ∨ n = 27 ∨ n = 28 ∨ n = 29 ∨ n = 30 ∨ n = 31 ∨ n = 32 ∨ n = 33 ∨ n = 34 ∨ n = 35 ∨ n = 36 ∨ n = 37 by omega) with rfl | rfl | rfl | rfl | rfl | rfl | rfl | rfl | rfl | rfl | rfl | rfl | rfl | rfl | rfl | rfl | rfl | rfl | rfl | rfl | rfl | rfl | rfl | rfl | rfl | rfl | rfl | rfl | rfl | rfl | rfl | rfl | rfl | rfl | rfl | rfl | rfl | rfl
    · exact lv_tableIn (tgt := 200) X.1.1 X.1.2.1 dL_law_32 o1 o2 (off := 168) (by rw [o3]; rfl) (by decide) (lc_0 X I d hl hi hb k1)
    · exact lv_tableIn (tgt := 223) X.1.1 X.1.2.1 dL_law_32 o1 o2 (off := 191) (by rw [o3]; rfl) (by decide) (lc_1 X I d hl hi hb k1)
    · exact lv_tableIn (tgt := 256) X.1.1 X.1.2.1 dL_law_32 o1 o2 (off := 224) (by rw [o3]; rfl) (by decide) (lc_2 X I d hl hi hb k1)
    · exact lv_tableIn (tgt := 289) X.1.1 X.1.2.1 dL_law_32 o1 o2 (off := 257) (by rw [o3]; rfl) (by decide) (lc_3 X I d hl hi hb k1)
    · exact lv_tableIn (tgt := 312) X.1.1 X.1.2.1 dL_law_32 o1 o2 (off := 280) (by rw [o3]; rfl) (by decide) (lc_4 X I d hl hi hb k1)
    · exact lv_tableIn (tgt := 335) X.1.1 X.1.2.1 dL_law_32 o1 o2 (off := 303) (by rw [o3]; rfl) (by decide) (lc_5 X I d hl hi hb k1)
    · exact lv_tableIn (tgt := 358) X.1.1 X.1.2.1 dL_law_32 o1 o2 (off := 326) (by rw [o3]; rfl) (by decide) (lc_6 X I d hl hi hb k1)
    · exact lv_tableIn (tgt := 381) X.1.1 X.1.2.1 dL_law_32 o1 o2 (off := 349) (by rw [o3]; rfl) (by decide) (lc_7 X I d hl hi hb k1)
    · exact lv_tableIn (tgt := 414) X.1.1 X.1.2.1 dL_law_32 o1 o2 (off := 382) (by rw [o3]; rfl) (by decide) (lc_8 X I d hl hi hb k1)
    · exact lv_tableIn (tgt := 437) X.1.1 X.1.2.1 dL_law_32 o1 o2 (off := 405) (by rw [o3]; rfl) (by decide) (lc_9 X I d hl hi hb k1)
    · exact lv_tableIn (tgt := 480) X.1.1 X.1.2.1 dL_law_32 o1 o2 (off := 448) (by rw [o3]; rfl) (by decide) (lc_10 X I d hl hi hb k1)
    · exact lv_tableIn (tgt := 503) X.1.1 X.1.2.1 dL_law_32 o1 o2 (off := 471) (by rw [o3]; rfl) (by decide) (lc_11 X I d hl hi hb k1)
    · exact lv_tableIn (tgt := 526) X.1.1 X.1.2.1 dL_law_32 o1 o2 (off := 494) (by rw [o3]; rfl) (by decide) (lc_12 X I d hl hi hb k1)
    · exact lv_tableIn (tgt := 589) X.1.1 X.1.2.1 dL_law_32 o1 o2 (off := 557) (by rw [o3]; rfl) (by decide) (lc_13 X I d hl hi hb k1)
    · exact lv_tableIn (tgt := 602) X.1.1 X.1.2.1 dL_law_32 o1 o2 (off := 570) (by rw [o3]; rfl) (by decide) (lc_14 X I d hl hi hb k1)
    · exact lv_tableIn (tgt := 615) X.1.1 X.1.2.1 dL_law_32 o1 o2 (off := 583) (by rw [o3]; rfl) (by decide) (lc_15 X I d hl hi hb k1)
    · exact lv_tableIn (tgt := 648) X.1.1 X.1.2.1 dL_law_32 o1 o2 (off := 616) (by rw [o3]; rfl) (by decide) (lc_16 X I d hl hi hb k1)
    · exact lv_tableIn (tgt := 681) X.1.1 X.1.2.1 dL_law_32 o1 o2 (off := 649) (by rw [o3]; rfl) (by decide) (lc_17 X I d hl hi hb k1)
    · exact lv_tableIn (tgt := 740) X.1.1 X.1.2.1 dL_law_32 o1 o2 (off := 708) (by rw [o3]; rfl) (by decide) (lc_18 X I d hl hi hb k1)
    · exact lv_tableIn (tgt := 763) X.1.1 X.1.2.1 dL_law_32 o1 o2 (off := 731) (by rw [o3]; rfl) (by decide) (lc_19 X I d hl hi hb k1)
    · exact lv_tableIn (tgt := 796) X.1.1 X.1.2.1 dL_law_32 o1 o2 (off := 764) (by rw [o3]; rfl) (by decide) (lc_20 X I d hl hi hb k1)
    · exact lv_tableIn (tgt := 819) X.1.1 X.1.2.1 dL_law_32 o1 o2 (off := 787) (by rw [o3]; rfl) (by decide) (lc_21 X I d hl hi hb k1)
    · exact lv_tableIn (tgt := 852) X.1.1 X.1.2.1 dL_law_32 o1 o2 (off := 820) (by rw [o3]; rfl) (by decide) (lc_22 X I d hl hi hb k1)
    · exact lv_tableIn (tgt := 885) X.1.1 X.1.2.1 dL_law_32 o1 o2 (off := 853) (by rw [o3]; rfl) (by decide) (lc_23 X I d hl hi hb k1)
    · exact lv_tableIn (tgt := 918) X.1.1 X.1.2.1 dL_law_32 o1 o2 (off := 886) (by rw [o3]; rfl) (by decide) (lc_24 X I d hl hi hb k1)
    · exact lv_tableIn (tgt := 941) X.1.1 X.1.2.1 dL_law_32 o1 o2 (off := 909) (by rw [o3]; rfl) (by decide) (lc_25 X I d hl hi hb k1)
    · exact lv_tableIn (tgt := 974) X.1.1 X.1.2.1 dL_law_32 o1 o2 (off := 942) (by rw [o3]; rfl) (by decide) (lc_26 X I d hl hi hb k1)
    · exact lv_tableIn (tgt := 1017) X.1.1 X.1.2.1 dL_law_32 o1 o2 (off := 985) (by rw [o3]; rfl) (by decide) (lc_27 X I d hl hi hb k1)
    · exact lv_tableIn (tgt := 1050) X.1.1 X.1.2.1 dL_law_32 o1 o2 (off := 1018) (by rw [o3]; rfl) (by decide) (lc_28 X I d hl hi hb k1)
    · exact lv_tableIn (tgt := 1083) X.1.1 X.1.2.1 dL_law_32 o1 o2 (off := 1051) (by rw [o3]; rfl) (by decide) (lc_29 X I d hl hi hb k1)
    · exact lv_tableIn (tgt := 1116) X.1.1 X.1.2.1 dL_law_32 o1 o2 (off := 1084) (by rw [o3]; rfl) (by decide) (lc_30 X I d hl hi hb k1)
    · exact lv_tableIn (tgt := 1139) X.1.1 X.1.2.1 dL_law_32 o1 o2 (off := 1107) (by rw [o3]; rfl) (by decide) (lc_31 X I d hl hi hb k1)
    · exact lv_tableIn (tgt := 1152) X.1.1 X.1.2.1 dL_law_32 o1 o2 (off := 1120) (by rw [o3]; rfl) (by decide) (lc_32 X I d hl hi hb k1)
    · exact lv_tableIn (tgt := 1165) X.1.1 X.1.2.1 dL_law_32 o1 o2 (off := 1133) (by rw [o3]; rfl) (by decide) (lc_33 X I d hl hi hb k1)
    · exact lv_tableIn (tgt := 1218) X.1.1 X.1.2.1 dL_law_32 o1 o2 (off := 1186) (by rw [o3]; rfl) (by decide) (lc_34 X I d hl hi hb k1)
    · exact lv_tableIn (tgt := 1261) X.1.1 X.1.2.1 dL_law_32 o1 o2 (off := 1229) (by rw [o3]; rfl) (by decide) (lc_35 X I d hl hi hb k1)
    · exact lv_tableIn (tgt := 1284) X.1.1 X.1.2.1 dL_law_32 o1 o2 (off := 1252) (by rw [o3]; rfl) (by decide) (lc_36 X I d hl hi hb k1)
    · exact lv_tableIn (tgt := 1337) X.1.1 X.1.2.1 dL_law_32 o1 o2 (off := 1305) (by rw [o3]; rfl) (by decide) (lc_37 X I d hl hi hb k1)
set_option maxHeartbeats 4000000 in
set_option maxRecDepth 100000 in
theorem lw_loop (X : LC D cid A a b Ln xs p s m args meth c) (hb : Ln ≤ 2560) (kx : ∀ (H : Heap) (locs : List Loc) (ls : Array Slot), va_S A s.heap H locs → W p l e room_1 s m args below meth c H locs 600000 7302250 Q (F0 m 1386 ls [])) : ∀ (n i : Nat) (Z : Sg) (M : Mem) (L : MemL) (M' : Mem) (L' : MemL) (H : Heap) (locs : List Loc) (ls : Array Slot), i ≤ Ln → Ln ≤ i + n → LI Z M L M' → Hw D cid A a s M L M' L' H locs → lv_has ls 4 (lvL i a b) → W p l e room_1 s m args below meth c H locs 600000 7302250 Q (F0 m 18 ls []) := by
  intro n
  induction n with
  | zero =>
    intro i Z M L M' L' H locs ls hi hn I d hl
    refine lv_iload_n X.1.1 X.1.2.1 dL_law_18 rfl (lv_at hl 0 rfl) ?_
    refine lv_aload_n X.1.1 X.1.2.1 dL_law_19 rfl (lv_at hl 3 rfl) ?_
    refine va_slen X.1.1 X.1.2.1 X.2.2.1 X.2.2.2.1 X.2.2.2.2 d.2 dL_law_20 ?_
    refine lv_iconst (v := 5) X.1.1 X.1.2.1 dL_law_21 (by decide) ?_
    refine lv_isub X.1.1 X.1.2.1 dL_law_22 ?_
    exact lv_icmp_gt (tgt := 1386) X.1.1 X.1.2.1 dL_law_23 (by decide) (fun _ => kx H locs ls d.2) (fun h => absurd (lw_bound hi hb h) (by omega))
  | succ n ih =>
    intro i Z M L M' L' H locs ls hi hn I d hl
    refine lv_iload_n X.1.1 X.1.2.1 dL_law_18 rfl (lv_at hl 0 rfl) ?_
    refine lv_aload_n X.1.1 X.1.2.1 dL_law_19 rfl (lv_at hl 3 rfl) ?_
    refine va_slen X.1.1 X.1.2.1 X.2.2.1 X.2.2.2.1 X.2.2.2.2 d.2 dL_law_20 ?_
    refine lv_iconst (v := 5) X.1.1 X.1.2.1 dL_law_21 (by decide) ?_
    refine lv_isub X.1.1 X.1.2.1 dL_law_22 ?_
    refine lv_icmp_gt (tgt := 1386) X.1.1 X.1.2.1 dL_law_23 (by decide) (fun _ => kx H locs ls d.2) (fun h => ?_)
    have h5 := lw_bound hi hb h
    exact lw_turn X I d hl h5 hb (fun Z M L M' L' H locs ls I d hl => ih (i + 5) Z M L M' L' H locs ls h5 (by omega) I d hl)
end LAW3
