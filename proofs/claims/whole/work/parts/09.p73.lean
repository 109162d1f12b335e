section LAW2
variable {p : Program} {l : Launch} {e : Env} {s : State} {m : MethodId} {args : Array Value} {below : List Frame} {meth : Method} {c : Code} {H : Heap} {locs : List Loc} {Q : State → Prop}
variable {ls : Array Slot} {D : va_G} {cid : Nat → ClassId} {A : Nat → Prop} {a : Nat → Nat} {b Ln i : Nat} {xs : Nat → Int32} {M M' : Mem} {L L' : MemL} {Z : Sg}
set_option maxRecDepth 100000 in
theorem lc_13 (X : LC D cid A a b Ln xs p s m args meth c) (I : LI Z M L M') (d : Hw D cid A a s M L M' L' H locs) (hl : lv_has ls 4 (lvL i a b)) (hi : i + 5 ≤ Ln) (hb : Ln ≤ 2560) (kk : ∀ (Z : Sg) (M : Mem) (L : MemL) (M' : Mem) (L' : MemL) (H : Heap) (locs : List Loc), LI Z M L M' → Hw D cid A a s M L M' L' H locs → W p l e room_1 s m args below meth c H locs 600000 7302250 Q (F0 m 1380 ls [])) : W p l e room_1 s m args below meth c H locs 600000 7302250 Q (F0 m 589 ls []) := by
  obtain ⟨hC, hg, hM⟩ := I
  refine lv_aload_n X.1.1 X.1.2.1 dL_law_589 rfl (lv_at hl 2 rfl) ?_
  obtain ⟨M1, eX7, rX7⟩ := X7_strips_ (fu := 40000) (by decide) (by decide +kernel) (by decide +kernel) hC
  refine lw_c7 (As := []) X d hl (c_X7_strips l (G7 D cid A a M' L') M L 40000 0  (by decide +kernel) eX7) ml_RL_71 im_yX7_strips se_yX7_strips co_yX7_strips hyV_X7_strips ⟨rfl, rfl⟩ ⟨by decide, by decide⟩ rfl rfl dL_law_590 (fun H locs d => ?_)
  refine lv_aload_n X.1.1 X.1.2.1 dL_law_593 rfl (lv_at hl 1 rfl) ?_
  obtain ⟨M2, eX8, rX8⟩ := X8_strips_ (fu := 40000) (by decide) hM
  refine lw_c8 (As := []) X d hl (c_X8_strips l (G8 D cid A a M1 L) M' L' 40000 179  (by decide +kernel) eX8) ml_RL_75 im_yX8_strips se_yX8_strips co_yX8_strips hyV_X8_strips ⟨rfl, rfl⟩ ⟨by decide, by decide⟩ rfl rfl dL_law_594 (fun H locs d => ?_)
  exact lv_icmp_eq (tgt := 1380) X.1.1 X.1.2.1 dL_law_597 (by decide) (fun _ => kk _ _ _ _ _ _ _ ⟨rX7, hg, rX8⟩ d) (fun hq => absurd rfl hq)
set_option maxRecDepth 100000 in
theorem lc_14 (X : LC D cid A a b Ln xs p s m args meth c) (I : LI Z M L M') (d : Hw D cid A a s M L M' L' H locs) (hl : lv_has ls 4 (lvL i a b)) (hi : i + 5 ≤ Ln) (hb : Ln ≤ 2560) (kk : ∀ (Z : Sg) (M : Mem) (L : MemL) (M' : Mem) (L' : MemL) (H : Heap) (locs : List Loc), LI Z M L M' → Hw D cid A a s M L M' L' H locs → W p l e room_1 s m args below meth c H locs 600000 7302250 Q (F0 m 1380 ls [])) : W p l e room_1 s m args below meth c H locs 600000 7302250 Q (F0 m 602 ls []) := by
  obtain ⟨hC, hg, hM⟩ := I
  refine lv_aload_n X.1.1 X.1.2.1 dL_law_602 rfl (lv_at hl 2 rfl) ?_
  obtain ⟨M1, eX7, rX7⟩ := X7_words_ (fu := 40000) (by decide) hC
  refine lw_c7 (As := []) X d hl (c_X7_words l (G7 D cid A a M' L') M L 40000 0  (by decide +kernel) eX7) ml_RL_76 im_yX7_words se_yX7_words co_yX7_words hyV_X7_words ⟨rfl, rfl⟩ ⟨by decide, by decide⟩ rfl rfl dL_law_603 (fun H locs d => ?_)
  refine lv_aload_n X.1.1 X.1.2.1 dL_law_606 rfl (lv_at hl 1 rfl) ?_
  obtain ⟨M2, eX8, rX8⟩ := X8_words_ (fu := 40000) (by decide) hM
  refine lw_c8 (As := []) X d hl (c_X8_words l (G8 D cid A a M1 L) M' L' 40000 179  (by decide +kernel) eX8) ml_RL_79 im_yX8_words se_yX8_words co_yX8_words hyV_X8_words ⟨rfl, rfl⟩ ⟨by decide, by decide⟩ rfl rfl dL_law_607 (fun H locs d => ?_)
  exact lv_icmp_eq (tgt := 1380) X.1.1 X.1.2.1 dL_law_610 (by decide) (fun _ => kk _ _ _ _ _ _ _ ⟨rX7, hg, rX8⟩ d) (fun hq => absurd rfl hq)
set_option maxRecDepth 100000 in
theorem lc_15 (X : LC D cid A a b Ln xs p s m args meth c) (I : LI Z M L M') (d : Hw D cid A a s M L M' L' H locs) (hl : lv_has ls 4 (lvL i a b)) (hi : i + 5 ≤ Ln) (hb : Ln ≤ 2560) (kk : ∀ (Z : Sg) (M : Mem) (L : MemL) (M' : Mem) (L' : MemL) (H : Heap) (locs : List Loc), LI Z M L M' → Hw D cid A a s M L M' L' H locs → W p l e room_1 s m args below meth c H locs 600000 7302250 Q (F0 m 1380 ls [])) : W p l e room_1 s m args below meth c H locs 600000 7302250 Q (F0 m 615 ls []) := by
  obtain ⟨hC, hg, hM⟩ := I
  refine lv_aload_n X.1.1 X.1.2.1 dL_law_615 rfl (lv_at hl 2 rfl) ?_
  refine lw_arg (k := 1) X d hl hi hb (by decide) (by decide) dL_law_616 dL_law_617 dL_law_618 dL_law_619 dL_law_620 ?_
  refine lw_arg (k := 2) X d hl hi hb (by decide) (by decide) dL_law_621 dL_law_622 dL_law_623 dL_law_624 dL_law_625 ?_
  refine lw_c7 (As := [.int (xs (i + 1)), .int (xs (i + 2))]) X d hl (c_X7_told l (G7 D cid A a M' L') M L 0 (xs (i + 1)) (xs (i + 2)) (by decide +kernel) (X7_told_ hC (xs (i + 1)) (xs (i + 2)))) ml_RL_80 im_yX7_told se_yX7_told co_yX7_told hyV_X7_told ⟨rfl, rfl⟩ ⟨by decide, by decide⟩ rfl rfl dL_law_626 (fun H locs d => ?_)
  refine lv_aload_n X.1.1 X.1.2.1 dL_law_629 rfl (lv_at hl 1 rfl) ?_
  refine lw_arg (k := 1) X d hl hi hb (by decide) (by decide) dL_law_630 dL_law_631 dL_law_632 dL_law_633 dL_law_634 ?_
  refine lw_arg (k := 2) X d hl hi hb (by decide) (by decide) dL_law_635 dL_law_636 dL_law_637 dL_law_638 dL_law_639 ?_
  refine lw_c8 (As := [.int (xs (i + 1)), .int (xs (i + 2))]) X d hl (c_X8_told l (G8 D cid A a M L) M' L' 179 (xs (i + 1)) (xs (i + 2)) (by decide +kernel) (X8_told_ hM (xs (i + 1)) (xs (i + 2)))) ml_RL_83 im_yX8_told se_yX8_told co_yX8_told hyV_X8_told ⟨rfl, rfl⟩ ⟨by decide, by decide⟩ rfl rfl dL_law_640 (fun H locs d => ?_)
  exact lv_icmp_eq (tgt := 1380) X.1.1 X.1.2.1 dL_law_643 (by decide) (fun _ => kk _ _ _ _ _ _ _ ⟨hC, hg, hM⟩ d) (fun hq => absurd rfl hq)
set_option maxRecDepth 100000 in
theorem lc_16 (X : LC D cid A a b Ln xs p s m args meth c) (I : LI Z M L M') (d : Hw D cid A a s M L M' L' H locs) (hl : lv_has ls 4 (lvL i a b)) (hi : i + 5 ≤ Ln) (hb : Ln ≤ 2560) (kk : ∀ (Z : Sg) (M : Mem) (L : MemL) (M' : Mem) (L' : MemL) (H : Heap) (locs : List Loc), LI Z M L M' → Hw D cid A a s M L M' L' H locs → W p l e room_1 s m args below meth c H locs 600000 7302250 Q (F0 m 1380 ls [])) : W p l e room_1 s m args below meth c H locs 600000 7302250 Q (F0 m 648 ls []) := by
  obtain ⟨hC, hg, hM⟩ := I
  refine lv_aload_n X.1.1 X.1.2.1 dL_law_648 rfl (lv_at hl 2 rfl) ?_
  refine lw_arg (k := 1) X d hl hi hb (by decide) (by decide) dL_law_649 dL_law_650 dL_law_651 dL_law_652 dL_law_653 ?_
  refine lw_arg (k := 2) X d hl hi hb (by decide) (by decide) dL_law_654 dL_law_655 dL_law_656 dL_law_657 dL_law_658 ?_
  obtain ⟨M1, eX7, rX7⟩ := X7_pay_ hC (xs (i + 1)) (xs (i + 2))
  refine lw_c7 (As := [.int (xs (i + 1)), .int (xs (i + 2))]) X d hl (c_X7_pay l (G7 D cid A a M' L') M L 0 (xs (i + 1)) (xs (i + 2)) (by decide +kernel) eX7) ml_RL_84 im_yX7_pay se_yX7_pay co_yX7_pay hyV_X7_pay ⟨rfl, rfl⟩ ⟨by decide, by decide⟩ rfl rfl dL_law_659 (fun H locs d => ?_)
  refine lv_aload_n X.1.1 X.1.2.1 dL_law_662 rfl (lv_at hl 1 rfl) ?_
  refine lw_arg (k := 1) X d hl hi hb (by decide) (by decide) dL_law_663 dL_law_664 dL_law_665 dL_law_666 dL_law_667 ?_
  refine lw_arg (k := 2) X d hl hi hb (by decide) (by decide) dL_law_668 dL_law_669 dL_law_670 dL_law_671 dL_law_672 ?_
  obtain ⟨M2, eX8, rX8⟩ := X8_pay_ hM (xs (i + 1)) (xs (i + 2))
  refine lw_c8 (As := [.int (xs (i + 1)), .int (xs (i + 2))]) X d hl (c_X8_pay l (G8 D cid A a M1 L) M' L' 179 (xs (i + 1)) (xs (i + 2)) (by decide +kernel) eX8) ml_RL_87 im_yX8_pay se_yX8_pay co_yX8_pay hyV_X8_pay ⟨rfl, rfl⟩ ⟨by decide, by decide⟩ rfl rfl dL_law_673 (fun H locs d => ?_)
  exact lv_icmp_eq (tgt := 1380) X.1.1 X.1.2.1 dL_law_676 (by decide) (fun _ => kk _ _ _ _ _ _ _ ⟨rX7, hg, rX8⟩ d) (fun hq => absurd rfl hq)
set_option maxRecDepth 100000 in
theorem lc_17 (X : LC D cid A a b Ln xs p s m args meth c) (I : LI Z M L M') (d : Hw D cid A a s M L M' L' H locs) (hl : lv_has ls 4 (lvL i a b)) (hi : i + 5 ≤ Ln) (hb : Ln ≤ 2560) (kk : ∀ (Z : Sg) (M : Mem) (L : MemL) (M' : Mem) (L' : MemL) (H : Heap) (locs : List Loc), LI Z M L M' → Hw D cid A a s M L M' L' H locs → W p l e room_1 s m args below meth c H locs 600000 7302250 Q (F0 m 1380 ls [])) : W p l e room_1 s m args below meth c H locs 600000 7302250 Q (F0 m 681 ls []) := by
  obtain ⟨hC, hg, hM⟩ := I
  refine lv_aload_n X.1.1 X.1.2.1 dL_law_681 rfl (lv_at hl 2 rfl) ?_
  refine lw_arg (k := 1) X d hl hi hb (by decide) (by decide) dL_law_682 dL_law_683 dL_law_684 dL_law_685 dL_law_686 ?_
  refine lw_arg (k := 2) X d hl hi hb (by decide) (by decide) dL_law_687 dL_law_688 dL_law_689 dL_law_690 dL_law_691 ?_
  refine lw_arg (k := 3) X d hl hi hb (by decide) (by decide) dL_law_692 dL_law_693 dL_law_694 dL_law_695 dL_law_696 ?_
  refine lw_flag (tgt := 704) (aft := 705) X dL_law_697 (by decide) dL_law_700 dL_law_701 (by decide) dL_law_704 rfl ?_
  obtain ⟨M1, eX7, rX7⟩ := X7_feud_ hC (xs (i + 1)) (xs (i + 2)) (if xs (i + 3) = 0 then 0 else 1)
  refine lw_c7 (As := [.int (xs (i + 1)), .int (xs (i + 2)), .int (if xs (i + 3) = 0 then 0 else 1)]) X d hl (c_X7_feud l (G7 D cid A a M' L') M L 0 (xs (i + 1)) (xs (i + 2)) (if xs (i + 3) = 0 then 0 else 1) (by decide +kernel) eX7) ml_RL_88 im_yX7_feud se_yX7_feud co_yX7_feud hyV_X7_feud ⟨rfl, rfl⟩ ⟨by decide, by decide⟩ rfl rfl dL_law_705 (fun H locs d => ?_)
  refine lv_aload_n X.1.1 X.1.2.1 dL_law_708 rfl (lv_at hl 1 rfl) ?_
  refine lw_arg (k := 1) X d hl hi hb (by decide) (by decide) dL_law_709 dL_law_710 dL_law_711 dL_law_712 dL_law_713 ?_
  refine lw_arg (k := 2) X d hl hi hb (by decide) (by decide) dL_law_714 dL_law_715 dL_law_716 dL_law_717 dL_law_718 ?_
  refine lw_arg (k := 3) X d hl hi hb (by decide) (by decide) dL_law_719 dL_law_720 dL_law_721 dL_law_722 dL_law_723 ?_
  refine lw_flag (tgt := 731) (aft := 732) X dL_law_724 (by decide) dL_law_727 dL_law_728 (by decide) dL_law_731 rfl ?_
  obtain ⟨M2, eX8, rX8⟩ := X8_feud_ hM (xs (i + 1)) (xs (i + 2)) (if xs (i + 3) = 0 then 0 else 1)
  refine lw_c8 (As := [.int (xs (i + 1)), .int (xs (i + 2)), .int (if xs (i + 3) = 0 then 0 else 1)]) X d hl (c_X8_feud l (G8 D cid A a M1 L) M' L' 179 (xs (i + 1)) (xs (i + 2)) (if xs (i + 3) = 0 then 0 else 1) (by decide +kernel) eX8) ml_RL_92 im_yX8_feud se_yX8_feud co_yX8_feud hyV_X8_feud ⟨rfl, rfl⟩ ⟨by decide, by decide⟩ rfl rfl dL_law_732 (fun H locs d => ?_)
  exact lv_icmp_eq (tgt := 1380) X.1.1 X.1.2.1 dL_law_735 (by decide) (fun _ => kk _ _ _ _ _ _ _ ⟨rX7, hg, rX8⟩ d) (fun hq => absurd rfl hq)
set_option maxRecDepth 100000 in
theorem lc_18 (X : LC D cid A a b Ln xs p s m args meth c) (I : LI Z M L M') (d : Hw D cid A a s M L M' L' H locs) (hl : lv_has ls 4 (lvL i a b)) (hi : i + 5 ≤ Ln) (hb : Ln ≤ 2560) (kk : ∀ (Z : Sg) (M : Mem) (L : MemL) (M' : Mem) (L' : MemL) (H : Heap) (locs : List Loc), LI Z M L M' → Hw D cid A a s M L M' L' H locs → W p l e room_1 s m args below meth c H locs 600000 7302250 Q (F0 m 1380 ls [])) : W p l e room_1 s m args below meth c H locs 600000 7302250 Q (F0 m 740 ls []) := by
  obtain ⟨hC, hg, hM⟩ := I
  refine lv_aload_n X.1.1 X.1.2.1 dL_law_740 rfl (lv_at hl 2 rfl) ?_
  refine lw_arg (k := 1) X d hl hi hb (by decide) (by decide) dL_law_741 dL_law_742 dL_law_743 dL_law_744 dL_law_745 ?_
  refine lw_c7 (As := [.int (xs (i + 1))]) X d hl (c_X7_count l (G7 D cid A a M' L') M L 40000 0 (xs (i + 1)) (by decide +kernel) (X7_count_ (fu := 40000) (by decide) hC (xs (i + 1)))) ml_RL_93 im_yX7_count se_yX7_count co_yX7_count hyV_X7_count ⟨rfl, rfl⟩ ⟨by decide, by decide⟩ rfl rfl dL_law_746 (fun H locs d => ?_)
  refine lv_aload_n X.1.1 X.1.2.1 dL_law_749 rfl (lv_at hl 1 rfl) ?_
  refine lw_arg (k := 1) X d hl hi hb (by decide) (by decide) dL_law_750 dL_law_751 dL_law_752 dL_law_753 dL_law_754 ?_
  refine lw_c8 (As := [.int (xs (i + 1))]) X d hl (c_X8_count l (G8 D cid A a M L) M' L' 40000 179 (xs (i + 1)) (by decide +kernel) (X8_count_ (fu := 40000) (by decide) hM (xs (i + 1)))) ml_RL_96 im_yX8_count se_yX8_count co_yX8_count hyV_X8_count ⟨rfl, rfl⟩ ⟨by decide, by decide⟩ rfl rfl dL_law_755 (fun H locs d => ?_)
  exact lv_icmp_eq (tgt := 1380) X.1.1 X.1.2.1 dL_law_758 (by decide) (fun _ => kk _ _ _ _ _ _ _ ⟨hC, hg, hM⟩ d) (fun hq => absurd rfl hq)
set_option maxRecDepth 100000 in
theorem lc_19 (X : LC D cid A a b Ln xs p s m args meth c) (I : LI Z M L M') (d : Hw D cid A a s M L M' L' H locs) (hl : lv_has ls 4 (lvL i a b)) (hi : i + 5 ≤ Ln) (hb : Ln ≤ 2560) (kk : ∀ (Z : Sg) (M : Mem) (L : MemL) (M' : Mem) (L' : MemL) (H : Heap) (locs : List Loc), LI Z M L M' → Hw D cid A a s M L M' L' H locs → W p l e room_1 s m args below meth c H locs 600000 7302250 Q (F0 m 1380 ls [])) : W p l e room_1 s m args below meth c H locs 600000 7302250 Q (F0 m 763 ls []) := by
  obtain ⟨hC, hg, hM⟩ := I
  refine lv_aload_n X.1.1 X.1.2.1 dL_law_763 rfl (lv_at hl 2 rfl) ?_
  refine lw_arg (k := 1) X d hl hi hb (by decide) (by decide) dL_law_764 dL_law_765 dL_law_766 dL_law_767 dL_law_768 ?_
  refine lw_arg (k := 2) X d hl hi hb (by decide) (by decide) dL_law_769 dL_law_770 dL_law_771 dL_law_772 dL_law_773 ?_
  refine lw_c7 (As := [.int (xs (i + 1)), .int (xs (i + 2))]) X d hl (c_X7_written l (G7 D cid A a M' L') M L 40000 0 (xs (i + 1)) (xs (i + 2)) (by decide +kernel) (X7_written_ (fu := 40000) (by decide) hC (xs (i + 1)) (xs (i + 2)))) ml_RL_97 im_yX7_written se_yX7_written co_yX7_written hyV_X7_written ⟨rfl, rfl⟩ ⟨by decide, by decide⟩ rfl rfl dL_law_774 (fun H locs d => ?_)
  refine lv_aload_n X.1.1 X.1.2.1 dL_law_777 rfl (lv_at hl 1 rfl) ?_
  refine lw_arg (k := 1) X d hl hi hb (by decide) (by decide) dL_law_778 dL_law_779 dL_law_780 dL_law_781 dL_law_782 ?_
  refine lw_arg (k := 2) X d hl hi hb (by decide) (by decide) dL_law_783 dL_law_784 dL_law_785 dL_law_786 dL_law_787 ?_
  refine lw_c8 (As := [.int (xs (i + 1)), .int (xs (i + 2))]) X d hl (c_X8_written l (G8 D cid A a M L) M' L' 40000 179 (xs (i + 1)) (xs (i + 2)) (by decide +kernel) (X8_written_ (fu := 40000) (by decide) hM (xs (i + 1)) (xs (i + 2)))) ml_RL_100 im_yX8_written se_yX8_written co_yX8_written hyV_X8_written ⟨rfl, rfl⟩ ⟨by decide, by decide⟩ rfl rfl dL_law_788 (fun H locs d => ?_)
  exact lv_icmp_eq (tgt := 1380) X.1.1 X.1.2.1 dL_law_791 (by decide) (fun _ => kk _ _ _ _ _ _ _ ⟨hC, hg, hM⟩ d) (fun hq => absurd rfl hq)
set_option maxRecDepth 100000 in
theorem lc_20 (X : LC D cid A a b Ln xs p s m args meth c) (I : LI Z M L M') (d : Hw D cid A a s M L M' L' H locs) (hl : lv_has ls 4 (lvL i a b)) (hi : i + 5 ≤ Ln) (hb : Ln ≤ 2560) (kk : ∀ (Z : Sg) (M : Mem) (L : MemL) (M' : Mem) (L' : MemL) (H : Heap) (locs : List Loc), LI Z M L M' → Hw D cid A a s M L M' L' H locs → W p l e room_1 s m args below meth c H locs 600000 7302250 Q (F0 m 1380 ls [])) : W p l e room_1 s m args below meth c H locs 600000 7302250 Q (F0 m 796 ls []) := by
  obtain ⟨hC, hg, hM⟩ := I
  refine lv_aload_n X.1.1 X.1.2.1 dL_law_796 rfl (lv_at hl 2 rfl) ?_
  refine lw_arg (k := 1) X d hl hi hb (by decide) (by decide) dL_law_797 dL_law_798 dL_law_799 dL_law_800 dL_law_801 ?_
  obtain ⟨M1, eX7, rX7⟩ := X7_read_ (fu := 40000) (by decide) hC (xs (i + 1))
  refine lw_c7 (As := [.int (xs (i + 1))]) X d hl (c_X7_read l (G7 D cid A a M' L') M L 40000 0 (xs (i + 1)) (by decide +kernel) eX7) ml_RL_101 im_yX7_read se_yX7_read co_yX7_read hyV_X7_read ⟨rfl, rfl⟩ ⟨by decide, by decide⟩ rfl rfl dL_law_802 (fun H locs d => ?_)
  refine lv_aload_n X.1.1 X.1.2.1 dL_law_805 rfl (lv_at hl 1 rfl) ?_
  refine lw_arg (k := 1) X d hl hi hb (by decide) (by decide) dL_law_806 dL_law_807 dL_law_808 dL_law_809 dL_law_810 ?_
  obtain ⟨M2, eX8, rX8⟩ := X8_read_ (fu := 40000) (by decide) hM (xs (i + 1))
  refine lw_c8 (As := [.int (xs (i + 1))]) X d hl (c_X8_read l (G8 D cid A a M1 L) M' L' 40000 179 (xs (i + 1)) (by decide +kernel) eX8) ml_RL_104 im_yX8_read se_yX8_read co_yX8_read hyV_X8_read ⟨rfl, rfl⟩ ⟨by decide, by decide⟩ rfl rfl dL_law_811 (fun H locs d => ?_)
  exact lv_icmp_eq (tgt := 1380) X.1.1 X.1.2.1 dL_law_814 (by decide) (fun _ => kk _ _ _ _ _ _ _ ⟨rX7, hg, rX8⟩ d) (fun hq => absurd rfl hq)
set_option maxRecDepth 100000 in
theorem lc_21 (X : LC D cid A a b Ln xs p s m args meth c) (I : LI Z M L M') (d : Hw D cid A a s M L M' L' H locs) (hl : lv_has ls 4 (lvL i a b)) (hi : i + 5 ≤ Ln) (hb : Ln ≤ 2560) (kk : ∀ (Z : Sg) (M : Mem) (L : MemL) (M' : Mem) (L' : MemL) (H : Heap) (locs : List Loc), LI Z M L M' → Hw D cid A a s M L M' L' H locs → W p l e room_1 s m args below meth c H locs 600000 7302250 Q (F0 m 1380 ls [])) : W p l e room_1 s m args below meth c H locs 600000 7302250 Q (F0 m 819 ls []) := by
  obtain ⟨hC, hg, hM⟩ := I
  refine lv_aload_n X.1.1 X.1.2.1 dL_law_819 rfl (lv_at hl 2 rfl) ?_
  refine lw_arg (k := 1) X d hl hi hb (by decide) (by decide) dL_law_820 dL_law_821 dL_law_822 dL_law_823 dL_law_824 ?_
  refine lw_arg (k := 2) X d hl hi hb (by decide) (by decide) dL_law_825 dL_law_826 dL_law_827 dL_law_828 dL_law_829 ?_
  refine lw_c7 (As := [.int (xs (i + 1)), .int (xs (i + 2))]) X d hl (c_X7_nearest l (G7 D cid A a M' L') M L 40000 0 (xs (i + 1)) (xs (i + 2)) (by decide +kernel) (X7_nearest_ (fu := 40000) (by decide) hC (xs (i + 1)) (xs (i + 2)))) ml_RL_105 im_yX7_nearest se_yX7_nearest co_yX7_nearest hyV_X7_nearest ⟨rfl, rfl⟩ ⟨by decide, by decide⟩ rfl rfl dL_law_830 (fun H locs d => ?_)
  refine lv_aload_n X.1.1 X.1.2.1 dL_law_833 rfl (lv_at hl 1 rfl) ?_
  refine lw_arg (k := 1) X d hl hi hb (by decide) (by decide) dL_law_834 dL_law_835 dL_law_836 dL_law_837 dL_law_838 ?_
  refine lw_arg (k := 2) X d hl hi hb (by decide) (by decide) dL_law_839 dL_law_840 dL_law_841 dL_law_842 dL_law_843 ?_
  refine lw_c8 (As := [.int (xs (i + 1)), .int (xs (i + 2))]) X d hl (c_X8_nearest l (G8 D cid A a M L) M' L' 40000 179 (xs (i + 1)) (xs (i + 2)) (by decide +kernel) (X8_nearest_ (fu := 40000) (by decide) hM (xs (i + 1)) (xs (i + 2)))) ml_RL_108 im_yX8_nearest se_yX8_nearest co_yX8_nearest hyV_X8_nearest ⟨rfl, rfl⟩ ⟨by decide, by decide⟩ rfl rfl dL_law_844 (fun H locs d => ?_)
  exact lv_icmp_eq (tgt := 1380) X.1.1 X.1.2.1 dL_law_847 (by decide) (fun _ => kk _ _ _ _ _ _ _ ⟨hC, hg, hM⟩ d) (fun hq => absurd rfl hq)
set_option maxRecDepth 100000 in
theorem lc_22 (X : LC D cid A a b Ln xs p s m args meth c) (I : LI Z M L M') (d : Hw D cid A a s M L M' L' H locs) (hl : lv_has ls 4 (lvL i a b)) (hi : i + 5 ≤ Ln) (hb : Ln ≤ 2560) (kk : ∀ (Z : Sg) (M : Mem) (L : MemL) (M' : Mem) (L' : MemL) (H : Heap) (locs : List Loc), LI Z M L M' → Hw D cid A a s M L M' L' H locs → W p l e room_1 s m args below meth c H locs 600000 7302250 Q (F0 m 1380 ls [])) : W p l e room_1 s m args below meth c H locs 600000 7302250 Q (F0 m 852 ls []) := by
  obtain ⟨hC, hg, hM⟩ := I
  refine lv_aload_n X.1.1 X.1.2.1 dL_law_852 rfl (lv_at hl 2 rfl) ?_
  refine lw_arg (k := 1) X d hl hi hb (by decide) (by decide) dL_law_853 dL_law_854 dL_law_855 dL_law_856 dL_law_857 ?_
  refine lw_arg (k := 2) X d hl hi hb (by decide) (by decide) dL_law_858 dL_law_859 dL_law_860 dL_law_861 dL_law_862 ?_
  refine lw_c7 (As := [.int (xs (i + 1)), .int (xs (i + 2))]) X d hl (c_X7_may l (G7 D cid A a M' L') M L 40000 0 (xs (i + 1)) (xs (i + 2)) (by decide +kernel) (X7_may_ (fu := 40000) (by decide) hC (xs (i + 1)) (xs (i + 2)))) ml_RL_109 im_yX7_may se_yX7_may co_yX7_may hyV_X7_may ⟨rfl, rfl⟩ ⟨by decide, by decide⟩ rfl rfl dL_law_863 (fun H locs d => ?_)
  refine lv_aload_n X.1.1 X.1.2.1 dL_law_866 rfl (lv_at hl 1 rfl) ?_
  refine lw_arg (k := 1) X d hl hi hb (by decide) (by decide) dL_law_867 dL_law_868 dL_law_869 dL_law_870 dL_law_871 ?_
  refine lw_arg (k := 2) X d hl hi hb (by decide) (by decide) dL_law_872 dL_law_873 dL_law_874 dL_law_875 dL_law_876 ?_
  refine lw_c8 (As := [.int (xs (i + 1)), .int (xs (i + 2))]) X d hl (c_X8_may l (G8 D cid A a M L) M' L' 40000 179 (xs (i + 1)) (xs (i + 2)) (by decide +kernel) (X8_may_ (fu := 40000) (by decide) hM (xs (i + 1)) (xs (i + 2)))) ml_RL_112 im_yX8_may se_yX8_may co_yX8_may hyV_X8_may ⟨rfl, rfl⟩ ⟨by decide, by decide⟩ rfl rfl dL_law_877 (fun H locs d => ?_)
  exact lv_icmp_eq (tgt := 1380) X.1.1 X.1.2.1 dL_law_880 (by decide) (fun _ => kk _ _ _ _ _ _ _ ⟨hC, hg, hM⟩ d) (fun hq => absurd rfl hq)
set_option maxRecDepth 100000 in
theorem lc_23 (X : LC D cid A a b Ln xs p s m args meth c) (I : LI Z M L M') (d : Hw D cid A a s M L M' L' H locs) (hl : lv_has ls 4 (lvL i a b)) (hi : i + 5 ≤ Ln) (hb : Ln ≤ 2560) (kk : ∀ (Z : Sg) (M : Mem) (L : MemL) (M' : Mem) (L' : MemL) (H : Heap) (locs : List Loc), LI Z M L M' → Hw D cid A a s M L M' L' H locs → W p l e room_1 s m args below meth c H locs 600000 7302250 Q (F0 m 1380 ls [])) : W p l e room_1 s m args below meth c H locs 600000 7302250 Q (F0 m 885 ls []) := by
  obtain ⟨hC, hg, hM⟩ := I
  refine lv_aload_n X.1.1 X.1.2.1 dL_law_885 rfl (lv_at hl 2 rfl) ?_
  refine lw_arg (k := 1) X d hl hi hb (by decide) (by decide) dL_law_886 dL_law_887 dL_law_888 dL_law_889 dL_law_890 ?_
  refine lw_arg (k := 2) X d hl hi hb (by decide) (by decide) dL_law_891 dL_law_892 dL_law_893 dL_law_894 dL_law_895 ?_
  refine lw_c7 (As := [.int (xs (i + 1)), .int (xs (i + 2))]) X d hl (c_X7_lost l (G7 D cid A a M' L') M L 40000 0 (xs (i + 1)) (xs (i + 2)) (by decide +kernel) (X7_lost_ (fu := 40000) (by decide) hC (xs (i + 1)) (xs (i + 2)))) ml_RL_113 im_yX7_lost se_yX7_lost co_yX7_lost hyV_X7_lost ⟨rfl, rfl⟩ ⟨by decide, by decide⟩ rfl rfl dL_law_896 (fun H locs d => ?_)
  refine lv_aload_n X.1.1 X.1.2.1 dL_law_899 rfl (lv_at hl 1 rfl) ?_
  refine lw_arg (k := 1) X d hl hi hb (by decide) (by decide) dL_law_900 dL_law_901 dL_law_902 dL_law_903 dL_law_904 ?_
  refine lw_arg (k := 2) X d hl hi hb (by decide) (by decide) dL_law_905 dL_law_906 dL_law_907 dL_law_908 dL_law_909 ?_
  refine lw_c8 (As := [.int (xs (i + 1)), .int (xs (i + 2))]) X d hl (c_X8_lost l (G8 D cid A a M L) M' L' 40000 179 (xs (i + 1)) (xs (i + 2)) (by decide +kernel) (X8_lost_ (fu := 40000) (by decide) hM (xs (i + 1)) (xs (i + 2)))) ml_RL_116 im_yX8_lost se_yX8_lost co_yX8_lost hyV_X8_lost ⟨rfl, rfl⟩ ⟨by decide, by decide⟩ rfl rfl dL_law_910 (fun H locs d => ?_)
  exact lv_icmp_eq (tgt := 1380) X.1.1 X.1.2.1 dL_law_913 (by decide) (fun _ => kk _ _ _ _ _ _ _ ⟨hC, hg, hM⟩ d) (fun hq => absurd rfl hq)
set_option maxRecDepth 100000 in
theorem lc_24 (X : LC D cid A a b Ln xs p s m args meth c) (I : LI Z M L M') (d : Hw D cid A a s M L M' L' H locs) (hl : lv_has ls 4 (lvL i a b)) (hi : i + 5 ≤ Ln) (hb : Ln ≤ 2560) (kk : ∀ (Z : Sg) (M : Mem) (L : MemL) (M' : Mem) (L' : MemL) (H : Heap) (locs : List Loc), LI Z M L M' → Hw D cid A a s M L M' L' H locs → W p l e room_1 s m args below meth c H locs 600000 7302250 Q (F0 m 1380 ls [])) : W p l e room_1 s m args below meth c H locs 600000 7302250 Q (F0 m 918 ls []) := by
  obtain ⟨hC, hg, hM⟩ := I
  refine lv_aload_n X.1.1 X.1.2.1 dL_law_918 rfl (lv_at hl 2 rfl) ?_
  refine lw_arg (k := 1) X d hl hi hb (by decide) (by decide) dL_law_919 dL_law_920 dL_law_921 dL_law_922 dL_law_923 ?_
  obtain ⟨M1, eX7, rX7⟩ := X7_plan_ (fu := 40000) (by decide) hC (xs (i + 1))
  refine lw_c7 (As := [.int (xs (i + 1))]) X d hl (c_X7_plan l (G7 D cid A a M' L') M L 40000 0 (xs (i + 1)) (by decide +kernel) eX7) ml_RL_117 im_yX7_plan se_yX7_plan co_yX7_plan hyV_X7_plan ⟨rfl, rfl⟩ ⟨by decide, by decide⟩ rfl rfl dL_law_924 (fun H locs d => ?_)
  refine lv_aload_n X.1.1 X.1.2.1 dL_law_927 rfl (lv_at hl 1 rfl) ?_
  refine lw_arg (k := 1) X d hl hi hb (by decide) (by decide) dL_law_928 dL_law_929 dL_law_930 dL_law_931 dL_law_932 ?_
  obtain ⟨M2, eX8, rX8⟩ := X8_plan_ (fu := 40000) (by decide) hM (xs (i + 1))
  refine lw_c8 (As := [.int (xs (i + 1))]) X d hl (c_X8_plan l (G8 D cid A a M1 L) M' L' 40000 179 (xs (i + 1)) (by decide +kernel) eX8) ml_RL_120 im_yX8_plan se_yX8_plan co_yX8_plan hyV_X8_plan ⟨rfl, rfl⟩ ⟨by decide, by decide⟩ rfl rfl dL_law_933 (fun H locs d => ?_)
  exact lv_icmp_eq (tgt := 1380) X.1.1 X.1.2.1 dL_law_936 (by decide) (fun _ => kk _ _ _ _ _ _ _ ⟨rX7, hg, rX8⟩ d) (fun hq => absurd rfl hq)
set_option maxRecDepth 100000 in
theorem lc_25 (X : LC D cid A a b Ln xs p s m args meth c) (I : LI Z M L M') (d : Hw D cid A a s M L M' L' H locs) (hl : lv_has ls 4 (lvL i a b)) (hi : i + 5 ≤ Ln) (hb : Ln ≤ 2560) (kk : ∀ (Z : Sg) (M : Mem) (L : MemL) (M' : Mem) (L' : MemL) (H : Heap) (locs : List Loc), LI Z M L M' → Hw D cid A a s M L M' L' H locs → W p l e room_1 s m args below meth c H locs 600000 7302250 Q (F0 m 1380 ls [])) : W p l e room_1 s m args below meth c H locs 600000 7302250 Q (F0 m 941 ls []) := by
  obtain ⟨hC, hg, hM⟩ := I
  refine lv_aload_n X.1.1 X.1.2.1 dL_law_941 rfl (lv_at hl 2 rfl) ?_
  refine lw_arg (k := 1) X d hl hi hb (by decide) (by decide) dL_law_942 dL_law_943 dL_law_944 dL_law_945 dL_law_946 ?_
  refine lw_arg (k := 2) X d hl hi hb (by decide) (by decide) dL_law_947 dL_law_948 dL_law_949 dL_law_950 dL_law_951 ?_
  obtain ⟨M1, eX7, rX7⟩ := X7_write_ (fu := 40000) (by decide) hC (xs (i + 1)) (xs (i + 2))
  refine lw_c7 (As := [.int (xs (i + 1)), .int (xs (i + 2))]) X d hl (c_X7_write l (G7 D cid A a M' L') M L 40000 0 (xs (i + 1)) (xs (i + 2)) (by decide +kernel) eX7) ml_RL_121 im_yX7_write se_yX7_write co_yX7_write hyV_X7_write ⟨rfl, rfl⟩ ⟨by decide, by decide⟩ rfl rfl dL_law_952 (fun H locs d => ?_)
  refine lv_aload_n X.1.1 X.1.2.1 dL_law_955 rfl (lv_at hl 1 rfl) ?_
  refine lw_arg (k := 1) X d hl hi hb (by decide) (by decide) dL_law_956 dL_law_957 dL_law_958 dL_law_959 dL_law_960 ?_
  refine lw_arg (k := 2) X d hl hi hb (by decide) (by decide) dL_law_961 dL_law_962 dL_law_963 dL_law_964 dL_law_965 ?_
  obtain ⟨M2, eX8, rX8⟩ := X8_write_ (fu := 40000) (by decide) hM (xs (i + 1)) (xs (i + 2))
  refine lw_c8 (As := [.int (xs (i + 1)), .int (xs (i + 2))]) X d hl (c_X8_write l (G8 D cid A a M1 L) M' L' 40000 179 (xs (i + 1)) (xs (i + 2)) (by decide +kernel) eX8) ml_RL_124 im_yX8_write se_yX8_write co_yX8_write hyV_X8_write ⟨rfl, rfl⟩ ⟨by decide, by decide⟩ rfl rfl dL_law_966 (fun H locs d => ?_)
  exact lv_icmp_eq (tgt := 1380) X.1.1 X.1.2.1 dL_law_969 (by decide) (fun _ => kk _ _ _ _ _ _ _ ⟨rX7, hg, rX8⟩ d) (fun hq => absurd rfl hq)
end LAW2
