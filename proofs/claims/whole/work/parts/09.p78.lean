set_option maxHeartbeats 4000000 in
set_option maxRecDepth 100000 in
/-- THE LAW, from its entry -/
theorem whole_start {p : Program} {e : Env} {s : State} {m : MethodId} {below : List Frame} {meth : Method} {c : Code} (l : Launch) (hflags : l.flags = flags0) {b L : Nat} {xs : Nat → Int32} (hL : L ≤ 2560) (C0 : lw_At p s m meth c b L xs) : W p l e room_1 s m #[Value.ref b] below meth c s.heap [] 0 0 (lw_Z below #[Value.ref b] s) (entryFrame m ([Value.ref b] : List Value).toArray 4) := by
  obtain ⟨hx, hb, hr, hml, hown, hts, hX, hbl, hlocks, hgv⟩ := id C0
  obtain ⟨D, cid, hK⟩ := lw_world hts
  have S : Kx D cid (fun q : Nat => s.heap.size ≤ q) p s m #[Value.ref b] meth c cL_law 4 RL := ⟨hx, hb, hml, hown, fun w h => hts w (uwm h), hlocks, hK, lw_tb hts hgv, lw_aos hts, fun q h => h⟩
  have hl := lv_entry ([.ref b]) (n := 4) (Nat.le_of_ble_eq_true rfl)
  rw [lg_entry_eq]
  generalize (lg_sl ([.ref b]) ++ List.replicate (4 - (lg_sl ([.ref b])).length) Slot.unset).toArray = ls at hl ⊢
  have hl : lv_has ls 4 [(0, .ref b)] := hl
  have d : Dz D cid (fun q : Nat => s.heap.size ≤ q) s 0 0 (fun _ => 0) (fun _ => none) s.heap [] := ⟨⟨fun k q h => by simp [wr] at h, ⟨fun i j p q h => by simp [wr] at h, fun k q h => by simp [wr] at h⟩, va_S.rf⟩, fun j h1 h2 => by omega, fun _ _ => rfl⟩
  refine z_new (C := RX7) (T := TX7) (N := 7) (ci := 7) (ty := tyX7) (fs := [.null, .null, .int 0, .null, .null, .null, .null]) S d fx_X7 tyX7_ok cl_RL_7 it_RX7 in_RX7 rfl (fun j hj => by rcases (show j = 0 ∨ j = 1 ∨ j = 2 ∨ j = 3 ∨ j = 4 ∨ j = 5 ∨ j = 6 by omega) with rfl | rfl | rfl | rfl | rfl | rfl | rfl <;> rfl) ⟨by decide, by decide⟩ dL_law_0 (fun q1 ad1 H1 ha1 hn1 d => ?_)
  refine lv_dup S.1 S.2.1 dL_law_3 rfl ?_
  refine z_call (k := 0) (n := 0) (t := 0) S hl d rfl (ct_X7 l) (va_up_self _ _ _) (by decide) (blkd (t := 0) (w := 179) (by decide +kernel)) ml_RL_9 in_RX7 im_yX7_init co_yX7_init rfl (by decide +kernel) ⟨rfl, rfl⟩ ⟨by decide, by decide⟩ (by show _ ≤ 8; exact Nat.le_of_ble_eq_true rfl) ⟨by decide, by decide⟩ dL_law_4 hn1.symm (fun ad2 H2 locs2 ha2 d => ?_)
  refine lv_astore_n (lv' := [(1, .ref q1), (0, .ref b)]) S.1 S.2.1 dL_law_7 rfl hl (by decide) rfl (fun ls hl => ?_)
  have h2 : ad2 0 = q1 := (ha2 0 (by omega)).trans hn1
  refine dz_gen d (fun ov hov d => ?_)
  have hno : ∀ j, ov j = none := fun j => by
    rw [hov]
    by_cases z : j = 0
    · subst z; exact va_up_self _ _ _
    · rw [va_up_ne _ _ z]; exact va_up_ne _ _ z
  clear hov
  have d : Dz D cid (fun q : Nat => s.heap.size ≤ q) s 0 179 ad2 ov H2 locs2 := d
  refine z_new (C := RX8) (T := TX8) (N := 27) (ci := 8) (ty := tyX8) (fs := [.null, .null, .null, .null, .null, .null, .null, .int 0, .int 0, .null, .int 0, .int 0, .int 0, .null, .null, .null, .int 0, .null, .null, .null, .null, .int 0, .null, .null, .null, .null, .null]) S d fx_X8 tyX8_ok cl_RL_10 it_RX8 in_RX8 rfl (fun j hj => by rcases (show j = 0 ∨ j = 1 ∨ j = 2 ∨ j = 3 ∨ j = 4 ∨ j = 5 ∨ j = 6 ∨ j = 7 ∨ j = 8 ∨ j = 9 ∨ j = 10 ∨ j = 11 ∨ j = 12 ∨ j = 13 ∨ j = 14 ∨ j = 15 ∨ j = 16 ∨ j = 17 ∨ j = 18 ∨ j = 19 ∨ j = 20 ∨ j = 21 ∨ j = 22 ∨ j = 23 ∨ j = 24 ∨ j = 25 ∨ j = 26 by omega) with rfl | rfl | rfl | rfl | rfl | rfl | rfl | rfl | rfl | rfl | rfl | rfl | rfl | rfl | rfl | rfl | rfl | rfl | rfl | rfl | rfl | rfl | rfl | rfl | rfl | rfl | rfl <;> rfl) ⟨by decide, by decide⟩ dL_law_8 (fun q3 ad3 H3 ha3 hn3 d => ?_)
  refine lv_dup S.1 S.2.1 dL_law_11 rfl ?_
  refine z_call (k := 0) (n := 179) (t := 179) S hl d rfl (ct_X8 l) (va_up_self _ _ _) (by decide) (blkd (t := 179) (w := 21) (by decide +kernel)) ml_RL_12 in_RX8 im_yX8_init co_yX8_init rfl (by decide +kernel) ⟨rfl, rfl⟩ ⟨by decide, by decide⟩ (by show _ ≤ 8; exact Nat.le_of_ble_eq_true rfl) ⟨by decide, by decide⟩ dL_law_12 hn3.symm (fun ad4 H4 locs4 ha4 d => ?_)
  refine lv_astore_n (lv' := [(2, .ref q3), (1, .ref q1), (0, .ref b)]) S.1 S.2.1 dL_law_15 rfl hl (by decide) rfl (fun ls hl => ?_)
  have h4 : ad4 179 = q3 := (ha4 179 (by omega)).trans hn3
  have h5 : ad4 0 = q1 := (ha4 0 (by omega)).trans ((ha3 0 (by omega)).trans h2)
  refine dz_gen d (fun ov4 hov d => ?_)
  have hno4 : ∀ j, ov4 j = none := fun j => by
    rw [hov]
    by_cases z : j = 179
    · subst z; exact va_up_self _ _ _
    · rw [va_up_ne _ _ z]; exact (va_up_ne _ _ z).trans (hno j)
  clear hov
  have d : Dz D cid (fun q : Nat => s.heap.size ≤ q) s 0 200 ad4 ov4 H4 locs4 := d
  have ew : wr 0 200 ad4 (zc cid ad4 ov4) = vw false cid ad4 M0 L0 ++ vw true cid ad4 M0 L0 := by
    rw [wr_ext (k := 0) (n := 200) (ad := ad4) (ad' := ad4) (cl := zc cid ad4 ov4) (cl' := wc cid ad4) (fun j _ _ => ⟨rfl, zc_n (hno4 j)⟩)]
    exact (wr_app (k := 0) (n := 179) (m := 21) (ad := ad4) (ad' := ad4) (ad1 := ad4) (cl := wc cid ad4) (cl' := wc cid ad4) (cl1 := wc cid ad4) (fun j _ _ => ⟨rfl, rfl⟩) (fun j _ _ => ⟨rfl, rfl⟩)).symm
  have hP := d.1.1
  have hD := d.1.2.1
  rw [ew] at hP hD
  have X : LC D cid (fun q : Nat => s.heap.size ≤ q) ad4 b L xs p s m #[Value.ref b] meth c := ⟨S, fun M L M' L' => va_D_fst hD (by rw [List.map_append, List.map_append, vw_fst, vw_fst, vw_fst, vw_fst]), hX, hbl, Nat.not_le.mpr hbl⟩
  refine W.widen (k := 600000) (n := 7302250) (by decide) (by decide) ?_
  refine lv_iconst (v := nI 0) S.1 S.2.1 dL_law_16 (by decide) ?_
  refine lv_istore_n (lv' := lvL 0 ad4 b) S.1 S.2.1 dL_law_17 rfl hl (by decide) (by show _ = [(3, Value.int (nI 0)), (2, Value.ref (ad4 179)), (1, Value.ref (ad4 0)), (0, Value.ref b)]; rw [h4, h5]; rfl) (fun ls hl => ?_)
  exact lw_loop X hL (fun H locs ls hS => va_forget hS.2.2 (lv_iconst (v := 1) hx hb dL_law_1386 (by decide) (lw_ret hx hb hr hlocks dL_law_1387))) L 0 Z0 M0 L0 M0 L0 H4 locs4 ls (Nat.zero_le L) (by omega) LI_0 ⟨hP, d.1.2.2⟩ hl
