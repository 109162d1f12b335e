section ZM
variable {p : Program} {l : Launch} {e : Env} {R : Room} {s : State} {m : MethodId} {args : Array Value} {below : List Frame} {meth : Method} {c : Code} {H : Heap} {locs : List Loc} {cells slots : Nat} {Q : State → Prop}
variable {cc : ByteArray} {nL : Nat} {own : String} {pc : Nat} {ls : Array Slot} {rest : List Value} {D : va_G} {cid : Nat → ClassId} {A : Nat → Prop} {k n : Nat} {ad : Nat → Nat} {ov : Nat → Option va_E}
theorem z_mna {ty : FieldType} {iy t0 N' K' idx : Nat} {nm : String} {z : vp_A} {x y : Int32} (S : Kx D cid A p s m args meth c cc nL own) (d : Dz D cid A s k n ad ov H locs) (hnm : "[" ++ (FieldType.array ty).toString = nm) (hcl : (.classLink own idx nm : Cond) ∈ UW) (hov : va_AOA ty s) (harr : (.arrayClass ty : Cond) ∈ UW) (hcy : s.vm.findClass (FieldType.array ty).toString = some (cid iy)) (ht : (tysL cid)[t0]? = some (cid t0, .array ty))
    (hn : ¬ x < 0) (hk : ¬ y < 0) (hN : x.toNatClampNeg = N') (hM : y.toNatClampNeg = K') (hb : N' * 4 ≤ 536870912 ∧ K' * componentBytes ty ≤ 536870912 ∧ K' ≤ 536870912) (hdf : fits ty (defaultValue ty) = true) (hdd : (defaultValue ty).isDefault = true) (hr : cells + (1 + N') ≤ R.cells ∧ slots + (N' + N' * K') ≤ R.slots) (hz : ∀ c : ClassId, Jvm.Free.Multi.innerC c K' (defaultValue ty) = vp_cell c z) (hd : decode cc pc = .ok (.multianewarray idx 2, 4))
    (hwo : ∀ ad : Nat → Nat, wc cid ad (k + n) = .inl (cid t0, N', .inr (.inr (.inr (.inr (fun j => if j < N' then some (ad (k + n + 1 + j)) else none)))))) (hkid : ∀ c ∈ kids (k + n), c < k + n + 1 + N')
    (kk : ∀ (q : Nat) (ad' : Nat → Nat) (H1 : Heap), (∀ j, j < k + n → ad' j = ad j) → ad' (k + n) = q → Dz D cid A s k (n + 1 + N') ad' (fun j => if j < k + n then ov j else if j = k + n then none else if j < k + n + 1 + N' then some (.inl (cid iy, z)) else none) H1 locs → W p l e R s m args below meth c H1 locs (cells + 1 + N') (slots + N' + N' * K') Q (F0 m (pc + 4) ls (.ref q :: rest))) : W p l e R s m args below meth c H locs cells slots Q (F0 m pc ls (.int y :: .int x :: rest)) := by
  refine va_mna (X := wr k n ad (zc cid ad ov)) (L := []) (f := fun _ => .inr (0, [])) S.1 S.2.1 S.2.2.2.1 (by rw [hnm]; exact S.uw hcl) hov (S.uw harr) hcy S.K (by show va_P _ _ (_ ++ []) _; rw [List.append_nil]; exact d.1.1) (by show va_D _ (_ ++ []); rw [List.append_nil]; exact d.1.2.1) d.1.2.2 S.hA hn hk hN hM hb.1 hb.2.1 hb.2.2 hdf hdd hr.1 hr.2 hz hd (fun q r cA H1 hinj hnl hK hP hD hS => ?_)
  have hc := S.id_of ht hK
  subst hc
  generalize hLr : ((List.range N').map r) = Lr at hP hD
  have erow : va_pl ([] ++ Lr) (vr_up (fun _ => .inr (0, [])) Lr (.inl (cid iy, z))) = wr (k + n + 1) N' (fun j => r (j - (k + n + 1))) (fun _ => .inl (cid iy, z)) := by
    unfold va_pl wr
    rw [List.nil_append]
    subst hLr
    rw [List.map_map]
    apply List.map_congr_left
    intro i hi
    show (r i, vr_up _ _ _ (r i)) = (r (k + n + 1 + i - (k + n + 1)), _)
    rw [vr_up_in (List.mem_map.mpr ⟨i, hi, rfl⟩), show k + n + 1 + i - (k + n + 1) = i by omega]
  rw [erow] at hP hD
  generalize hOV : (fun j => if j < k + n then ov j else if j = k + n then none else if j < k + n + 1 + N' then some (.inl (cid iy, z)) else none : Nat → Option va_E) = OV at kk
  have o1 : ∀ j, j < k + n → OV j = ov j := fun j hj => by rw [← hOV]; exact if_pos hj
  have o2 : OV (k + n) = none := by rw [← hOV]; show (if _ then _ else if _ then _ else _) = _; rw [if_neg (by omega), if_pos rfl]
  have o3 : ∀ j, k + n < j → j < k + n + 1 + N' → OV j = some (.inl (cid iy, z)) := fun j h1 h2 => by rw [← hOV]; show (if _ then _ else if _ then _ else if _ then _ else _) = _; rw [if_neg (by omega), if_neg (by omega), if_pos h2]
  have o4 : ∀ j, k + n + 1 + N' ≤ j → OV j = none := fun j h1 => by rw [← hOV]; show (if _ then _ else if _ then _ else if _ then _ else _) = _; rw [if_neg (by omega), if_neg (by omega), if_neg (by omega)]
  generalize hAD : (fun j => if j < k + n then ad j else if j = k + n then q else r (j - (k + n + 1)) : Nat → Nat) = AD
  have a1 : ∀ j, j < k + n → AD j = ad j := fun j hj => by rw [← hAD]; exact if_pos hj
  have a2 : AD (k + n) = q := by rw [← hAD]; show (if _ then _ else if _ then _ else _) = _; rw [if_neg (by omega), if_pos rfl]
  have a3 : ∀ j, k + n < j → AD j = r (j - (k + n + 1)) := fun j h1 => by rw [← hAD]; show (if _ then _ else if _ then _ else _) = _; rw [if_neg (by omega), if_neg (by omega)]
  have ef : (fun j => if j < N' then some (AD (k + n + 1 + j)) else none) = (fun i => if i < N' then some (r i) else none) := by
    funext j
    by_cases hj : j < N'
    · rw [if_pos hj, if_pos hj, a3 _ (by omega), show k + n + 1 + j - (k + n + 1) = j by omega]
    · rw [if_neg hj, if_neg hj]
  have e1 := wr_push (k := k) (n := n) (ad := ad) (ad' := AD) (cl := zc cid ad ov) (cl' := zc cid AD OV) (q := q) (e := .inl (cid t0, N', .inr (.inr (.inr (.inr (fun i => if i < N' then some (r i) else none)))))) (fun j a b => ⟨a1 j b, by
    unfold zc
    rw [o1 j b]
    cases h : ov j with
    | some y => rfl
    | none => exact wcell_cg (fun c hc => a1 c (d.2.1 j a b h c hc))⟩) a2 (by rw [zc_n o2, hwo, ef])
  rw [e1] at hP hD
  have e2 := wr_app (k := k) (n := n + 1) (m := N') (ad := AD) (ad' := AD) (cl := zc cid AD OV) (cl' := zc cid AD OV) (ad1 := fun j => r (j - (k + n + 1))) (cl1 := fun _ => .inl (cid iy, z)) (fun j a b => ⟨rfl, rfl⟩) (fun j a b => ⟨a3 j (by omega), zc_s (o3 j (by omega) (by omega))⟩)
  rw [show k + (n + 1) = k + n + 1 by omega] at e2
  rw [e2] at hP hD
  refine kk q AD H1 a1 a2 ⟨⟨hP, hD, hS⟩, fun j a b h => ?_, fun j a => o4 j (by omega)⟩
  by_cases z1 : j < k + n
  · rw [o1 j z1] at h
    intro c hc
    have := d.2.1 j a z1 h c hc
    omega
  · by_cases z2 : j = k + n
    · subst z2
      intro c hc
      have := hkid c hc
      omega
    · rw [o3 j (by omega) (by omega)] at h
      cases h
theorem z_gst {n' : String} {N idx : Nat} {f : Nat → Int32} {host : String} (S : Kx D cid A p s m args meth c cc nL own) (d : Dz D cid A s k n ad ov H locs) (hz : St1 "MownWords" n' N f A s s.heap) (hl : va_Nw (.fieldLinkNest own idx "MownWords" n' "[I" host) s) (hd : decode cc pc = .ok (.getstatic idx, 3))
    (kk : ∀ t : Nat, va_T .int t N (fun j => .int (f j)) A s s.heap → W p l e R s m args below meth c H locs cells slots Q (F0 m (pc + 3) ls (.ref t :: rest))) : W p l e R s m args below meth c H locs cells slots Q (F0 m pc ls rest) := by
  obtain ⟨t, h1, h2⟩ := hz
  exact va_getsN S.1 S.2.1 h1 d.1.2.2 S.2.2.2.1 (va_Nw.use (A := args) rfl hl) (fun _ h => h) hd (kk t h2)
theorem z_tlen {t N : Nat} {f : Nat → Int32} {v : Int32} (S : Kx D cid A p s m args meth c cc nL own) (d : Dz D cid A s k n ad ov H locs) (hT : va_T .int t N (fun j => .int (f j)) A s s.heap) (hv : Int32.ofNat N = v) (hd : decode cc pc = .ok (.arraylength, 1)) (kk : W p l e R s m args below meth c H locs cells slots Q (F0 m (pc + 1) ls (.int v :: rest))) : W p l e R s m args below meth c H locs cells slots Q (F0 m pc ls (.ref t :: rest)) :=
  va_tlen S.1 S.2.1 hT d.1.2.2 hv hd kk
theorem z_tald {t N i0 : Nat} {f : Nat → Int32} {i : Int32} (S : Kx D cid A p s m args meth c cc nL own) (d : Dz D cid A s k n ad ov H locs) (hT : va_T .int t N (fun j => .int (f j)) A s s.heap) (hi : i = nI i0) (hlt : i0 < N) (hb : i0 < 1000) (hd : decode cc pc = .ok (.iaload, 1)) (kk : W p l e R s m args below meth c H locs cells slots Q (F0 m (pc + 1) ls (.int (f i0) :: rest))) : W p l e R s m args below meth c H locs cells slots Q (F0 m pc ls (.int i :: .ref t :: rest)) := by
  subst hi
  refine va_ti S.1 S.2.1 hT d.1.2.2 (inb_vp (q_ib (by omega) hlt)) rfl hd ?_
  rw [q_cl (by omega)]
  exact kk
/-- System.arraycopy out of a static row of ints: its first N' items, to the beginning -/
theorem z_cpyT {t N' n1 j idx : Nat} {f g : Nat → Int32} {lv : List (Nat × Value)} {nn : Int32} (S : Kx D cid A p s m args meth c cc nL own) (hls : lv_has ls nL lv) (d : Dz D cid A s k n ad ov H locs) (hT : va_T .int t N' (fun j => .int (f j)) A s s.heap) (hj : k ≤ j ∧ j < k + n) (hx : ov j = some (.inl (cid 0, n1, .inl g))) (hnn : nn = nI N') (hb : N' < 1000) (h5 : N' ≤ n1) (h1 : (.methodLink own idx arraycopyName : Cond) ∈ UW) (hfr : 1 ≤ R.frames ∧ (rest.map fun v => v.category).sum + (nativeFrameWords "java/lang/System" "arraycopy" 5 + 11) ≤ R.locals) (hd : decode cc pc = .ok (.invokestatic idx, 3)) {a : Nat} (ha : a = ad j)
    (kk : ∀ (H1 : Heap) (locs1 : List Loc), Dz D cid A s k n ad (va_up ov j (some (.inl (cid 0, n1, .inl (va_cpy f g 0 0 N'))))) H1 locs1 → W p l e R s m args below meth c H1 locs1 cells slots Q (F0 m (pc + 3) ls rest)) : W p l e R s m args below meth c H locs cells slots Q (F0 m pc ls (.int nn :: .int 0 :: .ref a :: .int 0 :: .ref t :: rest)) := by
  subst ha
  subst hnn
  intro T hT2 X
  obtain ⟨scr, hs1, ⟨hs6, k0, hk0, cm0, hkk0⟩, hs3, hs4, -, hs5, hs7⟩ := hT
  have hq := d.at' hj (zc_s hx)
  have hbl : t < s.heap.size := (Array.getElem?_eq_some_iff.mp hs1).1
  have hc0 : H[t]? = some scr := by rw [d.1.2.2.2.1 t hbl hs7]; exact hs1
  have hc1 : H[ad j]? = some (vp_cell (cid 0) (n1, .inl g)) := d.1.1 (j - k) _ hq
  obtain ⟨-, k1, hk1, cm1, hkk1⟩ := (S.K.2 0 (cid 0, .int) rfl).1 n1 (fun j => .int (g j))
  have z0 : (0 : Int32).toInt = 0 := by decide
  have zN : (nI N').toInt = (N' : Int) := nI_toInt (by omega)
  have cN : (nI N').toNatClampNeg = N' := q_cl (by omega)
  obtain ⟨vm', X', step⟩ := X.arraycopy S.1 S.2.2.2.1 (S.uw h1) (S.uw nm_arraycopyName) (S.uw sm_arraycopyName) (S.uw in_java_lang_System) (src := t) (dst := ad j) (cs := scr) (cd := vp_cell (cid 0) (n1, .inl g)) (srcPos := 0) (destPos := 0) (n := nI N') (by rw [hT2]; exact hc0) (by rw [hT2]; exact hc1)
    hs6 (fun _ h => by cases h) hs3 (fun h => by cases h) hk0 hk1 hkk0 hkk1 (by simp [refKind]) (by decide) (by decide) (nI_pos (by omega))
    (by rw [z0, zN]; omega)
    (by rw [z0, zN]; show ¬ _ > ((arrV (cid 0) n1 (fun j => .int (g j))).slots.size : Int); rw [arrV_size]; omega)
    (fun vm₁ _ i hi => by
      rw [cN] at hi
      have e9 : scr.slots.getD ((0 : Int32).toNatClampNeg + i) .null = .int (f i) := by
        rw [Array.getD_eq_getD_getElem?, show (0 : Int32).toNatClampNeg + i = i by show 0 + i = i; omega, hs5 _ hi]
        rfl
      refine ⟨?_, ?_⟩
      · rw [e9]
        rfl
      · rw [e9]
        exact trivial)
    (g := F0 m pc ls (.int (nI N') :: .int 0 :: .ref (ad j) :: .int 0 :: .ref t :: rest)) rfl (by rw [S.2.2.1]; exact hls.1) (rest := rest) rfl (by rw [S.2.1]; exact hd) hfr.1 (by have := hfr.2; show 2 * 0 + _ + _ ≤ _; omega)
  have e1 : copied scr (vp_cell (cid 0) (n1, .inl g)) 0 0 (nI N') = vp_cell (cid 0) (n1, .inl (va_cpy f g 0 0 N')) := by
    have h := va_copiedX (fun z => .int z) scr (cid 0) (n0 := N') (n1 := n1) (sp := 0) (dp := 0) (n := N') f g hs5 (by omega)
    have e2 : copied scr (vp_cell (cid 0) (n1, .inl g)) 0 0 (nI N') = (arrV (cid 0) n1 (fun j => .int (g j))).storeRun (0 : Int32).toNatClampNeg (scr.stretch (0 : Int32).toNatClampNeg (nI N').toNatClampNeg) := rfl
    rw [e2, cN]
    exact h
  rw [e1] at X' step
  have hl : ad j < H.size := (Array.getElem?_eq_some_iff.mp hc1).1
  have hheap : ((T.setVm vm').setCell (ad j) (vp_cell (cid 0) (n1, .inl (va_cpy f g 0 0 N')))).heap = H.setIfInBounds (ad j) (vp_cell (cid 0) (n1, .inl (va_cpy f g 0 0 N'))) := by rw [← hT2]; rfl
  have oq : ∀ q : Nat, q ≠ ad j → (H.setIfInBounds (ad j) (vp_cell (cid 0) (n1, .inl (va_cpy f g 0 0 N'))))[q]? = H[q]? := fun q hq => by simp [Array.getElem?_setIfInBounds, Ne.symm hq]
  have hP := d.1.1.set (e := .inl (cid 0, n1, .inl (va_cpy f g 0 0 N'))) d.1.2.1 hq (show (H.setIfInBounds (ad j) _)[ad j]? = some _ by simp [Array.getElem?_setIfInBounds, hl]) oq
  obtain ⟨t2, a1, b1⟩ := kk _ _ (d.set hj hx hP (d.1.2.1.set hq) ⟨by simp; exact d.1.2.2.1, fun q g1 g2 => by
      rw [oq q (fun e => g2 (by rw [e]; exact d.1.2.1.2 (j - k) _ hq))]
      exact d.1.2.2.2.1 q g1 g2, fun q hq2 => by
      rcases List.mem_append.mp hq2 with h | h
      · exact d.1.2.2.2.2 q h
      · obtain ⟨z, -, hz⟩ := List.mem_map.mp h
        rw [← hz]
        exact d.1.2.1.2 (j - k) _ hq⟩) _ hheap X'
  exact ⟨t2, step t2 a1, b1⟩
end ZM
