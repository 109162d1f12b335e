/-- the two systems in the heap -/
def Hw (D : va_G) (cid : Nat → ClassId) (A : Nat → Prop) (a : Nat → Nat) (s : State) (M : Mem) (L : MemL) (M' : Mem) (L' : MemL) (H : Heap) (locs : List Loc) : Prop := va_P D vwCl (vw false cid a M L ++ vw true cid a M' L') H ∧ va_S A s.heap H locs
/-- what holds all through the law -/
def LC (D : va_G) (cid : Nat → ClassId) (A : Nat → Prop) (a : Nat → Nat) (b Ln : Nat) (xs : Nat → Int32) (p : Program) (s : State) (m : MethodId) (args : Array Value) (meth : Method) (c : Code) : Prop :=
  Kx D cid A p s m args meth c cL_law 4 RL ∧ (∀ M L M' L', va_D A (vw false cid a M L ++ vw true cid a M' L')) ∧ va_X b Ln xs s s.heap ∧ b < s.heap.size ∧ ¬ A b
abbrev G7 (D : va_G) (cid : Nat → ClassId) (A : Nat → Prop) (a : Nat → Nat) (M' : Mem) (L' : MemL) : Gx := (D, cid, A, [], vw true cid a M' L', false, a)
abbrev G8 (D : va_G) (cid : Nat → ClassId) (A : Nat → Prop) (a : Nat → Nat) (M : Mem) (L : MemL) : Gx := (D, cid, A, vw false cid a M L, [], true, a)
/-- both systems answer to the same document's state -/
def LI (Z : Sg) (M : Mem) (L : MemL) (M' : Mem) : Prop := RC 0 M Z ∧ RgC (0 + 102) L ∧ RM 179 M' Z
abbrev lvL (i : Nat) (a : Nat → Nat) (b : Nat) : List (Nat × Value) := [(3, .int (nI i)), (2, .ref (a 179)), (1, .ref (a 0)), (0, .ref b)]
section LAW
variable {p : Program} {l : Launch} {e : Env} {s : State} {m : MethodId} {args : Array Value} {below : List Frame} {meth : Method} {c : Code} {H : Heap} {locs : List Loc} {Q : State → Prop}
variable {pc : Nat} {ls : Array Slot} {rest : List Value} {D : va_G} {cid : Nat → ClassId} {A : Nat → Prop} {a : Nat → Nat} {b Ln i : Nat} {xs : Nat → Int32} {M M' M1 : Mem} {L L' L1 : MemL}
theorem LC.s7 (X : LC D cid A a b Ln xs p s m args meth c) : Sx (G7 D cid A a M' L') false p s m args meth c cL_law 4 RL :=
  ⟨X.1.1, X.1.2.1, X.1.2.2.1, X.1.2.2.2.1, X.1.2.2.2.2.1, X.1.2.2.2.2.2.1, X.1.2.2.2.2.2.2.1, X.1.2.2.2.2.2.2.2.1, fun M L => X.2.1 M L M' L', rfl, X.1.2.2.2.2.2.2.2.2.2⟩
theorem LC.s8 (X : LC D cid A a b Ln xs p s m args meth c) : Sx (G8 D cid A a M L) true p s m args meth c cL_law 4 RL :=
  ⟨X.1.1, X.1.2.1, X.1.2.2.1, X.1.2.2.2.1, X.1.2.2.2.2.1, X.1.2.2.2.2.2.1, X.1.2.2.2.2.2.2.1, X.1.2.2.2.2.2.2.2.1, fun M' L' => by
    show va_D A (vw false cid a M L ++ (vw true cid a M' L' ++ []))
    rw [List.append_nil]
    exact X.2.1 M L M' L', rfl, X.1.2.2.2.2.2.2.2.2.2⟩
theorem Hw.d8 (d : Hw D cid A a s M L M' L' H locs) : Dy (G8 D cid A a M L) s M' L' H locs := ⟨by
  show va_P D vwCl (vw false cid a M L ++ (vw true cid a M' L' ++ [])) H
  rw [List.append_nil]
  exact d.1, d.2⟩
theorem Hw.of8 (d : Dy (G8 D cid A a M L) s M' L' H locs) : Hw D cid A a s M L M' L' H locs := ⟨by
  have h : va_P D vwCl (vw false cid a M L ++ (vw true cid a M' L' ++ [])) H := d.1
  rw [List.append_nil] at h
  exact h, d.2⟩
/-- one item of the script -/
theorem lw_arg {k : Nat} {kI : Int} {r1 r2 : Nat} (X : LC D cid A a b Ln xs p s m args meth c) (d : Hw D cid A a s M L M' L' H locs) (hl : lv_has ls 4 [(3, .int (nI i)), (2, .ref r2), (1, .ref r1), (0, .ref b)]) (hi : i + 5 ≤ Ln) (hb : Ln ≤ 2560) (hk : k < 5) (hkI : Int32.ofInt kI = nI k)
    (d0 : decode cL_law pc = .ok (.aload_n 0, 1)) (d1 : decode cL_law (pc + 1) = .ok (.iload_n 3, 1)) (d2 : decode cL_law (pc + 2) = .ok (.iconst kI, 1)) (d3 : decode cL_law (pc + 3) = .ok (.iadd, 1)) (d4 : decode cL_law (pc + 4) = .ok (.iaload, 1))
    (kk : W p l e room_1 s m args below meth c H locs 600000 7302250 Q (F0 m (pc + 5) ls (.int (xs (i + k)) :: rest))) : W p l e room_1 s m args below meth c H locs 600000 7302250 Q (F0 m pc ls rest) := by
  refine lv_aload_n X.1.1 X.1.2.1 d0 rfl (lv_at hl 3 rfl) ?_
  refine lv_iload_n X.1.1 X.1.2.1 d1 rfl (lv_at hl 0 rfl) ?_
  refine lv_iconst (v := nI k) X.1.1 X.1.2.1 d2 hkI ?_
  refine lv_iadd X.1.1 X.1.2.1 d3 ?_
  rw [q_ad]
  refine va_sld X.1.1 X.1.2.1 X.2.2.1 X.2.2.2.1 X.2.2.2.2 d.2 (inb_vp (q_ib (by omega) (by omega))) d4 ?_
  rw [q_cl (by omega)]
  exact kk
variable {y : MethodName} {bytes : ByteArray} {maxL n idx : Nat} {rm : Room} {As : List Value} {z : Int32} {lv : List (Nat × Value)} {st : List Value}
/-- a call of the class -/
theorem lw_c7 (X : LC D cid A a b Ln xs p s m args meth c) (d : Hw D cid A a s M L M' L' H locs) (hls : lv_has ls 4 lv) (hM : Met l y (.code y bytes maxL (some .int) :: UW) rm (va_Pc (.ref (ad (G7 D cid A a M' L') 0) :: As) (PreG (G7 D cid A a M' L') false M L)) (Qi (G7 D cid A a M' L') z M1 L1) 0 0 (gA (G7 D cid A a M' L')))
    (h1 : (.methodLink RL idx y : Cond) ∈ UW) (h2 : (.instanceMethod y : Cond) ∈ UW) (h3 : (.selects RX7 y y : Cond) ∈ UW) (h5 : (.code y bytes maxL (some .int) : Cond) ∈ UW) (hy : y.cls = RX7 ∧ y.cls ≠ "java/lang/invoke/MethodHandle" ∧ y.cls ≠ "java/lang/invoke/VarHandle" ∧ (parseMethodDescriptor y.desc).map (fun d => d.parameters.length) = some n) (hrm : rm.cells = 0 ∧ rm.slots = 0) (hR : rm.frames + 1 ≤ room_1.frames ∧ 8 + (maxL + 11) + rm.locals ≤ room_1.locals)
    (hn : As.length = n) (hst : st = As.reverse ++ [.ref (a 0)]) (hd : decode cL_law pc = .ok (.invokevirtual idx, 3))
    (kk : ∀ (H1 : Heap) (locs1 : List Loc), Hw D cid A a s M1 L1 M' L' H1 locs1 → W p l e room_1 s m args below meth c H1 locs1 600000 7302250 Q (F0 m (pc + 3) ls [.int z])) : W p l e room_1 s m args below meth c H locs 600000 7302250 Q (F0 m pc ls st) := by
  have d7 : Dy (G7 D cid A a M' L') s M L H locs := ⟨d.1, d.2⟩
  exact r_ri d7 (r_cV (rest := []) (X.s7 (M' := M') (L' := L')) d7 hM ⟨Nat.zero_le _, by show 0 < 0 + 179; decide⟩ (wc_0 (by decide +kernel)) (by rfl : vwCl[7]? = some (RX7, TX7, 7)) h1 h2 h3 in_RX7 h5 hy hrm hR hn hls hst (Nat.zero_le _) hd ⟨by decide, by decide⟩) (fun H1 locs1 d1 => kk H1 locs1 ⟨d1.1, d1.2⟩)
/-- a call of the reference -/
theorem lw_c8 {z1 : Int32} (X : LC D cid A a b Ln xs p s m args meth c) (d : Hw D cid A a s M L M' L' H locs) (hls : lv_has ls 4 lv) (hM : Met l y (.code y bytes maxL (some .int) :: UW) rm (va_Pc (.ref (ad (G8 D cid A a M L) 179) :: As) (PreG (G8 D cid A a M L) true M' L')) (Qi (G8 D cid A a M L) z M1 L1) 0 0 (gA (G8 D cid A a M L)))
    (h1 : (.methodLink RL idx y : Cond) ∈ UW) (h2 : (.instanceMethod y : Cond) ∈ UW) (h3 : (.selects RX8 y y : Cond) ∈ UW) (h5 : (.code y bytes maxL (some .int) : Cond) ∈ UW) (hy : y.cls = RX8 ∧ y.cls ≠ "java/lang/invoke/MethodHandle" ∧ y.cls ≠ "java/lang/invoke/VarHandle" ∧ (parseMethodDescriptor y.desc).map (fun d => d.parameters.length) = some n) (hrm : rm.cells = 0 ∧ rm.slots = 0) (hR : rm.frames + 1 ≤ room_1.frames ∧ 8 + (maxL + 11) + rm.locals ≤ room_1.locals)
    (hn : As.length = n) (hst : st = As.reverse ++ [.ref (a 179), .int z1]) (hd : decode cL_law pc = .ok (.invokevirtual idx, 3))
    (kk : ∀ (H1 : Heap) (locs1 : List Loc), Hw D cid A a s M L M1 L1 H1 locs1 → W p l e room_1 s m args below meth c H1 locs1 600000 7302250 Q (F0 m (pc + 3) ls [.int z, .int z1])) : W p l e room_1 s m args below meth c H locs 600000 7302250 Q (F0 m pc ls st) := by
  exact r_ri d.d8 (r_cV (rest := [.int z1]) (X.s8 (M := M) (L := L)) d.d8 hM ⟨by show 179 ≤ 179; decide, by show 179 < 179 + 21; decide⟩ (wc_20 (by decide +kernel)) (by rfl : vwCl[8]? = some (RX8, TX8, 27)) h1 h2 h3 in_RX8 h5 hy hrm hR hn hls hst (by show 1 ≤ 8; decide) hd ⟨by decide, by decide⟩) (fun H1 locs1 d1 => kk H1 locs1 (Hw.of8 d1))
end LAW
