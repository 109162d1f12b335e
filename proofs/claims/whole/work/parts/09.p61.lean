/-! the context of a constructor, and its world -/
def AOs (U : State) : Prop := va_AO "MownWords$Strip" U ∧ va_AO "MownWords$Word" U ∧ va_AO "MownWords$Sheet" U ∧ va_AOA .int U ∧ va_AOA .long U
theorem AOs.moved {u U : State} (hvm : u.vm.Alike U.vm) (h : AOs u) : AOs U := ⟨h.1.moved hvm, h.2.1.moved hvm, h.2.2.1.moved hvm, h.2.2.2.1.moved hvm, h.2.2.2.2.moved hvm⟩
theorem St1.narrow {C n : String} {N : Nat} {f : Nat → Int32} {A B : Nat → Prop} {U : State} {H : Heap} (h : St1 C n N f A U H) (hAB : ∀ q, B q → A q) : St1 C n N f B U H := by
  obtain ⟨t, h1, h2⟩ := h
  exact ⟨t, h1.narrow hAB, h2.narrow hAB⟩
theorem Tb.narrow {A B : Nat → Prop} {U : State} {H : Heap} (h : Tb A U H) (hAB : ∀ q, B q → A q) : Tb B U H := ⟨h.1.narrow hAB, h.2.1.narrow hAB, h.2.2.1.narrow hAB, h.2.2.2⟩
def Kx (D : va_G) (cid : Nat → ClassId) (A : Nat → Prop) (p : Program) (s : State) (m : MethodId) (args : Array Value) (meth : Method) (c : Code) (cc : ByteArray) (nL : Nat) (own : String) : Prop :=
  p.tables.exec = Jvm.exec ∧ c.code = cc ∧ c.maxLocals = nL ∧ s.vm.findClass own = some m.cls ∧ (∀ w ∈ UW, w.before args s = true) ∧ meth.locks = false ∧ va_K D vwCl (tysL cid) s ∧ Tb A s s.heap ∧ AOs s ∧ ∀ q : Nat, s.heap.size ≤ q → A q
def Dk (D : va_G) (A : Nat → Prop) (s : State) (ws : va_W) (H : Heap) (locs : List Loc) : Prop := va_P D vwCl ws H ∧ va_D A ws ∧ va_S A s.heap H locs
/-- cells as at the end, but those told otherwise -/
def zc (cid : Nat → ClassId) (ad : Nat → Nat) (ov : Nat → Option va_E) : Nat → va_E := fun j => (ov j).getD (wc cid ad j)
theorem zc_s {cid : Nat → ClassId} {ad : Nat → Nat} {ov : Nat → Option va_E} {j : Nat} {e : va_E} (h : ov j = some e) : zc cid ad ov j = e := by unfold zc; rw [h]; rfl
theorem zc_n {cid : Nat → ClassId} {ad : Nat → Nat} {ov : Nat → Option va_E} {j : Nat} (h : ov j = none) : zc cid ad ov j = wc cid ad j := by unfold zc; rw [h]; rfl
def Dz (D : va_G) (cid : Nat → ClassId) (A : Nat → Prop) (s : State) (k n : Nat) (ad : Nat → Nat) (ov : Nat → Option va_E) (H : Heap) (locs : List Loc) : Prop :=
  Dk D A s (wr k n ad (zc cid ad ov)) H locs ∧ (∀ j, k ≤ j → j < k + n → ov j = none → ∀ c ∈ kids j, c < k + n) ∧ ∀ j, k + n ≤ j → ov j = none
def PreK (D : va_G) (cid : Nat → ClassId) (q0 ci : Nat) (fs : List Value) (sz : Nat) (U : State) : Prop :=
  U.heap.size = sz ∧ va_P D vwCl [(q0, .inr (ci, fs))] U.heap ∧ va_K D vwCl (tysL cid) U ∧ va_D (fun _ => True) [(q0, .inr (ci, fs))] ∧ Tb (va_A [(q0, .inr (ci, fs))] sz) U U.heap ∧ AOs U
/-- a constructor's contract: of the object k, blank at q0, it makes the m cells from k on as M0, L0 tell -/
def Ctr (l : Launch) (y : MethodName) (bytes : ByteArray) (maxL : Nat) (rm : Room) (ci : Nat) (fs : List Value) (k m mc ms : Nat) : Prop :=
  ∀ (D : va_G) (cid : Nat → ClassId) (q0 sz : Nat), Met l y (.code y bytes maxL none :: UW) rm (va_Pc [.ref q0] (PreK D cid q0 ci fs sz)) (va_Qv (fun ad : Nat → Nat => ad k = q0) (fun ad t => va_P D vwCl (wr k m ad (wc cid ad)) t.heap ∧ va_D (va_A [(q0, .inr (ci, fs))] sz) (wr k m ad (wc cid ad))) (va_A [(q0, .inr (ci, fs))] sz)) mc ms (va_A [(q0, .inr (ci, fs))] sz)
theorem PreK.blind {D : va_G} {cid : Nat → ClassId} {q0 ci : Nat} {fs : List Value} {sz : Nat} {As : List Value} : FrameBlind (va_Pc As (PreK D cid q0 ci fs sz)) := fun a U g mk q => by
  obtain ⟨h0, h1, h2, h3, h4, h5, h6⟩ := q
  exact ⟨h0, h1, h2, va_K.moved (u := U) (U := U.calling g mk a) (Vm.Alike.refl U.vm) h3, h4, ⟨h5.1.moved (Vm.Alike.refl U.vm) (fun _ _ _ => rfl), h5.2.1.moved (Vm.Alike.refl U.vm) (fun _ _ _ => rfl), h5.2.2.1.moved (Vm.Alike.refl U.vm) (fun _ _ _ => rfl), h5.2.2.2⟩, AOs.moved (u := U) (U := U.calling g mk a) (Vm.Alike.refl U.vm) h6⟩
section ZR
variable {p : Program} {l : Launch} {e : Env} {R : Room} {s : State} {m : MethodId} {args : Array Value} {below : List Frame} {meth : Method} {c : Code} {H : Heap} {locs : List Loc} {cells slots : Nat} {Q : State → Prop}
variable {cc : ByteArray} {nL : Nat} {own : String} {pc : Nat} {ls : Array Slot} {rest : List Value} {D : va_G} {cid : Nat → ClassId} {A : Nat → Prop} {k n : Nat} {ad : Nat → Nat} {ov : Nat → Option va_E}
theorem Kx.uw (S : Kx D cid A p s m args meth c cc nL own) {w : Cond} (h : w ∈ UW) : w.before args s = true := S.2.2.2.2.1 w h
theorem Kx.K (S : Kx D cid A p s m args meth c cc nL own) : va_K D vwCl (tysL cid) s := S.2.2.2.2.2.2.1
theorem Kx.hA (S : Kx D cid A p s m args meth c cc nL own) : ∀ q : Nat, s.heap.size ≤ q → A q := S.2.2.2.2.2.2.2.2.2
theorem Kx.id_of (S : Kx D cid A p s m args meth c cc nL own) {i : Nat} {cA : ClassId} {ty : FieldType} (hi : (tysL cid)[i]? = some (cid i, ty)) (hK : va_K D vwCl (tysL cid ++ [(cA, ty)]) s) : cA = cid i :=
  RA_inj (hK.2 8 (cA, ty) rfl).2 (S.K.2 i (cid i, ty) hi).2
/-- objInit -/
theorem k_obj (S : Kx D cid A p s m args meth c cc nL own) {lv : List (Nat × Value)} (hls : lv_has ls nL lv) {a idx : Nat} (h1 : (.methodLink own idx Lib.objectInit : Cond) ∈ UW) (hd : decode cc pc = .ok (.invokespecial idx, 3)) (hfr : 1 ≤ R.frames ∧ (rest.map fun v => v.category).sum + 12 ≤ R.locals) (kk : W p l e R s m args below meth c H locs cells slots Q (F0 m (pc + 3) ls rest)) : W p l e R s m args below meth c H locs cells slots Q (F0 m pc ls (.ref a :: rest)) := by
  refine W.objInit S.1 S.2.1 S.2.2.2.1 (S.uw h1) (S.uw im_objectInit) (S.uw co_objectInit) rfl (by rw [S.2.2.1]; exact hls.1) rfl hd hfr.1 (by show 2 * 0 + _ + 12 ≤ _; omega) ?_
  exact W.eq (g2 := F0 m (pc + 3) ls rest) rfl kk
/-- the world is told in another way -/
theorem Dz.re (d : Dz D cid A s k n ad ov H locs) {ov' : Nat → Option va_E} (h : ∀ j, k ≤ j → j < k + n → zc cid ad ov j = zc cid ad ov' j) (h2 : ∀ j, k ≤ j → j < k + n → ov' j = none → ∀ c ∈ kids j, c < k + n) (h3 : ∀ j, k + n ≤ j → ov' j = none) : Dz D cid A s k n ad ov' H locs := by
  refine ⟨?_, h2, h3⟩
  have e := wr_ext (k := k) (n := n) (ad := ad) (ad' := ad) (cl := zc cid ad ov) (cl' := zc cid ad ov') (fun j a b => ⟨rfl, h j a b⟩)
  rw [← e]
  exact d.1
/-- a cell's own tale dropped, where it is as at the end -/
theorem Dz.drop (d : Dz D cid A s k n ad ov H locs) {j : Nat} {x : va_E} (hx : ov j = some x) (he : x = wc cid ad j) (hk : ∀ c ∈ kids j, c < k + n) : Dz D cid A s k n ad (va_up ov j none) H locs := by
  refine d.re (fun i a b => ?_) (fun i a b h => ?_) (fun i a => ?_)
  · by_cases z : i = j
    · subst z
      rw [zc_s hx, zc_n (va_up_self _ _ _)]
      exact he
    · unfold zc
      rw [va_up_ne _ _ z]
  · by_cases z : i = j
    · subst z; exact hk
    · rw [va_up_ne _ _ z] at h
      exact d.2.1 i a b h
  · by_cases z : i = j
    · subst z; exact va_up_self _ _ _
    · rw [va_up_ne _ _ z]
      exact d.2.2 i a
/-- growth: a new cell t, told by x -/
theorem Dz.grow {ad' : Nat → Nat} {x : va_E} {q : Nat} {H1 : Heap} (d : Dz D cid A s k n ad ov H locs) (hP : va_P D vwCl (wr k n ad (zc cid ad ov) ++ [(q, x)]) H1) (hD : va_D A (wr k n ad (zc cid ad ov) ++ [(q, x)])) (hS : va_S A s.heap H1 locs) (ha : ∀ j, j < k + n → ad' j = ad j) (hq : ad' (k + n) = q) : Dz D cid A s k (n + 1) ad' (va_up ov (k + n) (some x)) H1 locs := by
  have e := wr_push (k := k) (n := n) (ad := ad) (ad' := ad') (cl := zc cid ad ov) (cl' := zc cid ad' (va_up ov (k + n) (some x))) (q := q) (e := x) (fun j a b => ⟨ha j b, by
    unfold zc
    rw [va_up_ne _ _ (by omega)]
    cases h : ov j with
    | some y => rfl
    | none => exact wcell_cg (fun c hc => ha c (d.2.1 j a b h c hc))⟩) hq (zc_s (va_up_self _ _ _))
  rw [e] at hP hD
  refine ⟨⟨hP, hD, hS⟩, fun j a b h => ?_, fun j a => ?_⟩
  · by_cases z : j = k + n
    · subst z; rw [va_up_self] at h; cases h
    · rw [va_up_ne _ _ z] at h
      intro c hc
      have := d.2.1 j a (by omega) h c hc
      omega
  · rw [va_up_ne _ _ (by omega)]
    exact d.2.2 j (by omega)
theorem z_newa {atype : ArrayType} {ty : FieldType} {i N' : Nat} {a0 : vp_A} {x : Int32} (S : Kx D cid A p s m args meth c cc nL own) (d : Dz D cid A s k n ad ov H locs) (harr : (.arrayClass (newarray.typeOf atype) : Cond) ∈ UW) (hty : newarray.typeOf atype = ty) (hi : (tysL cid)[i]? = some (cid i, ty)) (ha : ∀ cA : ClassId, vp_cell cA a0 = arrV cA N' (fun _ => defaultValue ty)) (hn : ¬ x < 0) (hN : x.toNatClampNeg = N') (hby : N' * componentBytes ty ≤ 536870912) (hr : cells + 1 ≤ R.cells ∧ slots + N' ≤ R.slots) (hd : decode cc pc = .ok (.newarray atype, 2))
    (kk : ∀ (q : Nat) (ad' : Nat → Nat) (H1 : Heap), (∀ j, j < k + n → ad' j = ad j) → ad' (k + n) = q → Dz D cid A s k (n + 1) ad' (va_up ov (k + n) (some (.inl (cid i, a0)))) H1 locs → W p l e R s m args below meth c H1 locs (cells + 1) (slots + N') Q (F0 m (pc + 2) ls (.ref q :: rest))) : W p l e R s m args below meth c H locs cells slots Q (F0 m pc ls (.int x :: rest)) := by
  refine va_newa S.1 S.2.1 (S.uw harr) hty S.K d.1.1 d.1.2.1 d.1.2.2 S.hA ha hn hN hby hr.1 hr.2 hd (fun q cA H1 hK hP hD hS => ?_)
  have hc := S.id_of hi hK
  subst hc
  exact kk q (va_up ad (k + n) q) H1 (fun j hj => va_up_ne _ _ (by omega)) (va_up_self _ _ _) (d.grow hP hD hS (fun j hj => va_up_ne _ _ (by omega)) (va_up_self _ _ _))
theorem z_newq {C : String} {i N' idx : Nat} {x : Int32} (S : Kx D cid A p s m args meth c cc nL own) (d : Dz D cid A s k n ad ov H locs) (hcl : (.classLink own idx C : Cond) ∈ UW) (hov : va_AO C s) (hi : (tysL cid)[i]? = some (cid i, .object C)) (hn : ¬ x < 0) (hN : x.toNatClampNeg = N') (hby : N' * 4 ≤ 536870912) (hr : cells + 1 ≤ R.cells ∧ slots + N' ≤ R.slots) (hd : decode cc pc = .ok (.anewarray idx, 3))
    (kk : ∀ (q : Nat) (ad' : Nat → Nat) (H1 : Heap), (∀ j, j < k + n → ad' j = ad j) → ad' (k + n) = q → Dz D cid A s k (n + 1) ad' (va_up ov (k + n) (some (.inl (cid i, N', .inr (.inr (.inr (.inr (fun _ => none)))))))) H1 locs → W p l e R s m args below meth c H1 locs (cells + 1) (slots + N') Q (F0 m (pc + 3) ls (.ref q :: rest))) : W p l e R s m args below meth c H locs cells slots Q (F0 m pc ls (.int x :: rest)) := by
  refine va_newq S.1 S.2.1 S.2.2.2.1 (S.uw hcl) hov S.K d.1.1 d.1.2.1 d.1.2.2 S.hA hn hN hby hr.1 hr.2 hd (fun q cA H1 hK hP hD hS => ?_)
  have hc := S.id_of hi hK
  subst hc
  exact kk q (va_up ad (k + n) q) H1 (fun j hj => va_up_ne _ _ (by omega)) (va_up_self _ _ _) (d.grow hP hD hS (fun j hj => va_up_ne _ _ (by omega)) (va_up_self _ _ _))
theorem z_new {C : String} {T : u_T} {N ci idx : Nat} {ty : Nat → FieldType} {fs : List Value} (S : Kx D cid A p s m args meth c cc nL own) (d : Dz D cid A s k n ad ov H locs) (hin : ∀ w ∈ u_ws C T N, w ∈ UW) (hty : ∀ k, k < N → parseFieldDescriptor (T k).2.2.1 = some (ty k)) (hcl : (.classLink own idx C : Cond) ∈ UW) (hit : (.instantiable C N : Cond) ∈ UW) (hini : (.initialized C : Cond) ∈ UW) (hc : vwCl[ci]? = some (C, T, N)) (hfs : ∀ j, j < N → defaultValue (ty j) = vp_V fs j) (hr : cells + 1 ≤ R.cells ∧ slots + N ≤ R.slots) (hd : decode cc pc = .ok (.new idx, 3))
    (kk : ∀ (q : Nat) (ad' : Nat → Nat) (H1 : Heap), (∀ j, j < k + n → ad' j = ad j) → ad' (k + n) = q → Dz D cid A s k (n + 1) ad' (va_up ov (k + n) (some (.inr (ci, fs)))) H1 locs → W p l e R s m args below meth c H1 locs (cells + 1) (slots + N) Q (F0 m (pc + 3) ls (.ref q :: rest))) : W p l e R s m args below meth c H locs cells slots Q (F0 m pc ls rest) := by
  refine va_new S.1 S.2.1 S.2.2.2.2.1 hin ty hty S.2.2.2.1 (S.uw hcl) (S.uw hit) (S.uw hini) S.K d.1.1 d.1.2.1 d.1.2.2 S.hA hc hfs hr.1 hr.2 hd (fun q H1 hP hD hS => ?_)
  exact kk q (va_up ad (k + n) q) H1 (fun j hj => va_up_ne _ _ (by omega)) (va_up_self _ _ _) (d.grow hP hD hS (fun j hj => va_up_ne _ _ (by omega)) (va_up_self _ _ _))
/-- a cell told anew -/
theorem Dz.set {j : Nat} {x y : va_E} {H1 : Heap} {locs1 : List Loc} (d : Dz D cid A s k n ad ov H locs) (hj : k ≤ j ∧ j < k + n) (hx : ov j = some x) (hP : va_P D vwCl ((wr k n ad (zc cid ad ov)).set (j - k) (ad j, y)) H1) (hD : va_D A ((wr k n ad (zc cid ad ov)).set (j - k) (ad j, y))) (hS : va_S A s.heap H1 locs1) : Dz D cid A s k n ad (va_up ov j (some y)) H1 locs1 := by
  have e := wr_set (k := k) (n := n) (j := j) (ad := ad) (cl := zc cid ad ov) (cl' := zc cid ad (va_up ov j (some y))) (e := y) hj.1 hj.2 (fun i a b => by
    by_cases z : i = j
    · subst z; rw [if_pos rfl, zc_s (va_up_self _ _ _)]
    · rw [if_neg z]; unfold zc; rw [va_up_ne _ _ z])
  rw [e] at hP hD
  refine ⟨⟨hP, hD, hS⟩, fun i a b h => ?_, fun i a => ?_⟩
  · by_cases z : i = j
    · subst z; rw [va_up_self] at h; cases h
    · rw [va_up_ne _ _ z] at h
      exact d.2.1 i a b h
  · rw [va_up_ne _ _ (by omega)]
    exact d.2.2 i a
theorem Dz.at' {j : Nat} {x : va_E} (d : Dz D cid A s k n ad ov H locs) (hj : k ≤ j ∧ j < k + n) (hx : zc cid ad ov j = x) : (wr k n ad (zc cid ad ov))[j - k]? = some (ad j, x) := by rw [wr_get hj.1 hj.2, hx]
theorem z_put {j f idx N ci : Nat} {C : String} {T : u_T} {ty0 : Nat → FieldType} {ty : FieldType} {fs : List Value} {v : Value} (S : Kx D cid A p s m args meth c cc nL own) (d : Dz D cid A s k n ad ov H locs) (hj : k ≤ j ∧ j < k + n) (hx : ov j = some (.inr (ci, fs))) (hc : vwCl[ci]? = some (C, T, N)) (hin : ∀ w ∈ u_ws C T N, w ∈ UW) (hty : ∀ k, k < N → parseFieldDescriptor (T k).2.2.1 = some (ty0 k)) (hnm : ∀ a, a < N → ∀ b, b < N → a ≠ b → (T a).2.1 ≠ (T b).2.1) (hf : f < N) (hl : (.fieldLink own idx (T f).1 (T f).2.1 (T f).2.2.1 : Cond) ∈ UW) (hfin : (T f).2.2.2 = false) (hpd : parseFieldDescriptor (T f).2.2.1 = some ty) (hn : narrow ty v = v) (hfit : fits ty v = true) (hlen : f < fs.length) (hd : decode cc pc = .ok (.putfield idx, 3)) {a : Nat} (ha : a = ad j)
    (kk : ∀ (H1 : Heap) (locs1 : List Loc), Dz D cid A s k n ad (va_up ov j (some (.inr (ci, fs.set f v)))) H1 locs1 → W p l e R s m args below meth c H1 locs1 cells slots Q (F0 m (pc + 3) ls rest)) : W p l e R s m args below meth c H locs cells slots Q (F0 m pc ls (v :: .ref a :: rest)) := by
  subst ha
  refine va_put S.1 S.2.1 S.2.2.2.2.1 hin ty0 hty hnm S.2.2.2.1 S.K d.1.1 d.1.2.1 d.1.2.2 (j - k) (d.at' hj (zc_s hx)) hc f hf (S.uw hl) (fun _ h => h) hfin hpd hn hfit hlen hd (fun H1 locs1 hP hD hS => ?_)
  exact kk H1 locs1 (d.set hj hx hP hD hS)
theorem z_putF {j f idx N ci : Nat} {C : String} {T : u_T} {ty0 : Nat → FieldType} {ty : FieldType} {fs : List Value} {v : Value} (S : Kx D cid A p s m args meth c cc nL own) (hnam : meth.name = "<init>") (d : Dz D cid A s k n ad ov H locs) (hj : k ≤ j ∧ j < k + n) (hx : ov j = some (.inr (ci, fs))) (hc : vwCl[ci]? = some (C, T, N)) (hin : ∀ w ∈ u_ws C T N, w ∈ UW) (hty : ∀ k, k < N → parseFieldDescriptor (T k).2.2.1 = some (ty0 k)) (hnm : ∀ a, a < N → ∀ b, b < N → a ≠ b → (T a).2.1 ≠ (T b).2.1) (hf : f < N) (hl : (.fieldLink own idx (T f).1 (T f).2.1 (T f).2.2.1 : Cond) ∈ UW) (hfin : (T f).2.2.2 = true) (hdecl : (T f).1 = own) (hpd : parseFieldDescriptor (T f).2.2.1 = some ty) (hn : narrow ty v = v) (hfit : fits ty v = true) (hlen : f < fs.length) (hd : decode cc pc = .ok (.putfield idx, 3)) {a : Nat} (ha : a = ad j)
    (kk : ∀ (H1 : Heap) (locs1 : List Loc), Dz D cid A s k n ad (va_up ov j (some (.inr (ci, fs.set f v)))) H1 locs1 → W p l e R s m args below meth c H1 locs1 cells slots Q (F0 m (pc + 3) ls rest)) : W p l e R s m args below meth c H locs cells slots Q (F0 m pc ls (v :: .ref a :: rest)) := by
  subst ha
  refine va_putF S.1 S.2.1 S.2.2.2.2.1 hin ty0 hty hnm S.2.2.2.1 S.K d.1.1 d.1.2.1 d.1.2.2 (j - k) (d.at' hj (zc_s hx)) hc f hf (S.uw hl) (fun _ h => h) hfin hnam hdecl hpd hn hfit hlen hd (fun H1 locs1 hP hD hS => ?_)
  exact kk H1 locs1 (d.set hj hx hP hD hS)
theorem z_get {j f idx N ci : Nat} {C : String} {T : u_T} {fs : List Value} {v : Value} (S : Kx D cid A p s m args meth c cc nL own) (d : Dz D cid A s k n ad ov H locs) (hj : k ≤ j ∧ j < k + n) (hx : ov j = some (.inr (ci, fs))) (hc : vwCl[ci]? = some (C, T, N)) (hin : ∀ w ∈ u_ws C T N, w ∈ UW) (hf : f < N) (hl : (.fieldLink own idx (T f).1 (T f).2.1 (T f).2.2.1 : Cond) ∈ UW) (hv : fs[f]? = some v) (hd : decode cc pc = .ok (.getfield idx, 3)) {a : Nat} (ha : a = ad j)
    (kk : W p l e R s m args below meth c H locs cells slots Q (F0 m (pc + 3) ls (v :: rest))) : W p l e R s m args below meth c H locs cells slots Q (F0 m pc ls (.ref a :: rest)) := by
  subst ha
  exact va_get S.1 S.2.1 S.2.2.2.2.1 hin S.2.2.2.1 S.K d.1.1 (j - k) (d.at' hj (zc_s hx)) hc f hf (S.uw hl) (fun _ h => h) hv hd kk
theorem z_aast {j t0 jk ci i0 N' : Nat} {C : String} {T : u_T} {N : Nat} {vs : List Value} {f : Nat → Option Nat} {i : Int32} (S : Kx D cid A p s m args meth c cc nL own) (d : Dz D cid A s k n ad ov H locs) (hj : k ≤ j ∧ j < k + n) (hx : ov j = some (.inl (cid t0, N', .inr (.inr (.inr (.inr f)))))) (ht : (tysL cid)[t0]? = some (cid t0, .object C)) (hjk : k ≤ jk ∧ jk < k + n) (hv : zc cid ad ov jk = .inr (ci, vs)) (hc : vwCl[ci]? = some (C, T, N)) (hi : i = nI i0) (hlt : i0 < N') (hb : i0 < 1000) (hd : decode cc pc = .ok (.aastore, 1)) {a v : Nat} (ha : a = ad j) (hav : v = ad jk)
    (kk : ∀ (H1 : Heap) (locs1 : List Loc), Dz D cid A s k n ad (va_up ov j (some (.inl (cid t0, N', .inr (.inr (.inr (.inr (va_up f i0 (some v)))))))))  H1 locs1 → W p l e R s m args below meth c H1 locs1 cells slots Q (F0 m (pc + 1) ls rest)) : W p l e R s m args below meth c H locs cells slots Q (F0 m pc ls (.ref v :: .int i :: .ref a :: rest)) := by
  subst ha
  subst hav
  subst hi
  refine va_astq S.1 S.2.1 S.K d.1.1 d.1.2.1 d.1.2.2 (j - k) t0 (jk - k) ci (r := (C, T, N)) (d.at' hj (zc_s hx)) ht (d.at' hjk hv) hc (inb_vp (q_ib (by omega) hlt)) hd (fun H1 locs1 hP hD hS => ?_)
  rw [q_cl (by omega)] at hP hD
  exact kk H1 locs1 (d.set hj hx hP hD hS)
theorem z_iast {j N' i0 : Nat} {f : Nat → Int32} {i x : Int32} (S : Kx D cid A p s m args meth c cc nL own) (d : Dz D cid A s k n ad ov H locs) (hj : k ≤ j ∧ j < k + n) (hx : ov j = some (.inl (cid 0, N', .inl f))) (hi : i = nI i0) (hlt : i0 < N') (hb : i0 < 1000) (hd : decode cc pc = .ok (.iastore, 1)) {a : Nat} (ha : a = ad j)
    (kk : ∀ (H1 : Heap) (locs1 : List Loc), Dz D cid A s k n ad (va_up ov j (some (.inl (cid 0, N', .inl (upd f i0 x))))) H1 locs1 → W p l e R s m args below meth c H1 locs1 cells slots Q (F0 m (pc + 1) ls rest)) : W p l e R s m args below meth c H locs cells slots Q (F0 m pc ls (.int x :: .int i :: .ref a :: rest)) := by
  subst ha
  subst hi
  refine va_iast S.1 S.2.1 S.K d.1.1 d.1.2.1 d.1.2.2 (j - k) 0 (d.at' hj (zc_s hx)) rfl (inb_vp (q_ib (by omega) hlt)) hd (fun H1 locs1 hP hD hS => ?_)
  rw [q_cl (by omega)] at hP hD
  exact kk H1 locs1 (d.set hj hx hP hD hS)
theorem z_last {j N' i0 : Nat} {f : Nat → Int64} {i : Int32} {x : Int64} (S : Kx D cid A p s m args meth c cc nL own) (d : Dz D cid A s k n ad ov H locs) (hj : k ≤ j ∧ j < k + n) (hx : ov j = some (.inl (cid 2, N', .inr (.inl f)))) (hi : i = nI i0) (hlt : i0 < N') (hb : i0 < 1000) (hd : decode cc pc = .ok (.lastore, 1)) {a : Nat} (ha : a = ad j)
    (kk : ∀ (H1 : Heap) (locs1 : List Loc), Dz D cid A s k n ad (va_up ov j (some (.inl (cid 2, N', .inr (.inl (vp_updL f i0 x)))))) H1 locs1 → W p l e R s m args below meth c H1 locs1 cells slots Q (F0 m (pc + 1) ls rest)) : W p l e R s m args below meth c H locs cells slots Q (F0 m pc ls (.long x :: .int i :: .ref a :: rest)) := by
  subst ha
  subst hi
  refine va_last S.1 S.2.1 S.K d.1.1 d.1.2.1 d.1.2.2 (j - k) 2 (d.at' hj (zc_s hx)) rfl (inb_vp (q_ib (by omega) hlt)) hd (fun H1 locs1 hP hD hS => ?_)
  rw [q_cl (by omega)] at hP hD
  exact kk H1 locs1 (d.set hj hx hP hD hS)
theorem z_lald {j N' i0 : Nat} {f : Nat → Int64} {i : Int32} (S : Kx D cid A p s m args meth c cc nL own) (d : Dz D cid A s k n ad ov H locs) (hj : k ≤ j ∧ j < k + n) (hx : ov j = some (.inl (cid 2, N', .inr (.inl f)))) (hi : i = nI i0) (hlt : i0 < N') (hb : i0 < 1000) (hd : decode cc pc = .ok (.laload, 1)) {a : Nat} (ha : a = ad j)
    (kk : W p l e R s m args below meth c H locs cells slots Q (F0 m (pc + 1) ls (.long (f i0) :: rest))) : W p l e R s m args below meth c H locs cells slots Q (F0 m pc ls (.int i :: .ref a :: rest)) := by
  subst ha
  subst hi
  refine va_lald S.1 S.2.1 S.K d.1.1 (j - k) 2 (d.at' hj (zc_s hx)) rfl (inb_vp (q_ib (by omega) hlt)) hd ?_
  rw [q_cl (by omega)]
  exact kk
theorem z_aald {j t0 N' i0 b : Nat} {ty : FieldType} {f : Nat → Option Nat} {i : Int32} (S : Kx D cid A p s m args meth c cc nL own) (d : Dz D cid A s k n ad ov H locs) (hj : k ≤ j ∧ j < k + n) (hx : zc cid ad ov j = .inl (cid t0, N', .inr (.inr (.inr (.inr f))))) (ht : (tysL cid)[t0]? = some (cid t0, ty)) (hr : ty.isReference = true) (hi : i = nI i0) (hlt : i0 < N') (hbb : i0 < 1000) (hb : f i0 = some b) (hd : decode cc pc = .ok (.aaload, 1)) {a : Nat} (ha : a = ad j)
    (kk : W p l e R s m args below meth c H locs cells slots Q (F0 m (pc + 1) ls (.ref b :: rest))) : W p l e R s m args below meth c H locs cells slots Q (F0 m pc ls (.int i :: .ref a :: rest)) := by
  subst ha
  subst hi
  have hq := d.at' hj hx
  have hin : inb (nI i0) N' = true := q_ib (by omega) hlt
  refine W.aald (v := .ref b) (ty := ty) S.1 S.2.1 (d.1.1 (j - k) _ hq) ((S.K.2 t0 _ ht).1 N' (fun j => va_rf (f j))) hr (fun q => by cases q) (by show ¬ ((nI i0 : Int32) < 0 ∨ (arrV _ _ _).slots.size ≤ _); rw [arrV_size]; exact inb_vp hin) (by show (arrV _ _ _).slots[_]? = _; rw [arrV_read _ _ (by rw [q_cl (by omega)]; exact hlt), q_cl (by omega), hb]; rfl) rfl rfl hd kk
end ZR
