theorem wr_front {k n : Nat} {ad : Nat → Nat} {cl : Nat → va_E} : (List.range n).map (fun i => (wr k (n + 1) ad cl)[i]?) = (wr k n ad cl).map some := by
  unfold wr
  rw [List.map_map]
  apply List.map_congr_left
  intro i hi
  have := List.mem_range.mp hi
  exact wr_at (by omega)
section ZC
variable {p : Program} {l : Launch} {e : Env} {R : Room} {s : State} {m : MethodId} {args : Array Value} {below : List Frame} {meth : Method} {c : Code} {H : Heap} {locs : List Loc} {cells slots : Nat} {Q : State → Prop}
variable {cc : ByteArray} {nL : Nat} {own : String} {pc : Nat} {ls : Array Slot} {rest : List Value} {D : va_G} {cid : Nat → ClassId} {A : Nat → Prop} {k n : Nat} {ad : Nat → Nat} {ov : Nat → Option va_E}
theorem z_core {t ci w mc ms : Nat} {fs : List Value} {st : List Value} {a : Array Value} (S : Kx D cid A p s m args meth c cc nL own) (d : Dz D cid A s k (n + 1) ad ov H locs) (ht : t = k + n) (hov : ov t = some (.inr (ci, fs))) (hw : 1 ≤ w) (hblk : ∀ j, t ≤ j → j < t + w → ∀ c ∈ kids j, t ≤ c ∧ c < t + w)
    (hrun : va_Run p l e R s m args below meth c H locs cells slots mc ms (F0 m pc ls st) rest (va_Qv (fun ad1 : Nat → Nat => ad1 t = ad t) (fun ad1 u => va_P D vwCl (wr t w ad1 (wc cid ad1)) u.heap ∧ va_D (va_A [(ad t, .inr (ci, fs))] H.size) (wr t w ad1 (wc cid ad1))) (va_A [(ad t, .inr (ci, fs))] H.size) a) (va_A [(ad t, .inr (ci, fs))] H.size))
    (kk : ∀ (ad' : Nat → Nat) (H1 : Heap) (locs1 : List Loc), (∀ j, j ≤ t → ad' j = ad j) → Dz D cid A s k (n + w) ad' (va_up ov t none) H1 locs1 → W p l e R s m args below meth c H1 locs1 (cells + mc) (slots + ms) Q (F0 m (pc + 3) ls rest)) : W p l e R s m args below meth c H locs cells slots Q (F0 m pc ls st) := by
  subst ht
  have hat : (wr k (n + 1) ad (zc cid ad ov))[n]? = some (ad (k + n), .inr (ci, fs)) := by rw [wr_at (by omega), zc_s hov]
  have hC0 : ([n] : List Nat).map (fun i => (wr k (n + 1) ad (zc cid ad ov))[i]?) = ([(ad (k + n), .inr (ci, fs))] : va_W).map some := by
    exact congrArg (fun x => [x]) hat
  have hFc := va_free (wc := [(ad (k + n), .inr (ci, fs))]) d.1.2.1 d.1.2.2 S.hA [n] hC0
  refine va_callv hrun d.1.2.2 (fun q _ h => hFc q h) hFc (fun ad1 u H1 locs1 hu hvm hp hB hz1 hk1 hS1 => ?_)
  obtain ⟨hP1, hD1⟩ := hB
  rw [hu] at hP1
  obtain ⟨hP, hD⟩ := va_join (wr := wr k n ad (zc cid ad ov)) (w1 := wr (k + n) w ad1 (wc cid ad1)) d.1.1 d.1.2.1 [n] (List.range n) hC0 wr_front (nd_r n) (fun i hi h => by
    have := List.mem_range.mp hi
    simp at h
    omega) hk1 hFc hP1 hD1
  have hp' : ad1 (k + n) = ad (k + n) := hp
  have ead : ∀ j, j < k + n + 1 → (fun j => if j < k + n then ad j else ad1 j) j = ad j := fun j hj => by
    show (if j < k + n then ad j else ad1 j) = ad j
    by_cases z : j < k + n
    · rw [if_pos z]
    · rw [if_neg z, show j = k + n by omega]; exact hp
  have ov_n : ∀ j, k + n ≤ j → va_up ov (k + n) none j = none := fun j hj => by
    by_cases z : j = k + n
    · subst z; exact va_up_self _ _ _
    · rw [va_up_ne _ _ z]; exact d.2.2 j (by omega)
  have ew := wr_app (k := k) (n := n) (m := w) (ad := ad) (ad' := fun j => if j < k + n then ad j else ad1 j) (cl := zc cid ad ov) (cl' := zc cid (fun j => if j < k + n then ad j else ad1 j) (va_up ov (k + n) none)) (ad1 := ad1) (cl1 := wc cid ad1) (fun j a b => ⟨if_pos b, by
    unfold zc
    rw [va_up_ne _ _ (by omega)]
    cases h : ov j with
    | some y => rfl
    | none => exact wcell_cg (fun c hc => ead c (d.2.1 j a (by omega) h c hc))⟩) (fun j a b => ⟨if_neg (by omega), by
    rw [zc_n (ov_n j a)]
    exact wcell_cg (fun c hc => if_neg (by have := hblk j a b c hc; omega))⟩)
  rw [ew] at hP hD
  refine kk _ H1 locs1 (fun j hj => ead j (by omega)) ⟨⟨hP, hD, hS1⟩, fun j a b h c hc => ?_, fun j a => ov_n j (by omega)⟩
  by_cases z : j < k + n
  · rw [va_up_ne _ _ (by omega)] at h
    have := d.2.1 j a (by omega) h c hc
    omega
  · have := hblk j (by omega) (by omega) c hc
    omega
theorem z_pre {t ci : Nat} {fs : List Value} (S : Kx D cid A p s m args meth c cc nL own) (d : Dz D cid A s k (n + 1) ad ov H locs) (ht : t = k + n) (hov : ov t = some (.inr (ci, fs))) : PreS s H (va_Pc [.ref (ad t)] (PreK D cid (ad t) ci fs H.size)) [.ref (ad t)] := by
  subst ht
  have hat : (wr k (n + 1) ad (zc cid ad ov))[n]? = some (ad (k + n), .inr (ci, fs)) := by rw [wr_at (by omega), zc_s hov]
  have hC0 : ([n] : List Nat).map (fun i => (wr k (n + 1) ad (zc cid ad ov))[i]?) = ([(ad (k + n), .inr (ci, fs))] : va_W).map some := by
    exact congrArg (fun x => [x]) hat
  have hFc := va_free (wc := [(ad (k + n), .inr (ci, fs))]) d.1.2.1 d.1.2.2 S.hA [n] hC0
  refine ⟨PreK.blind, fun U hU hW => ⟨rfl, by rw [hU], ?_, va_K.moved hW.alike S.K, ⟨fun i j x y hi hj _ => ?_, fun _ _ _ => trivial⟩, ?_, S.2.2.2.2.2.2.2.2.1.moved hW.alike⟩⟩
  · rw [hU]
    exact d.1.1.sub [n] (by show List.filterMap _ [n] = _; simp [hat])
  · have h1 := (List.getElem?_eq_some_iff.mp hi).1
    have h2 := (List.getElem?_eq_some_iff.mp hj).1
    simp at h1 h2
    omega
  · rw [hU]
    exact (S.2.2.2.2.2.2.2.1.moved hW d.1.2.2.2.1).narrow hFc
variable {y : MethodName} {bytes : ByteArray} {maxL : Nat} {rm : Room} {t ci w mc ms idx : Nat} {fs : List Value}
theorem z_call {lv : List (Nat × Value)} (S : Kx D cid A p s m args meth c cc nL own) (hls : lv_has ls nL lv) (d : Dz D cid A s k (n + 1) ad ov H locs) (ht : t = k + n) (hC : Ctr l y bytes maxL rm ci fs t w mc ms) (hov : ov t = some (.inr (ci, fs))) (hw : 1 ≤ w) (hblk : ∀ j, t ≤ j → j < t + w → ∀ c ∈ kids j, t ≤ c ∧ c < t + w)
    (hl : (.methodLink own idx y : Cond) ∈ UW) (hini : (.initialized y.cls : Cond) ∈ UW) (him : (.instanceMethod y : Cond) ∈ UW) (hco : (.code y bytes maxL none : Cond) ∈ UW) (hy1 : y.name = "<init>") (hy : y.cls ≠ "java/lang/invoke/MethodHandle" ∧ y.cls ≠ "java/lang/invoke/VarHandle" ∧ (parseMethodDescriptor y.desc).map (fun d => d.parameters.length) = some 0) (hrm : rm.cells = mc ∧ rm.slots = ms) (hR : rm.frames + 1 ≤ R.frames ∧ 8 + (maxL + 11) + rm.locals ≤ R.locals) (hsum : (rest.map fun v => v.category).sum ≤ 8) (hcs : cells + mc ≤ R.cells ∧ slots + ms ≤ R.slots) (hd : decode cc pc = .ok (.invokespecial idx, 3)) {a : Nat} (ha : a = ad t)
    (kk : ∀ (ad' : Nat → Nat) (H1 : Heap) (locs1 : List Loc), (∀ j, j ≤ t → ad' j = ad j) → Dz D cid A s k (n + w) ad' (va_up ov t none) H1 locs1 → W p l e R s m args below meth c H1 locs1 (cells + mc) (slots + ms) Q (F0 m (pc + 3) ls rest)) : W p l e R s m args below meth c H locs cells slots Q (F0 m pc ls (.ref a :: rest)) := by
  subst ha
  exact z_core S d ht hov hw hblk (va_runI (As := []) (rest := rest) ⟨S.1, S.2.1, S.2.2.1, S.2.2.2.1, S.2.2.2.2.1⟩ (hC D cid (ad t) H.size) (cwI 0 S.2.2.2.2.1 (gSn hco) rfl hrm.1 hrm.2 (S.uw hini) (S.uw hl) (S.uw him) hy1 hy hR) (z_pre S d ht hov) rfl rfl hls.1 rfl (lv_room hsum) hd hcs) kk
theorem z_callN {host : String} {lv : List (Nat × Value)} (S : Kx D cid A p s m args meth c cc nL own) (hls : lv_has ls nL lv) (d : Dz D cid A s k (n + 1) ad ov H locs) (ht : t = k + n) (hC : Ctr l y bytes maxL rm ci fs t w mc ms) (hov : ov t = some (.inr (ci, fs))) (hw : 1 ≤ w) (hblk : ∀ j, t ≤ j → j < t + w → ∀ c ∈ kids j, t ≤ c ∧ c < t + w)
    (hl : va_Nw (.methodLinkNest own idx y host) s) (hini : (.initialized y.cls : Cond) ∈ UW) (him : (.instanceMethod y : Cond) ∈ UW) (hco : (.code y bytes maxL none : Cond) ∈ UW) (hy1 : y.name = "<init>") (hy : y.cls ≠ "java/lang/invoke/MethodHandle" ∧ y.cls ≠ "java/lang/invoke/VarHandle" ∧ (parseMethodDescriptor y.desc).map (fun d => d.parameters.length) = some 0) (hrm : rm.cells = mc ∧ rm.slots = ms) (hR : rm.frames + 1 ≤ R.frames ∧ 8 + (maxL + 11) + rm.locals ≤ R.locals) (hsum : (rest.map fun v => v.category).sum ≤ 8) (hcs : cells + mc ≤ R.cells ∧ slots + ms ≤ R.slots) (hd : decode cc pc = .ok (.invokespecial idx, 3)) {a : Nat} (ha : a = ad t)
    (kk : ∀ (ad' : Nat → Nat) (H1 : Heap) (locs1 : List Loc), (∀ j, j ≤ t → ad' j = ad j) → Dz D cid A s k (n + w) ad' (va_up ov t none) H1 locs1 → W p l e R s m args below meth c H1 locs1 (cells + mc) (slots + ms) Q (F0 m (pc + 3) ls rest)) : W p l e R s m args below meth c H locs cells slots Q (F0 m pc ls (.ref a :: rest)) := by
  subst ha
  exact z_core S d ht hov hw hblk (va_runIN (As := []) (rest := rest) ⟨S.1, S.2.1, S.2.2.1, S.2.2.2.1, S.2.2.2.2.1⟩ (hC D cid (ad t) H.size) ⟨va_cnB 0 S.2.2.2.2.1 (gSn hco) rfl hrm.1 hrm.2 hl (S.uw hini) hy hR, hy1, S.uw him⟩ (z_pre S d ht hov) rfl rfl hls.1 rfl (lv_room hsum) hd hcs) kk
/-- the end of a constructor -/
abbrev Zq (D : va_G) (cid : Nat → ClassId) (A : Nat → Prop) (q0 : Nat) (below : List Frame) (args : Array Value) (s : State) (k w mc ms : Nat) : State → Prop := MQ below (va_Qv (fun ad : Nat → Nat => ad k = q0) (fun ad t => va_P D vwCl (wr k w ad (wc cid ad)) t.heap ∧ va_D A (wr k w ad (wc cid ad))) A) args s mc ms A
theorem z_end {q0 : Nat} (S : Kx D cid A p s m args meth c cc nL own) (hr : meth.sig.returnType = none) (d : Dz D cid A s k w ad ov H locs) (hov : ∀ j, k ≤ j → j < k + w → zc cid ad ov j = wc cid ad j) (hq : ad k = q0) (hd : decode cc pc = .ok (.return_, 1)) (hc : cells ≤ mc) (hs : slots ≤ ms) : W p l e R s m args below meth c H locs cells slots (Zq D cid A q0 below args s k w mc ms) (F0 m pc ls []) := by
  refine W.widen (k := mc) (n := ms) hc hs ?_
  have ew := wr_ext (k := k) (n := w) (ad := ad) (ad' := ad) (cl := zc cid ad ov) (cl' := wc cid ad) (fun j a b => ⟨rfl, hov j a b⟩)
  have hP := d.1.1
  have hD := d.1.2.1
  rw [ew] at hP hD
  exact W.vret S.1 S.2.1 hr (fun t ht hW => ⟨⟨ad, rfl, hq, by rw [ht]; exact hP, hD⟩, d.1.2.2.F ht⟩) d.1.2.2.2.2 hd S.2.2.2.2.2.1
end ZC
/-- a constructor's entry -/
theorem z_in {l : Launch} {y : MethodName} {bytes : ByteArray} {maxL : Nat} {rm : Room} {ci : Nat} {fs : List Value} {k w mc ms : Nat} (hy : plainName y.cls = true) (hyn : y.name = "<init>") (hlen : 1 ≤ maxL)
    (h : ∀ (D : va_G) (cid : Nat → ClassId) (A : Nat → Prop) (q0 : Nat) (p : Program) (e : Env) (s : State) (m : MethodId) (args : Array Value) (below : List Frame) (meth : Method) (c : Code), Kx D cid A p s m args meth c bytes maxL y.cls → meth.name = "<init>" → meth.sig.returnType = none → ∀ (ad : Nat → Nat) (ov : Nat → Option va_E), ad k = q0 → ov k = some (.inr (ci, fs)) → (∀ j, j ≠ k → ov j = none) → Dz D cid A s k 1 ad ov s.heap [] → ∀ ls, lv_has ls maxL [(0, .ref q0)] → W p l e rm s m args below meth c s.heap [] 0 0 (Zq D cid A q0 below args s k w mc ms) (F0 m 0 ls [])) : Ctr l y bytes maxL rm ci fs k w mc ms := by
  intro D cid q0 sz
  refine Met.ofW (cc := bytes) (maxL := maxL) (ret := none) hy rfl ?_
  intro p e s m args below meth c s₁ B hml hv
  obtain ⟨rfl, hsz, hP, hK, hD, hT, hAO⟩ := hv
  have hts := atoms_spec (ws := .code y bytes maxL none :: UW) B.pre
  subst hsz
  have hl := lv_entry ([.ref q0]) (n := maxL) hlen
  rw [lg_entry_eq]
  generalize (lg_sl ([.ref q0]) ++ List.replicate (maxL - (lg_sl ([.ref q0])).length) Slot.unset).toArray = ls at hl ⊢
  have hov : (fun j => if j = k then some (.inr (ci, fs)) else none : Nat → Option va_E) k = some (.inr (ci, fs)) := if_pos rfl
  have ew : wr k 1 (fun _ => q0) (zc cid (fun _ => q0) (fun j => if j = k then some (.inr (ci, fs)) else none)) = [(q0, .inr (ci, fs))] := by
    rw [wr_one, zc_s hov]
  refine h D cid (va_A [(q0, .inr (ci, fs))] s.heap.size) q0 p e s m _ below meth c ⟨B.exec, B.bytes, hml, findClass_of_methodNamed B.named, fun w hw => hts w (List.mem_cons_of_mem _ hw), B.notSynchronized, hK, hT, hAO, fun q hq => Or.inr hq⟩ ((name_of_methodNamed B.named B.method).1.trans hyn) B.returns (fun _ => q0) _ rfl hov (fun j hj => if_neg hj) ⟨⟨by rw [ew]; exact hP, by rw [ew]; exact hD.self, va_S.rf⟩, fun j a b hn => ?_, fun j a => if_neg (by omega)⟩ ls hl
  have : j = k := by omega
  subst this
  rw [hov] at hn
  cases hn
