/-! worlds of constructors: the cells k .. k+n-1, at the addresses ad, holding cl -/
theorem idx_bare (vm : Vm) (comp : ClassId) : (vm.bare.classes.findIdx? fun (x : Class) => match x.kind with | .array component _ => component == comp | _ => false) = (vm.classes.findIdx? fun (x : Class) => match x.kind with | .array component _ => component == comp | _ => false) := by
  simp only [Vm.bare, Array.findIdx?_map]
  rfl
theorem va_AOA.moved {t : FieldType} {u U : State} (hvm : u.vm.Alike U.vm) (h : va_AOA t u) : va_AOA t U := by
  obtain ⟨comp, c, k, h1, h2, h3, h4, h5⟩ := arrayOverA_spec h
  obtain ⟨k', hk', he⟩ := hvm.2.2 _ _ h3
  have hi : (U.vm.classes.findIdx? fun (x : Class) => match x.kind with | .array component _ => component == comp | _ => false) = some c := by
    rw [← idx_bare]
    first | rw [hvm.bare_eq] | rw [← hvm.bare_eq]
    rw [idx_bare]
    exact h2
  have hkind : k'.kind = .array comp (.array t) := by rw [he]; exact h4
  have f1 : U.vm.findClass (FieldType.array t).toString = some comp := by rw [hvm.findClass]; exact h1
  have f2 : U.vm.findClass ("[" ++ (FieldType.array t).toString) = some c := by rw [hvm.findClass]; exact h5
  unfold va_AOA Cond.before Cond.holds
  simp only [Cond.value]
  rw [f1, Option.bind_some]
  refine (congrArg (fun o : Option Nat => (o.bind (fun c => (U.vm.classes[c]?).map fun (k : Class) => match k.kind with | .array _ ty => decide (ty = FieldType.array t) && decide (U.vm.findClass ("[" ++ (FieldType.array t).toString) = some c) | _ => false) == some true)) hi).trans ?_
  simp [hk', hkind, f2]
theorem RA_inj {U : State} {c1 c2 : ClassId} {ty : FieldType} (h1 : va_RA U c1 ty) (h2 : va_RA U c2 ty) : c1 = c2 := by
  cases ty with
  | object C =>
    obtain ⟨_, _, -, -, -, e1⟩ := h1
    obtain ⟨_, _, -, -, -, e2⟩ := h2
    exact Option.some.inj (e1.symm.trans e2)
  | _ => exact Option.some.inj (h1.symm.trans h2)
def wr (k n : Nat) (ad : Nat → Nat) (cl : Nat → va_E) : va_W := (List.range n).map (fun j => (ad (k + j), cl (k + j)))
section WR
variable {k n m j : Nat} {ad ad' ad1 : Nat → Nat} {cl cl' cl1 : Nat → va_E}
theorem wr_len : (wr k n ad cl).length = n := by simp [wr]
theorem wr_at {i : Nat} (h : i < n) : (wr k n ad cl)[i]? = some (ad (k + i), cl (k + i)) := by
  unfold wr
  rw [List.getElem?_map, List.getElem?_range h]
  rfl
theorem wr_no {i : Nat} (h : n ≤ i) : (wr k n ad cl)[i]? = none := List.getElem?_eq_none (by rw [wr_len]; exact h)
theorem wr_get (h1 : k ≤ j) (h2 : j < k + n) : (wr k n ad cl)[j - k]? = some (ad j, cl j) := by
  rw [wr_at (by omega), show k + (j - k) = j by omega]
theorem wr_ext (h : ∀ j, k ≤ j → j < k + n → ad j = ad' j ∧ cl j = cl' j) : wr k n ad cl = wr k n ad' cl' := by
  unfold wr
  apply List.map_congr_left
  intro i hi
  have := List.mem_range.mp hi
  obtain ⟨h1, h2⟩ := h (k + i) (by omega) (by omega)
  rw [h1, h2]
theorem wr_set {e : va_E} (h1 : k ≤ j) (h2 : j < k + n) (hc : ∀ i, k ≤ i → i < k + n → cl' i = if i = j then e else cl i) : (wr k n ad cl).set (j - k) (ad j, e) = wr k n ad cl' := by
  apply List.ext_getElem?
  intro i
  rw [List.getElem?_set]
  by_cases hi : i < n
  · rw [wr_at (cl := cl') hi, hc (k + i) (by omega) (by omega)]
    by_cases z : j - k = i
    · rw [if_pos z, if_pos (by rw [wr_len]; omega), if_pos (by omega), show k + i = j by omega]
    · rw [if_neg z, wr_at hi, if_neg (by omega)]
  · rw [wr_no (cl := cl') (by omega), wr_no (by omega)]
    by_cases z : j - k = i
    · omega
    · rw [if_neg z]
theorem wr_app (h1 : ∀ j, k ≤ j → j < k + n → ad' j = ad j ∧ cl' j = cl j) (h2 : ∀ j, k + n ≤ j → j < k + n + m → ad' j = ad1 j ∧ cl' j = cl1 j) : wr k n ad cl ++ wr (k + n) m ad1 cl1 = wr k (n + m) ad' cl' := by
  apply List.ext_getElem?
  intro i
  by_cases hi : i < n
  · rw [List.getElem?_append_left (by rw [wr_len]; exact hi), wr_at hi, wr_at (by omega)]
    obtain ⟨a, b⟩ := h1 (k + i) (by omega) (by omega)
    rw [a, b]
  · rw [List.getElem?_append_right (by rw [wr_len]; omega), wr_len]
    by_cases hm : i < n + m
    · rw [wr_at (by omega), wr_at hm, show k + n + (i - n) = k + i by omega]
      obtain ⟨a, b⟩ := h2 (k + i) (by omega) (by omega)
      rw [a, b]
    · rw [wr_no (by omega), wr_no (by omega)]
theorem wr_one : wr k 1 ad cl = [(ad k, cl k)] := rfl
theorem wr_push {q : Nat} {e : va_E} (h1 : ∀ j, k ≤ j → j < k + n → ad' j = ad j ∧ cl' j = cl j) (h2 : ad' (k + n) = q) (h3 : cl' (k + n) = e) : wr k n ad cl ++ [(q, e)] = wr k (n + 1) ad' cl' := by
  have h := wr_app (m := 1) (ad1 := fun _ => q) (cl1 := fun _ => e) h1 (fun j a b => by
    have : j = k + n := by omega
    subst this
    exact ⟨h2, h3⟩)
  exact h
end WR
theorem nd_range : ∀ n a, va_nd ((List.range n).map (fun i => a + i)) = true := by
  intro n
  induction n with
  | zero => intro a; rfl
  | succ n ih =>
    intro a
    rw [List.range_succ_eq_map, List.map_cons, List.map_map]
    show (decide _ && va_nd _) = true
    rw [Bool.and_eq_true]
    refine ⟨decide_eq_true (fun h => ?_), ?_⟩
    · obtain ⟨i, -, hi⟩ := List.mem_map.mp h
      have : a + (i + 1) = a + 0 := hi
      omega
    · have := ih (a + 1)
      have e : (fun i => a + 1 + i) = ((fun i => a + i) ∘ Nat.succ) := by
        funext i
        show a + 1 + i = a + (i + 1)
        omega
      rw [← e]
      exact this
theorem nd_r (n : Nat) : va_nd (List.range n) = true := by
  have h := nd_range n 0
  have e : (List.range n).map (fun i => 0 + i) = List.range n := by simp
  rw [e] at h
  exact h
/-! what a new object's cells hold -/
def M0 : Mem := fun a j =>
  if kd a = 3 then (if j = 1 then 10 else 0)
  else if kd a = 7 then (if j = 0 then -1 else 0)
  else if kd a = 5 then (if j = 3 ∨ j = 4 then -4 else 0)
  else if kd a = 10 ∧ (a = 2 ∨ a = 46) then vFs j
  else if kd a = 21 ∧ a = 184 then vFs j
  else if kd a = 21 ∧ a = 180 then v26 j
  else if kd a = 21 ∧ a = 197 then (if j < 4 then -1 else 0)
  else 0
def L0 : MemL := fun a j => if 104 ≤ a ∧ a < 130 then sN (fun i => decide (lo i (a - 104) = j)) else 0
abbrev wc (cid : Nat → ClassId) (ad : Nat → Nat) : Nat → va_E := wcell cid ad M0 L0
/-- the cells to which a cell refers -/
def kidsK (c k : Nat) : List Nat := match c with
  | 0 => [k + 1, k + 45, k + 89, k + 102, k + 158, k + 170]
  | 1 => [k + 1, k + 2, k + 3, k + 4, k + 5]
  | 2 => [k + 1]
  | 3 => [k + 1]
  | 4 => [k + 1, k + 11, k + 12]
  | 5 => [k + 1, k + 28, k + 55]
  | 6 => [k + 1, k + 2, k + 3]
  | 7 => [k + 1]
  | 13 => (List.range 9).map (fun j => k + 4 + 2 * j)
  | 14 => (List.range 10).map (fun j => k + 21 + 2 * j)
  | 15 => (List.range 4).map (fun j => k + 1 + 2 * j)
  | 16 => (List.range 9).map (fun j => k + 1 + j)
  | 17 => (List.range 4).map (fun j => k + 1 + 2 * j)
  | 18 => (List.range 26).map (fun j => k + 1 + j)
  | 19 => (List.range 26).map (fun j => k + 1 + j)
  | 20 => [k + 1, k + 2, k + 3, k + 4, k + 5, k + 6, k + 7, k + 8, k + 9, k + 10, k + 11, k + 12, k + 13, k + 14, k + 15, k + 16, k + 17, k + 18, k + 19, k + 20]
  | _ => []
def kids (k : Nat) : List Nat := kidsK (kd k) k
theorem rf_congr {ad ad' : Nat → Nat} {n : Nat} {g : Nat → Nat} (h : ∀ c ∈ (List.range n).map g, ad c = ad' c) : (fun j => if j < n then some (ad (g j)) else none) = (fun j => if j < n then some (ad' (g j)) else none) := by
  funext j
  by_cases hj : j < n
  · rw [if_pos hj, if_pos hj, h (g j) (List.mem_map.mpr ⟨j, List.mem_range.mpr hj, rfl⟩)]
  · rw [if_neg hj, if_neg hj]
theorem wcell_cg {cid : Nat → ClassId} {ad ad' : Nat → Nat} {M : Mem} {L : MemL} {k : Nat} (h : ∀ c ∈ kids k, ad c = ad' c) : wcell cid ad M L k = wcell cid ad' M L k := by
  unfold kids at h
  unfold wcell
  generalize kd k = c at h
  match c, h with
  | 0, h =>
    have h0 := h (k + 1) (by simp [kidsK])
    have h1 := h (k + 45) (by simp [kidsK])
    have h2 := h (k + 89) (by simp [kidsK])
    have h3 := h (k + 102) (by simp [kidsK])
    have h4 := h (k + 158) (by simp [kidsK])
    have h5 := h (k + 170) (by simp [kidsK])
    simp only [wcellK, h0, h1, h2, h3, h4, h5]
  | 1, h =>
    have h0 := h (k + 1) (by simp [kidsK])
    have h1 := h (k + 2) (by simp [kidsK])
    have h2 := h (k + 3) (by simp [kidsK])
    have h3 := h (k + 4) (by simp [kidsK])
    have h4 := h (k + 5) (by simp [kidsK])
    simp only [wcellK, h0, h1, h2, h3, h4]
  | 2, h =>
    have h0 := h (k + 1) (by simp [kidsK])
    simp only [wcellK, h0]
  | 3, h =>
    have h0 := h (k + 1) (by simp [kidsK])
    simp only [wcellK, h0]
  | 4, h =>
    have h0 := h (k + 1) (by simp [kidsK])
    have h1 := h (k + 11) (by simp [kidsK])
    have h2 := h (k + 12) (by simp [kidsK])
    simp only [wcellK, h0, h1, h2]
  | 5, h =>
    have h0 := h (k + 1) (by simp [kidsK])
    have h1 := h (k + 28) (by simp [kidsK])
    have h2 := h (k + 55) (by simp [kidsK])
    simp only [wcellK, h0, h1, h2]
  | 6, h =>
    have h0 := h (k + 1) (by simp [kidsK])
    have h1 := h (k + 2) (by simp [kidsK])
    have h2 := h (k + 3) (by simp [kidsK])
    simp only [wcellK, h0, h1, h2]
  | 7, h =>
    have h0 := h (k + 1) (by simp [kidsK])
    simp only [wcellK, h0]
  | 8, _ => rfl
  | 9, _ => rfl
  | 10, _ => rfl
  | 11, _ => rfl
  | 12, _ => rfl
  | 13, h => exact congrArg (fun f : Nat → Option Nat => (Sum.inl (cid 3, 9, .inr (.inr (.inr (.inr f)))) : va_E)) (rf_congr (n := 9) (g := fun j => k + 4 + 2 * j) h)
  | 14, h => exact congrArg (fun f : Nat → Option Nat => (Sum.inl (cid 4, 10, .inr (.inr (.inr (.inr f)))) : va_E)) (rf_congr (n := 10) (g := fun j => k + 21 + 2 * j) h)
  | 15, h => exact congrArg (fun f : Nat → Option Nat => (Sum.inl (cid 4, 4, .inr (.inr (.inr (.inr f)))) : va_E)) (rf_congr (n := 4) (g := fun j => k + 1 + 2 * j) h)
  | 16, h => exact congrArg (fun f : Nat → Option Nat => (Sum.inl (cid 5, 9, .inr (.inr (.inr (.inr f)))) : va_E)) (rf_congr (n := 9) (g := fun j => k + 1 + j) h)
  | 17, h => exact congrArg (fun f : Nat → Option Nat => (Sum.inl (cid 6, 4, .inr (.inr (.inr (.inr f)))) : va_E)) (rf_congr (n := 4) (g := fun j => k + 1 + 2 * j) h)
  | 18, h => exact congrArg (fun f : Nat → Option Nat => (Sum.inl (cid 7, 26, .inr (.inr (.inr (.inr f)))) : va_E)) (rf_congr (n := 26) (g := fun j => k + 1 + j) h)
  | 19, h => exact congrArg (fun f : Nat → Option Nat => (Sum.inl (cid 5, 26, .inr (.inr (.inr (.inr f)))) : va_E)) (rf_congr (n := 26) (g := fun j => k + 1 + j) h)
  | 20, h =>
    have h0 := h (k + 1) (by simp [kidsK])
    have h1 := h (k + 2) (by simp [kidsK])
    have h2 := h (k + 3) (by simp [kidsK])
    have h3 := h (k + 4) (by simp [kidsK])
    have h4 := h (k + 5) (by simp [kidsK])
    have h5 := h (k + 6) (by simp [kidsK])
    have h6 := h (k + 7) (by simp [kidsK])
    have h7 := h (k + 8) (by simp [kidsK])
    have h8 := h (k + 9) (by simp [kidsK])
    have h9 := h (k + 10) (by simp [kidsK])
    have h10 := h (k + 11) (by simp [kidsK])
    have h11 := h (k + 12) (by simp [kidsK])
    have h12 := h (k + 13) (by simp [kidsK])
    have h13 := h (k + 14) (by simp [kidsK])
    have h14 := h (k + 15) (by simp [kidsK])
    have h15 := h (k + 16) (by simp [kidsK])
    have h16 := h (k + 17) (by simp [kidsK])
    have h17 := h (k + 18) (by simp [kidsK])
    have h18 := h (k + 19) (by simp [kidsK])
    have h19 := h (k + 20) (by simp [kidsK])
    simp only [wcellK, h0, h1, h2, h3, h4, h5, h6, h7, h8, h9, h10, h11, h12, h13, h14, h15, h16, h17, h18, h19]
  | 21, _ => rfl
  | 22, _ => rfl
  | n + 23, _ => rfl
