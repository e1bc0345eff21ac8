/-! the store: a number for each kind of cell, each instance of it, each place in it -/
abbrev Dt : Type := Nat → Nat → Nat → Int32
def updD (D : Dt) (k b i : Nat) (x : Int32) : Dt := fun k' b' i' => if k' = k ∧ b' = b ∧ i' = i then x else D k' b' i'
def hiL (x : Int64) : Int32 := Int32.ofBitVec (x.toBitVec.extractLsb' 32 32)
def loL (x : Int64) : Int32 := Int32.ofBitVec (x.toBitVec.extractLsb' 0 32)
def mkL (h l : Int32) : Int64 := Int64.ofBitVec (h.toBitVec ++ l.toBitVec)
theorem mkL_hl (x : Int64) : mkL (hiL x) (loL x) = x := by
  apply Int64.toBitVec_inj.mp
  simp only [mkL, hiL, loL]
  show BitVec.append _ _ = _
  apply BitVec.eq_of_getLsbD_eq
  intro i hi
  show (BitVec.extractLsb' 32 32 x.toBitVec ++ BitVec.extractLsb' 0 32 x.toBitVec).getLsbD i = _
  rw [BitVec.getLsbD_append]
  by_cases h : i < 32
  · simp [h]
  · simp [h]
    have : 32 + (i - 32) = i := by omega
    rw [this]
    simp
    omega
/-- the cells: kind, instance, and what the store says of it. ad 100 0..3: the classes of int[], byte[], char[], State[] -/
def cel (ad : Nat → Nat → Nat) (k b : Nat) (r : Nat → Int32) : va_E := match k with
  | 0 => .inr (6, [.ref (ad 1 b), .ref (ad 9 b), .int (r 2), .int (r 3), .int (r 4), .int (r 5)])
  | 1 => .inr (5, [.int (r 0), .int (r 1), .ref (ad 2 b), .ref (ad 3 b), .ref (ad 4 b), .ref (ad 5 b), .ref (ad 6 b), .ref (ad 7 b), .ref (ad 8 b)])
  | 2 => .inl (ad 100 0, 4, .inl r)
  | 3 => .inl (ad 100 0, 4, .inl r)
  | 4 => .inl (ad 100 0, 12, .inl r)
  | 5 => .inl (ad 100 0, 12, .inl r)
  | 6 => .inl (ad 100 0, 12, .inl r)
  | 7 => .inl (ad 100 0, 12, .inl r)
  | 8 => .inl (ad 100 0, 12, .inl r)
  | 9 => .inr (2, [.ref (ad 10 b), .ref (ad 11 b), .ref (ad 12 b), .ref (ad 13 b), .ref (ad 14 b), .ref (ad 15 b)])
  | 10 => .inl (ad 100 0, 16, .inl r)
  | 11 => .inl (ad 100 0, 16, .inl r)
  | 12 => .inl (ad 100 0, 16, .inl r)
  | 13 => .inl (ad 100 0, 16, .inl r)
  | 14 => .inl (ad 100 0, 16, .inl r)
  | 15 => .inl (ad 100 0, 16, .inl r)
  | 16 => .inr (7, [.ref (ad 17 b), .ref (ad 18 b), .int (r 2), .ref (ad 19 b)])
  | 17 => .inl (ad 100 0, 24, .inl r)
  | 18 => .inl (ad 100 0, 24, .inl r)
  | 19 => .inr (0, [.ref (ad 20 b), .ref (ad 21 b), .int (r 2)])
  | 20 => .inl (ad 100 0, 292, .inl r)
  | 21 => .inl (ad 100 0, 292, .inl r)
  | 22 => .inr (8, [.ref (ad 23 b), .int (r 1), .int (r 2), .int (r 3), .int (r 4), .int (r 5)])
  | 23 => .inl (ad 100 2, 150, .inl r)
  | 24 => .inr (1, [.ref (ad 25 b), .int (r 1), .int (r 2)])
  | 25 => .inl (ad 100 3, 6, .inr (.inr (.inr (.inr (fun j => some (ad 0 (2 + j)))))))
  | 26 => .inr (4, [.ref (ad 22 0), .ref (ad 0 1), .ref (ad 16 0)])
  | 27 => .inr (3, [.ref (ad 1 8), .ref (ad 16 1), .ref (ad 16 2), .int (r 3), .int (r 4), .int (r 5), .int (r 6), .int (r 7), .ref (ad 28 b), .ref (ad 29 b), .ref (ad 30 b), .int (r 11)])
  | 28 => .inl (ad 100 0, 12, .inl r)
  | 29 => .inl (ad 100 0, 12, .inl r)
  | 30 => .inl (ad 100 0, 12, .inl r)
  | 31 => .inr (9, [.ref (ad 22 0), .ref (ad 0 0), .ref (ad 0 1), .ref (ad 24 0), .ref (ad 16 0), .ref (ad 19 3), .ref (ad 26 0), .ref (ad 27 0)])
  | 32 => .inr (10, [.ref (ad 33 b), .ref (ad 34 b), .int (r 2), .ref (ad 35 b), .int (r 4), .ref (ad 36 b), .ref (ad 37 b), .ref (ad 38 b), .int (r 8), .int (r 9), .int (r 10), .int (r 11), .int (r 12), .long (mkL (r 13) (r 113)), .int (r 14), .int (r 15), .int (r 16), .ref (ad 39 b), .int (r 18)])
  | 33 => .inl (ad 100 0, 170, .inl r)
  | 34 => .inl (ad 100 0, 1020, .inl r)
  | 35 => .inl (ad 100 1, 150, .inl r)
  | 36 => .inl (ad 100 0, 170, .inl r)
  | 37 => .inl (ad 100 0, 800, .inl r)
  | 38 => .inl (ad 100 0, 800, .inl r)
  | _ => .inl (ad 100 0, 36, .inl r)
def tyL (ad : Nat → Nat → Nat) : List (ClassId × FieldType) := [(ad 100 0, .int), (ad 100 1, .byte), (ad 100 2, .char), (ad 100 3, .object "PoolRenumberer$State")]
def wl (ad : Nat → Nat → Nat) (U : List (Nat × Nat)) (D : Dt) : va_W := U.map (fun q => (ad q.1 q.2, cel ad q.1 q.2 (D q.1 q.2)))
def Uinj (ad : Nat → Nat → Nat) (U : List (Nat × Nat)) : Prop := ∀ (i j : Nat) (p q : Nat × Nat), U[i]? = some p → U[j]? = some q → ad p.1 p.2 = ad q.1 q.2 → i = j
theorem wl_at {ad : Nat → Nat → Nat} {U : List (Nat × Nat)} {D : Dt} {k b : Nat} (h : (k, b) ∈ U) : ∃ q0 : Nat, U[q0]? = some (k, b) ∧ (wl ad U D)[q0]? = some (ad k b, cel ad k b (D k b)) := by
  obtain ⟨i, hi⟩ := List.getElem?_of_mem h
  exact ⟨i, hi, by simp [wl, hi]⟩
theorem updD_same (D : Dt) (k b i : Nat) (x : Int32) : updD D k b i x k b = upd (D k b) i x := by
  funext j
  simp [updD, upd]
theorem updD_other (D : Dt) {k b k' b' : Nat} (i : Nat) (x : Int32) (h : ¬ (k' = k ∧ b' = b)) : updD D k b i x k' b' = D k' b' := by
  funext j
  simp only [updD]
  rw [if_neg]
  exact fun q => h ⟨q.1, q.2.1⟩
theorem wl_set {ad : Nat → Nat → Nat} {U : List (Nat × Nat)} {D D' : Dt} {k b q0 : Nat} (hU : Uinj ad U) (hq : U[q0]? = some (k, b)) (ho : ∀ k' b', ¬ (k' = k ∧ b' = b) → D' k' b' = D k' b') : (wl ad U D).set q0 (ad k b, cel ad k b (D' k b)) = wl ad U D' := by
  have hlt : q0 < U.length := (List.getElem?_eq_some_iff.mp hq).1
  apply List.ext_getElem?
  intro j
  by_cases hj : j = q0
  · subst hj
    rw [List.getElem?_set_self (by simp [wl, hlt])]
    simp [wl, hq]
  · rw [List.getElem?_set_ne (Ne.symm hj)]
    simp only [wl, List.getElem?_map]
    cases hu : U[j]? with
    | none => rfl
    | some w =>
      obtain ⟨k', b'⟩ := w
      simp only [Option.map_some]
      rw [ho k' b' (fun z => hj (hU j q0 _ _ hu hq (by rw [z.1, z.2])))]
theorem wl_D {ad : Nat → Nat → Nat} {U : List (Nat × Nat)} {A : Nat → Prop} (D : Dt) (hU : Uinj ad U) (hA : ∀ w ∈ U, A (ad w.1 w.2)) : va_D A (wl ad U D) := by
  refine ⟨fun i j x y hi hj hxy => ?_, fun k q hk => ?_⟩
  · simp only [wl, List.getElem?_map] at hi hj
    cases hu : U[i]? with
    | none => rw [hu] at hi; cases hi
    | some w =>
      cases hv : U[j]? with
      | none => rw [hv] at hj; cases hj
      | some z =>
        rw [hu] at hi
        rw [hv] at hj
        cases hi
        cases hj
        exact hU i j w z hu hv hxy
  · simp only [wl, List.getElem?_map] at hk
    cases hu : U[k]? with
    | none => rw [hu] at hk; cases hk
    | some w =>
      rw [hu] at hk
      cases hk
      exact hA w (List.mem_of_getElem? hu)
theorem wl_A {ad : Nat → Nat → Nat} {U : List (Nat × Nat)} (D D' : Dt) (sz : Nat) {q : Nat} (h : va_A (wl ad U D) sz q) : va_A (wl ad U D') sz q := by
  rcases h with ⟨k, e, h⟩ | h
  · left
    simp only [wl, List.getElem?_map] at h
    cases hu : U[k]? with
    | none => rw [hu] at h; cases h
    | some w =>
      rw [hu] at h
      cases h
      exact ⟨k, cel ad w.1 w.2 (D' w.1 w.2), by simp [wl, hu]⟩
  · exact Or.inr h
theorem wl_Ain {ad : Nat → Nat → Nat} {U : List (Nat × Nat)} (D : Dt) (sz : Nat) {w : Nat × Nat} (h : w ∈ U) : va_A (wl ad U D) sz (ad w.1 w.2) := by
  obtain ⟨i, hi⟩ := List.getElem?_of_mem h
  exact Or.inl ⟨i, cel ad w.1 w.2 (D w.1 w.2), by simp [wl, hi]⟩
/-! what stands outside: the nest mates' words, the text constants, two statics of the JDK -/
def lenS : List Nat := [4, 3, 4, 6, 6]
def bytS : List (List Int32) := [[112, 111, 111, 108], [110, 101, 116], [104, 111, 115, 116], [115, 116, 105, 99, 107, 121], [112, 111, 108, 105, 99, 121]]
def texS : List (Nat × String) := [(44, "pool"), (50, "net"), (52, "host"), (54, "sticky"), (56, "policy")]
def Sfix (ad : Nat → Nat → Nat) (A : Nat → Prop) (T : State) (H : Heap) : Prop :=
  vk_S 5 lenS bytS (ad 101) (ad 102) A T H ∧ (∀ (i : Nat) (q : Nat × String), texS[i]? = some q → vk_R "PoolRenumberer$Tokens" q.1 q.2 (ad 101 i) T) ∧ va_Z "java/lang/String" "COMPACT_STRINGS" "Z" (.int 1) A T H ∧ va_Zq "jdk/internal/util/Preconditions" "SIOOBE_FORMATTER" "Ljava/util/function/BiFunction;" A T H
def Nwa (T : State) : Prop := ∀ w ∈ nw_T, va_Nw w T
theorem Nwa.same {u T : State} (h : u.vm = T.vm) (hN : Nwa u) : Nwa T := by
  intro w hw
  have h2 := (List.mem_filter.mp hw).2
  cases w <;> first | (exact absurd (show false = true from h2) (by decide)) | exact va_Nw.same rfl h (hN _ hw)
theorem Nwa.warm {s T : State} (hW : s.WarmedH T.vm) (hN : Nwa s) : Nwa T := by
  intro w hw
  have h2 := (List.mem_filter.mp hw).2
  cases w <;> first | (exact absurd (show false = true from h2) (by decide)) | exact va_Nw.warmF hW (hN _ hw) | exact va_Nw.warmM hW (hN _ hw)
theorem Sfix.same {ad : Nat → Nat → Nat} {A : Nat → Prop} {u T : State} {H : Heap} (h : u.vm = T.vm) (hS : Sfix ad A u H) : Sfix ad A T H := by
  have ha : u.vm.Alike T.vm := h ▸ Vm.Alike.refl u.vm
  obtain ⟨h1, h2, h3, h4⟩ := hS
  refine ⟨h1.moved ha, fun i q hq => (h2 i q hq).same h.symm, h3.moved ha, ?_⟩
  rcases h4 with h4 | ⟨t, h4⟩
  · exact Or.inl (h4.moved ha)
  · exact Or.inr ⟨t, h4.moved ha⟩
theorem Sfix.warm {ad : Nat → Nat → Nat} {A : Nat → Prop} {s T : State} {H : Heap} (hW : s.WarmedH T.vm) (hS : Sfix ad A s H) : Sfix ad A T H := by
  have ha : s.vm.Alike T.vm := hW.alike
  obtain ⟨h1, h2, h3, h4⟩ := hS
  refine ⟨h1.moved ha, fun i q hq => (h2 i q hq).warm hW, h3.moved ha, ?_⟩
  rcases h4 with h4 | ⟨t, h4⟩
  · exact Or.inl (h4.moved ha)
  · exact Or.inr ⟨t, h4.moved ha⟩
theorem Sfix.kept {ad : Nat → Nat → Nat} {A : Nat → Prop} {T : State} {H H1 : Heap} (hS : Sfix ad A T H) (hq : ∀ a : Nat, a < H.size → ¬ A a → H1[a]? = H[a]?) : Sfix ad A T H1 := by
  obtain ⟨h1, h2, h3, h4⟩ := hS
  refine ⟨h1.kept hq, h2, h3.kept hq, ?_⟩
  rcases h4 with h4 | ⟨t, h4⟩
  · exact Or.inl (h4.kept hq)
  · exact Or.inr ⟨t, h4.kept hq⟩
theorem Sfix.narrow {ad : Nat → Nat → Nat} {A B : Nat → Prop} {T : State} {H : Heap} (hS : Sfix ad A T H) (hAB : ∀ q, B q → A q) : Sfix ad B T H := by
  obtain ⟨h1, h2, h3, h4⟩ := hS
  refine ⟨h1.narrow hAB, h2, h3.narrow hAB, ?_⟩
  rcases h4 with h4 | ⟨t, h4⟩
  · exact Or.inl (h4.narrow hAB)
  · exact Or.inr ⟨t, h4.narrow hAB⟩
/-- what a method finds as it starts -/
def Wd (G : va_G) (ad : Nat → Nat → Nat) (U : List (Nat × Nat)) (D : Dt) (sz : Nat) (T : State) : Prop :=
  T.heap.size = sz ∧ va_P G vwCl (wl ad U D) T.heap ∧ va_K G vwCl (tyL ad) T ∧ Nwa T ∧ Sfix ad (va_A (wl ad U D) sz) T T.heap
def wsG (y : MethodName) (cb : ByteArray) (mx : Nat) (rt : Option FieldType) : List Cond := Cond.code y cb mx rt :: gt_T
/-- contracts: a number, nothing, an instance of State comes back -/
def MI (l : Launch) (G : va_G) (ad : Nat → Nat → Nat) (U : List (Nat × Nat)) (y : MethodName) (cb : ByteArray) (mx : Nat) (rt : FieldType) (rm : Room) (as : List Value) (D : Dt) (F : Option (Int32 × Dt)) : Prop :=
  ∀ (sz : Nat) (o : Int32 × Dt), F = some o → Met l y (wsG y cb mx (some rt)) rm (va_Pc as (Wd G ad U D sz)) (va_Qi (fun r u => r = o.1 ∧ u = o.2) (fun (u : Dt) t => va_P G vwCl (wl ad U u) t.heap) (va_A (wl ad U D) sz)) 0 0 (va_A (wl ad U D) sz)
def MV (l : Launch) (G : va_G) (ad : Nat → Nat → Nat) (U : List (Nat × Nat)) (y : MethodName) (cb : ByteArray) (mx : Nat) (rm : Room) (as : List Value) (D : Dt) (F : Option Dt) : Prop :=
  ∀ (sz : Nat) (o : Dt), F = some o → Met l y (wsG y cb mx none) rm (va_Pc as (Wd G ad U D sz)) (va_Qv (fun u => u = o) (fun (u : Dt) t => va_P G vwCl (wl ad U u) t.heap) (va_A (wl ad U D) sz)) 0 0 (va_A (wl ad U D) sz)
def MR (l : Launch) (G : va_G) (ad : Nat → Nat → Nat) (U : List (Nat × Nat)) (y : MethodName) (cb : ByteArray) (mx : Nat) (rt : FieldType) (rm : Room) (as : List Value) (D : Dt) (F : Option (Nat × Dt)) : Prop :=
  ∀ (sz : Nat) (o : Nat × Dt), F = some o → Met l y (wsG y cb mx (some rt)) rm (va_Pc as (Wd G ad U D sz)) (va_Qr (fun u => u = o.2) (fun (u : Dt) a t => a = ad 0 o.1 ∧ va_P G vwCl (wl ad U u) t.heap) (va_A (wl ad U D) sz)) 0 0 (va_A (wl ad U D) sz)
/-- within a method: what holds all the time -/
def Cx (G : va_G) (ad : Nat → Nat → Nat) (U : List (Nat × Nat)) (A : Nat → Prop) (p : Program) (s : State) (m : MethodId) (meth : Method) (c : Code) (args : Array Value) (cc : ByteArray) (own : String) (nL : Nat) (rt : Option FieldType) : Prop :=
  p.tables.exec = Jvm.exec ∧ c.code = cc ∧ c.maxLocals = nL ∧ s.vm.findClass own = some m.cls ∧ (∀ w ∈ gt_T, w.before args s = true) ∧ meth.sig.returnType = rt ∧ meth.locks = false ∧ va_K G vwCl (tyL ad) s ∧ Nwa s ∧ Sfix ad A s s.heap ∧ Uinj ad U ∧ (∀ w ∈ U, A (ad w.1 w.2)) ∧ (∀ q : Nat, s.heap.size ≤ q → A q)
/-- the machine at pc, with the locals lv, the stack st and the store D, ends as k says of B -/
def Im {β ρ : Type} (G : va_G) (ad : Nat → Nat → Nat) (U : List (Nat × Nat)) (A : Nat → Prop) (p : Program) (l : Launch) (e : Env) (R : Room) (s : State) (m : MethodId) (args : Array Value) (below : List Frame) (meth : Method) (c : Code) (nL : Nat) (Go : ρ → State → Prop) (pc : Nat) (lv : List (Nat × Value)) (st : List Value) (D : Dt) (B : Option β) (k : β → Option ρ) : Prop :=
  ∀ o : ρ, B.bind k = some o → ∀ (H : Heap) (locs : List Loc) (ls : Array Slot), va_P G vwCl (wl ad U D) H → va_S A s.heap H locs → lv_has ls nL lv → W p l e R s m args below meth c H locs 0 0 (Go o) (F0 m pc ls st)
def inb (i : Int32) (n : Nat) : Bool := decide (0 ≤ i.toInt) && decide (i.toInt < n)
theorem inb_in {i : Int32} {n : Nat} (h : inb i n = true) : vp_in i n := by
  simp only [inb, Bool.and_eq_true, decide_eq_true_eq] at h
  exact vp_in_iff.mpr h
def gd {β : Type} (b : Bool) (F : Option β) : Option β := match b with
  | true => F
  | false => none
/-- a loop: at most n turns -/
def lp {σ ε : Type} (f : σ → Option (σ ⊕ ε)) : Nat → σ → Option ε
  | 0, _ => none
  | n + 1, s => match f s with
    | none => none
    | some (.inl t) => lp f n t
    | some (.inr e) => some e
def FU : Nat := 100000
