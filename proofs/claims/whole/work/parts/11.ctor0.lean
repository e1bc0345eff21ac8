theorem wP_cons {G : va_G} {cl : List vw_C} {x : Nat × va_E} {ws : va_W} {H : Heap} (h : va_P G cl (ws ++ [x]) H) : va_P G cl (x :: ws) H := by
  intro k q hk
  cases k with
  | zero =>
    rw [List.getElem?_cons_zero] at hk
    cases hk
    exact h ws.length x (by simp)
  | succ j =>
    rw [List.getElem?_cons_succ] at hk
    have hl := (List.getElem?_eq_some_iff.mp hk).1
    exact h j q (by rw [List.getElem?_append_left hl]; exact hk)
theorem wD_cons {A : Nat → Prop} {x : Nat × va_E} {ws : va_W} (h : va_D A (ws ++ [x])) : va_D A (x :: ws) := by
  have key : ∀ (k : Nat) (q : Nat × va_E), (x :: ws)[k]? = some q → (k = 0 ∧ (ws ++ [x])[ws.length]? = some q) ∨ (∃ j, k = j + 1 ∧ j < ws.length ∧ (ws ++ [x])[j]? = some q) := by
    intro k q hk
    cases k with
    | zero =>
      rw [List.getElem?_cons_zero] at hk
      cases hk
      exact Or.inl ⟨rfl, by simp⟩
    | succ j =>
      rw [List.getElem?_cons_succ] at hk
      have hl := (List.getElem?_eq_some_iff.mp hk).1
      exact Or.inr ⟨j, rfl, hl, by rw [List.getElem?_append_left hl]; exact hk⟩
  refine ⟨fun i j y z hi hj hyz => ?_, fun k q hk => ?_⟩
  · rcases key i y hi with ⟨a1, a2⟩ | ⟨i', a1, a2, a3⟩ <;> rcases key j z hj with ⟨b1, b2⟩ | ⟨j', b1, b2, b3⟩
    · omega
    · have := h.1 _ _ _ _ a2 b3 hyz
      omega
    · have := h.1 _ _ _ _ a3 b2 hyz
      omega
    · have := h.1 _ _ _ _ a3 b3 hyz
      omega
  · rcases key k q hk with ⟨a1, a2⟩ | ⟨i', a1, a2, a3⟩
    · exact h.2 _ _ a2
    · exact h.2 _ _ a3
theorem fr_join {G : va_G} {cl : List vw_C} {A0 : Nat → Prop} {x : Nat × va_E} {wr w1 : va_W} {H H1 : Heap} (hP : va_P G cl (x :: wr) H) (hD : va_D A0 (x :: wr)) (hk : ∀ q : Nat, q < H.size → ¬ va_A [x] H.size q → H1[q]? = H[q]?) (hF : ∀ q, va_A [x] H.size q → A0 q) (hP1 : va_P G cl w1 H1) (hD1 : va_D (va_A [x] H.size) w1) : va_P G cl (wr ++ w1) H1 ∧ va_D A0 (wr ++ w1) := by
  have apart : ∀ (k : Nat) (q : Nat × va_E), wr[k]? = some q → q.1 < H.size ∧ ¬ va_A [x] H.size q.1 := by
    intro k q hq
    have h2 : (x :: wr)[k + 1]? = some q := by rw [List.getElem?_cons_succ]; exact hq
    have hl := (hP (k + 1) q h2).lt
    refine ⟨hl, fun h => ?_⟩
    rcases h with ⟨k2, e, h⟩ | h
    · cases k2 with
      | zero =>
        rw [List.getElem?_cons_zero] at h
        have hx : (x :: wr)[0]? = some (q.1, e) := by rw [List.getElem?_cons_zero]; exact h
        have := hD.1 (k + 1) 0 q (q.1, e) h2 hx rfl
        omega
      | succ j =>
        rw [List.getElem?_cons_succ] at h
        simp at h
    · omega
  refine ⟨va_P.app (fun k q hq => ?_) hP1, va_D.app ⟨fun i j y z hi hj hyz => ?_, fun k q hq => ?_⟩ (hD1.weaken (fun k q _ h => hF q.1 h)) (fun i j y z hy hz hyz => ?_)⟩
  · obtain ⟨g1, g2⟩ := apart k q hq
    exact (hP (k + 1) q (by rw [List.getElem?_cons_succ]; exact hq)).kept (hk q.1 g1 g2)
  · have := hD.1 (i + 1) (j + 1) y z (by rw [List.getElem?_cons_succ]; exact hi) (by rw [List.getElem?_cons_succ]; exact hj) hyz
    omega
  · exact hD.2 (k + 1) q (by rw [List.getElem?_cons_succ]; exact hq)
  · exact (apart i y hy).2 (by rw [hyz]; exact hD1.2 j z hz)
theorem uinj_of {ad : Nat → Nat → Nat} {U : List (Nat × Nat)} {A : Nat → Prop} {D : Dt} (h : va_D A (wl ad U D)) : Uinj ad U := by
  intro i j y z hi hj hyz
  exact h.1 i j (ad y.1 y.2, cel ad y.1 y.2 (D y.1 y.2)) (ad z.1 z.2, cel ad z.1 z.2 (D z.1 z.2)) (by simp [wl, hi]) (by simp [wl, hj]) hyz
theorem wl_Dt {ad : Nat → Nat → Nat} {U : List (Nat × Nat)} {A : Nat → Prop} {D : Dt} (D' : Dt) (h : va_D A (wl ad U D)) : va_D A (wl ad U D') := by
  refine wl_D D' (uinj_of h) (fun w hw => ?_)
  obtain ⟨i, hi⟩ := List.getElem?_of_mem hw
  exact h.2 i (ad w.1 w.2, cel ad w.1 w.2 (D w.1 w.2)) (by simp [wl, hi])
theorem sfix_to {ad cy : Nat → Nat → Nat} {A : Nat → Prop} {T : State} {H : Heap} (h1 : ad 101 = cy 101) (h2 : ad 102 = cy 102) (h : Sfix cy A T H) : Sfix ad A T H := by
  unfold Sfix at h ⊢
  rw [h1, h2]
  exact h
theorem wl_congr {ad : Nat → Nat → Nat} {U : List (Nat × Nat)} {D D' : Dt} (h : ∀ w ∈ U, D w.1 w.2 = D' w.1 w.2) : wl ad U D = wl ad U D' := by
  unfold wl
  exact List.map_congr_left (fun w hw => by rw [h w hw])
/-- constructors: what they find, what they make -/
def Wk (G : va_G) (cy : Nat → Nat → Nat) (h0 : Nat) (bl : va_E) (sz : Nat) (T : State) : Prop :=
  T.heap.size = sz ∧ va_P G vwCl [(h0, bl)] T.heap ∧ va_K G vwCl (tyL cy) T ∧ Nwa T ∧ Sfix cy (va_A [(h0, bl)] sz) T T.heap ∧ va_AO "PoolRenumberer$State" T
def MK (l : Launch) (G : va_G) (cy : Nat → Nat → Nat) (y : MethodName) (cb : ByteArray) (mx : Nat) (rm : Room) (h0 : Nat) (bl : va_E) (As : List Value) (tr : (Nat → Nat) → va_W) : Prop :=
  ∀ sz : Nat, Met l y (wsG y cb mx none) rm (va_Pc (.ref h0 :: As) (Wk G cy h0 bl sz)) (va_Qv (fun a : Nat → Nat => a 0 = h0) (fun a t => va_P G vwCl (tr a) t.heap ∧ va_D (va_A [(h0, bl)] sz) (tr a)) (va_A [(h0, bl)] sz)) rm.cells rm.slots (va_A [(h0, bl)] sz)
def Ik (G : va_G) (A : Nat → Prop) (p : Program) (l : Launch) (e : Env) (R : Room) (s : State) (m : MethodId) (args : Array Value) (below : List Frame) (meth : Method) (c : Code) (nL : Nat) (Q : State → Prop) (pc : Nat) (lv : List (Nat × Value)) (st : List Value) (ws : va_W) (n k : Nat) : Prop :=
  ∀ (H : Heap) (locs : List Loc) (ls : Array Slot), va_P G vwCl ws H → va_D A ws → va_S A s.heap H locs → lv_has ls nL lv → W p l e R s m args below meth c H locs n k Q (F0 m pc ls st)
section
variable {G : va_G} {cy : Nat → Nat → Nat} {A : Nat → Prop} {p : Program} {l : Launch} {e : Env} {R : Room} {s : State} {m : MethodId} {args : Array Value} {below : List Frame} {meth : Method} {c : Code} {nL : Nat} {Q : State → Prop} {cc : ByteArray} {own : String} {rt : Option FieldType} {pc : Nat} {lv : List (Nat × Value)} {st : List Value} {ws : va_W} {n k : Nat}
theorem ik_iconst (C : Cx G cy [] A p s m meth c args cc own nL rt) (q : Nat) {i : Int} {v : Int32} (hd : decode cc pc = .ok (.iconst i, 1)) (hq : pc + 1 = q) (hv : Int32.ofInt i = v) (h : Ik G A p l e R s m args below meth c nL Q q lv (.int v :: st) ws n k) : Ik G A p l e R s m args below meth c nL Q pc lv st ws n k := by
  subst hq
  exact fun H locs ls hP hD hS hl => lv_iconst C.1 C.2.1 hd hv (h H locs ls hP hD hS hl)
theorem ik_bipush (C : Cx G cy [] A p s m meth c args cc own nL rt) (q : Nat) {i : Int} {v : Int32} (hd : decode cc pc = .ok (.bipush i, 2)) (hq : pc + 2 = q) (hv : (Int8.ofInt i).toInt32 = v) (h : Ik G A p l e R s m args below meth c nL Q q lv (.int v :: st) ws n k) : Ik G A p l e R s m args below meth c nL Q pc lv st ws n k := by
  subst hq
  exact fun H locs ls hP hD hS hl => lv_bipush C.1 C.2.1 hd hv (h H locs ls hP hD hS hl)
theorem ik_sipush (C : Cx G cy [] A p s m meth c args cc own nL rt) (q : Nat) {i : Int} {v : Int32} (hd : decode cc pc = .ok (.sipush i, 3)) (hq : pc + 3 = q) (hv : (Int16.ofInt i).toInt32 = v) (h : Ik G A p l e R s m args below meth c nL Q q lv (.int v :: st) ws n k) : Ik G A p l e R s m args below meth c nL Q pc lv st ws n k := by
  subst hq
  exact fun H locs ls hP hD hS hl => lv_sipush C.1 C.2.1 hd hv (h H locs ls hP hD hS hl)
theorem ik_dup (C : Cx G cy [] A p s m meth c args cc own nL rt) (q : Nat) {va : Value} (hd : decode cc pc = .ok (.dup, 1)) (hq : pc + 1 = q) (hv : va.category = 1) (h : Ik G A p l e R s m args below meth c nL Q q lv (va :: va :: st) ws n k) : Ik G A p l e R s m args below meth c nL Q pc lv (va :: st) ws n k := by
  subst hq
  exact fun H locs ls hP hD hS hl => lv_dup C.1 C.2.1 hd hv (h H locs ls hP hD hS hl)
theorem ik_iload_n (C : Cx G cy [] A p s m meth c args cc own nL rt) (q j : Nat) {kk : Fin 4} {i : Nat} {x : Int32} (hd : decode cc pc = .ok (.iload_n kk, 1)) (hi : (kk : Nat) = i) (hj : lv[j]? = some (i, .int x)) (hq : pc + 1 = q) (h : Ik G A p l e R s m args below meth c nL Q q lv (.int x :: st) ws n k) : Ik G A p l e R s m args below meth c nL Q pc lv st ws n k := by
  subst hq
  exact fun H locs ls hP hD hS hl => lv_iload_n C.1 C.2.1 hd hi (lv_at hl j hj) (h H locs ls hP hD hS hl)
theorem ik_aload_n (C : Cx G cy [] A p s m meth c args cc own nL rt) (q j : Nat) {kk : Fin 4} {i : Nat} {x : Nat} (hd : decode cc pc = .ok (.aload_n kk, 1)) (hi : (kk : Nat) = i) (hj : lv[j]? = some (i, .ref x)) (hq : pc + 1 = q) (h : Ik G A p l e R s m args below meth c nL Q q lv (.ref x :: st) ws n k) : Ik G A p l e R s m args below meth c nL Q pc lv st ws n k := by
  subst hq
  exact fun H locs ls hP hD hS hl => lv_aload_n C.1 C.2.1 hd hi (lv_at hl j hj) (h H locs ls hP hD hS hl)
theorem ik_istore_n (C : Cx G cy [] A p s m meth c args cc own nL rt) (q : Nat) (lv' : List (Nat × Value)) {kk : Fin 4} {i : Nat} {x : Int32} (hd : decode cc pc = .ok (.istore_n kk, 1)) (hi : (kk : Nat) = i) (hn : i < nL) (hf : (i, Value.int x) :: lv.filter (fun q => !(q.1 == i) && !(q.1 + 1 == i && q.2.category == 2)) = lv') (hq : pc + 1 = q) (h : Ik G A p l e R s m args below meth c nL Q q lv' st ws n k) : Ik G A p l e R s m args below meth c nL Q pc lv (.int x :: st) ws n k := by
  subst hq
  exact fun H locs ls hP hD hS hl => lv_istore_n C.1 C.2.1 hd hi hl hn hf (fun ls' hl' => h H locs ls' hP hD hS hl')
theorem ik_astore_n (C : Cx G cy [] A p s m meth c args cc own nL rt) (q : Nat) (lv' : List (Nat × Value)) {kk : Fin 4} {i x : Nat} (hd : decode cc pc = .ok (.astore_n kk, 1)) (hi : (kk : Nat) = i) (hn : i < nL) (hf : (i, Value.ref x) :: lv.filter (fun q => !(q.1 == i) && !(q.1 + 1 == i && q.2.category == 2)) = lv') (hq : pc + 1 = q) (h : Ik G A p l e R s m args below meth c nL Q q lv' st ws n k) : Ik G A p l e R s m args below meth c nL Q pc lv (.ref x :: st) ws n k := by
  subst hq
  exact fun H locs ls hP hD hS hl => lv_astore_n C.1 C.2.1 hd hi hl hn hf (fun ls' hl' => h H locs ls' hP hD hS hl')
theorem ik_iinc (C : Cx G cy [] A p s m meth c args cc own nL rt) (q j : Nat) (lv' : List (Nat × Value)) {i : Nat} {d : Int} {x v : Int32} (hd : decode cc pc = .ok (.iinc i d, 3)) (hj : lv[j]? = some (i, .int x)) (hv : x + Int32.ofInt d = v) (hn : i < nL) (hf : (i, Value.int v) :: lv.filter (fun q => !(q.1 == i) && !(q.1 + 1 == i && q.2.category == 2)) = lv') (hq : pc + 3 = q) (h : Ik G A p l e R s m args below meth c nL Q q lv' st ws n k) : Ik G A p l e R s m args below meth c nL Q pc lv st ws n k := by
  subst hq
  exact fun H locs ls hP hD hS hl => lv_iinc C.1 C.2.1 hd hl hj hv hn hf (fun ls' hl' => h H locs ls' hP hD hS hl')
theorem ik_goto (C : Cx G cy [] A p s m meth c args cc own nL rt) (t : Nat) {off : Int} (hd : decode cc pc = .ok (.goto off, 3)) (ht : (pc : Int) + off = (t : Int)) (h : Ik G A p l e R s m args below meth c nL Q t lv st ws n k) : Ik G A p l e R s m args below meth c nL Q pc lv st ws n k :=
  fun H locs ls hP hD hS hl => lv_goto C.1 C.2.1 hd ht (h H locs ls hP hD hS hl)
theorem ik_icge (C : Cx G cy [] A p s m meth c args cc own nL rt) (t q : Nat) {off : Int} {x y : Int32} (hd : decode cc pc = .ok (.if_icmp .ge off, 3)) (ht : (pc : Int) + off = (t : Int)) (hq : pc + 3 = q) (h1 : y ≤ x → Ik G A p l e R s m args below meth c nL Q t lv st ws n k) (h2 : ¬ y ≤ x → Ik G A p l e R s m args below meth c nL Q q lv st ws n k) : Ik G A p l e R s m args below meth c nL Q pc lv (.int y :: .int x :: st) ws n k := by
  subst hq
  intro H locs ls hP hD hS hl
  exact lv_icmp_ge C.1 C.2.1 hd ht (fun hc => h1 hc H locs ls hP hD hS hl) (fun hc => h2 hc H locs ls hP hD hS hl)
theorem ik_obj (C : Cx G cy [] A p s m meth c args cc own nL rt) (q : Nat) {idx a : Nat} (hw : Cond.methodLink own idx objectInit ∈ gt_T) (hR : 1 ≤ R.frames ∧ 12 ≤ R.locals) (hd : decode cc pc = .ok (.invokespecial idx, 3)) (hq : pc + 3 = q) (h : Ik G A p l e R s m args below meth c nL Q q lv [] ws n k) : Ik G A p l e R s m args below meth c nL Q pc lv [.ref a] ws n k := by
  subst hq
  intro H locs ls hP hD hS hl
  exact W.objInit C.1 C.2.1 C.2.2.2.1 (C.2.2.2.2.1 _ hw) (C.2.2.2.2.1 _ gw_25) (C.2.2.2.2.1 _ gw_26) rfl (by rw [C.2.2.1]; exact hl.1) rfl hd hR.1 (by show 2 * 0 + 0 + 12 ≤ R.locals; omega) (h H locs ls hP hD hS hl)
theorem ik_new (C : Cx G cy [] A p s m meth c args cc own nL rt) (q : Nat) {index ci N : Nat} {C0 : String} {T : u_T} {fs : List Value} (hin : ∀ w ∈ u_ws C0 T N, w ∈ gt_T) (ty : Nat → FieldType) (hty : ∀ k, k < N → parseFieldDescriptor (T k).2.2.1 = some (ty k)) (hw : Cond.classLink own index C0 ∈ gt_T) (hi : Cond.instantiable C0 N ∈ gt_T) (hini : Cond.initialized C0 ∈ gt_T) (hc : vwCl[ci]? = some (C0, T, N)) (hfs : ∀ j, j < N → defaultValue (ty j) = vp_V fs j) (hR : n + 1 ≤ R.cells ∧ k + N ≤ R.slots) (hd : decode cc pc = .ok (.new index, 3)) (hq : pc + 3 = q) (h : ∀ a : Nat, Ik G A p l e R s m args below meth c nL Q q lv (.ref a :: st) ((a, .inr (ci, fs)) :: ws) (n + 1) (k + N)) : Ik G A p l e R s m args below meth c nL Q pc lv st ws n k := by
  subst hq
  intro H locs ls hP hD hS hl
  have hts := C.2.2.2.2.1
  exact va_new C.1 C.2.1 hts hin ty hty C.2.2.2.1 (hts _ hw) (hts _ hi) (hts _ hini) C.2.2.2.2.2.2.2.1 hP hD hS C.2.2.2.2.2.2.2.2.2.2.2.2 hc hfs hR.1 hR.2 hd (fun a H1 hP1 hD1 hS1 => h a H1 locs ls (wP_cons hP1) (wD_cons hD1) hS1 hl)
theorem ik_new_int (C : Cx G cy [] A p s m meth c args cc own nL rt) (q N : Nat) {v : Int32} (hv : v = nI N) (hN : N < 2000) (hR : n + 1 ≤ R.cells ∧ k + N ≤ R.slots) (hd : decode cc pc = .ok (.newarray .int, 2)) (hq : pc + 2 = q) (h : ∀ a : Nat, Ik G A p l e R s m args below meth c nL Q q lv (.ref a :: st) (ws ++ [(a, .inl (cy 100 0, N, .inl (fun _ => 0)))]) (n + 1) (k + N)) : Ik G A p l e R s m args below meth c nL Q pc lv (.int v :: st) ws n k := by
  subst hq
  subst hv
  intro H locs ls hP hD hS hl
  have hK := C.2.2.2.2.2.2.2.1
  refine va_newa (atype := .int) (a0 := (N, .inl (fun _ => 0))) C.1 C.2.1 (C.2.2.2.2.1 _ gw_127) rfl hK hP hD hS C.2.2.2.2.2.2.2.2.2.2.2.2 (fun _ => rfl) (nI_pos (by omega)) (nI_clamp (by omega)) ?_ hR.1 hR.2 hd (fun a cA H1 hK1 hP1 hD1 hS1 => ?_)
  · show N * componentBytes .int ≤ 536870912
    have : componentBytes .int ≤ 8 := by decide
    exact Nat.le_trans (Nat.mul_le_mul (Nat.le_of_lt hN) this) (by decide)
  · have e1 : s.vm.findClass ("[" ++ FieldType.int.toString) = some cA := (hK1.2 4 (cA, .int) rfl).2
    have e2 : s.vm.findClass ("[" ++ FieldType.int.toString) = some (cy 100 0) := (hK.2 0 (cy 100 0, .int) rfl).2
    have e3 : cA = cy 100 0 := Option.some.inj (e1.symm.trans e2)
    rw [e3] at hP1 hD1
    exact h a H1 locs ls hP1 hD1 hS1 hl
theorem ik_new_byte (C : Cx G cy [] A p s m meth c args cc own nL rt) (q N : Nat) {v : Int32} (hv : v = nI N) (hN : N < 2000) (hR : n + 1 ≤ R.cells ∧ k + N ≤ R.slots) (hd : decode cc pc = .ok (.newarray .byte, 2)) (hq : pc + 2 = q) (h : ∀ a : Nat, Ik G A p l e R s m args below meth c nL Q q lv (.ref a :: st) (ws ++ [(a, .inl (cy 100 1, N, .inl (fun _ => 0)))]) (n + 1) (k + N)) : Ik G A p l e R s m args below meth c nL Q pc lv (.int v :: st) ws n k := by
  subst hq
  subst hv
  intro H locs ls hP hD hS hl
  have hK := C.2.2.2.2.2.2.2.1
  refine va_newa (atype := .byte) (a0 := (N, .inl (fun _ => 0))) C.1 C.2.1 (C.2.2.2.2.1 _ gw_608) rfl hK hP hD hS C.2.2.2.2.2.2.2.2.2.2.2.2 (fun _ => rfl) (nI_pos (by omega)) (nI_clamp (by omega)) ?_ hR.1 hR.2 hd (fun a cA H1 hK1 hP1 hD1 hS1 => ?_)
  · show N * componentBytes .byte ≤ 536870912
    have : componentBytes .byte ≤ 8 := by decide
    exact Nat.le_trans (Nat.mul_le_mul (Nat.le_of_lt hN) this) (by decide)
  · have e1 : s.vm.findClass ("[" ++ FieldType.byte.toString) = some cA := (hK1.2 4 (cA, .byte) rfl).2
    have e2 : s.vm.findClass ("[" ++ FieldType.byte.toString) = some (cy 100 1) := (hK.2 1 (cy 100 1, .byte) rfl).2
    have e3 : cA = cy 100 1 := Option.some.inj (e1.symm.trans e2)
    rw [e3] at hP1 hD1
    exact h a H1 locs ls hP1 hD1 hS1 hl
theorem ik_new_char (C : Cx G cy [] A p s m meth c args cc own nL rt) (q N : Nat) {v : Int32} (hv : v = nI N) (hN : N < 2000) (hR : n + 1 ≤ R.cells ∧ k + N ≤ R.slots) (hd : decode cc pc = .ok (.newarray .char, 2)) (hq : pc + 2 = q) (h : ∀ a : Nat, Ik G A p l e R s m args below meth c nL Q q lv (.ref a :: st) (ws ++ [(a, .inl (cy 100 2, N, .inl (fun _ => 0)))]) (n + 1) (k + N)) : Ik G A p l e R s m args below meth c nL Q pc lv (.int v :: st) ws n k := by
  subst hq
  subst hv
  intro H locs ls hP hD hS hl
  have hK := C.2.2.2.2.2.2.2.1
  refine va_newa (atype := .char) (a0 := (N, .inl (fun _ => 0))) C.1 C.2.1 (C.2.2.2.2.1 _ gw_56) rfl hK hP hD hS C.2.2.2.2.2.2.2.2.2.2.2.2 (fun _ => rfl) (nI_pos (by omega)) (nI_clamp (by omega)) ?_ hR.1 hR.2 hd (fun a cA H1 hK1 hP1 hD1 hS1 => ?_)
  · show N * componentBytes .char ≤ 536870912
    have : componentBytes .char ≤ 8 := by decide
    exact Nat.le_trans (Nat.mul_le_mul (Nat.le_of_lt hN) this) (by decide)
  · have e1 : s.vm.findClass ("[" ++ FieldType.char.toString) = some cA := (hK1.2 4 (cA, .char) rfl).2
    have e2 : s.vm.findClass ("[" ++ FieldType.char.toString) = some (cy 100 2) := (hK.2 2 (cy 100 2, .char) rfl).2
    have e3 : cA = cy 100 2 := Option.some.inj (e1.symm.trans e2)
    rw [e3] at hP1 hD1
    exact h a H1 locs ls hP1 hD1 hS1 hl
theorem ik_new_State (C : Cx G cy [] A p s m meth c args cc own nL rt) (hAO : va_AO "PoolRenumberer$State" s) (q N : Nat) {index : Nat} {v : Int32} (hw : Cond.classLink own index "PoolRenumberer$State" ∈ gt_T) (hv : v = nI N) (hN : N < 2000) (hR : n + 1 ≤ R.cells ∧ k + N ≤ R.slots) (hd : decode cc pc = .ok (.anewarray index, 3)) (hq : pc + 3 = q) (h : ∀ a : Nat, Ik G A p l e R s m args below meth c nL Q q lv (.ref a :: st) (ws ++ [(a, .inl (cy 100 3, N, .inr (.inr (.inr (.inr (fun _ => none))))))]) (n + 1) (k + N)) : Ik G A p l e R s m args below meth c nL Q pc lv (.int v :: st) ws n k := by
  subst hq
  subst hv
  intro H locs ls hP hD hS hl
  have hK := C.2.2.2.2.2.2.2.1
  refine va_newq C.1 C.2.1 C.2.2.2.1 (C.2.2.2.2.1 _ hw) hAO hK hP hD hS C.2.2.2.2.2.2.2.2.2.2.2.2 (nI_pos (by omega)) (nI_clamp (by omega)) (by omega) hR.1 hR.2 hd (fun a cA H1 hK1 hP1 hD1 hS1 => ?_)
  obtain ⟨_, _, _, _, _, e1⟩ := (hK1.2 4 (cA, .object "PoolRenumberer$State") rfl).2
  obtain ⟨_, _, _, _, _, e2⟩ := (hK.2 3 (cy 100 3, .object "PoolRenumberer$State") rfl).2
  have e3 : cA = cy 100 3 := Option.some.inj (e1.symm.trans e2)
  rw [e3] at hP1 hD1
  exact h a H1 locs ls hP1 hD1 hS1 hl
theorem ik_putF (C : Cx G cy [] A p s m meth c args cc own nL rt) (hin2 : meth.name = "<init>") (q f j : Nat) (ws' : va_W) {a ci N index : Nat} {C0 : String} {T : u_T} {fs : List Value} {v : Value} {ty : FieldType} (hin : ∀ w ∈ u_ws C0 T N, w ∈ gt_T) (ty0 : Nat → FieldType) (hty : ∀ k, k < N → parseFieldDescriptor (T k).2.2.1 = some (ty0 k)) (hnm : ∀ a, a < N → ∀ b, b < N → a ≠ b → (T a).2.1 ≠ (T b).2.1) (he : ws[j]? = some (a, .inr (ci, fs))) (hc : vwCl[ci]? = some (C0, T, N)) (hk : f < N) (hw : Cond.fieldLink own index (T f).1 (T f).2.1 (T f).2.2.1 ∈ gt_T) (hfin : (T f).2.2.2 = true) (hdecl : (T f).1 = own) (hdsc : parseFieldDescriptor (T f).2.2.1 = some ty) (hn9 : narrow ty v = v) (hfit : fits ty v = true) (hl9 : f < fs.length) (hw2 : ws.set j (a, .inr (ci, fs.set f v)) = ws') (hd : decode cc pc = .ok (.putfield index, 3)) (hq : pc + 3 = q) (h : Ik G A p l e R s m args below meth c nL Q q lv st ws' n k) : Ik G A p l e R s m args below meth c nL Q pc lv (v :: .ref a :: st) ws n k := by
  subst hq
  subst hw2
  intro H locs ls hP hD hS hl
  exact va_putF C.1 C.2.1 C.2.2.2.2.1 hin ty0 hty hnm C.2.2.2.1 C.2.2.2.2.2.2.2.1 hP hD hS j he hc f hk (C.2.2.2.2.1 _ hw) (fun _ h9 => h9) hfin hin2 hdecl hdsc hn9 hfit hl9 hd (fun H1 locs1 hP1 hD1 hS1 => h H1 locs1 ls hP1 hD1 hS1 hl)
theorem ik_get (C : Cx G cy [] A p s m meth c args cc own nL rt) (q f j : Nat) {a ci N index : Nat} {C0 : String} {T : u_T} {fs : List Value} {v : Value} (hin : ∀ w ∈ u_ws C0 T N, w ∈ gt_T) (he : ws[j]? = some (a, .inr (ci, fs))) (hc : vwCl[ci]? = some (C0, T, N)) (hk : f < N) (hw : Cond.fieldLink own index (T f).1 (T f).2.1 (T f).2.2.1 ∈ gt_T) (hv : fs[f]? = some v) (hd : decode cc pc = .ok (.getfield index, 3)) (hq : pc + 3 = q) (h : Ik G A p l e R s m args below meth c nL Q q lv (v :: st) ws n k) : Ik G A p l e R s m args below meth c nL Q pc lv (.ref a :: st) ws n k := by
  subst hq
  intro H locs ls hP hD hS hl
  exact va_get C.1 C.2.1 C.2.2.2.2.1 hin C.2.2.2.1 C.2.2.2.2.2.2.2.1 hP j he hc f hk (C.2.2.2.2.1 _ hw) (fun _ h9 => h9) hv hd (h H locs ls hP hD hS hl)
theorem ik_astq (C : Cx G cy [] A p s m meth c args cc own nL rt) (q j jk ci : Nat) (ws' : va_W) {a v N9 : Nat} {vs : List Value} {T : u_T} {N : Nat} {f : Nat → Option Nat} {i : Int32} (ha : ws[j]? = some (a, .inl (cy 100 3, N9, .inr (.inr (.inr (.inr f)))))) (hv : ws[jk]? = some (v, .inr (ci, vs))) (hc : vwCl[ci]? = some ("PoolRenumberer$State", T, N)) (hi : inb i N9 = true) (hw2 : ws.set j (a, .inl (cy 100 3, N9, .inr (.inr (.inr (.inr (va_up f i.toNatClampNeg (some v))))))) = ws') (hd : decode cc pc = .ok (.aastore, 1)) (hq : pc + 1 = q) (h : Ik G A p l e R s m args below meth c nL Q q lv st ws' n k) : Ik G A p l e R s m args below meth c nL Q pc lv (.ref v :: .int i :: .ref a :: st) ws n k := by
  subst hq
  subst hw2
  intro H locs ls hP hD hS hl
  exact va_astq (r := ("PoolRenumberer$State", T, N)) C.1 C.2.1 C.2.2.2.2.2.2.2.1 hP hD hS j 3 jk ci ha rfl hv hc (inb_in hi) hd (fun H1 locs1 hP1 hD1 hS1 => h H1 locs1 ls hP1 hD1 hS1 hl)
theorem wk_blind {h0 sz : Nat} {bl : va_E} {as : List Value} : FrameBlind (va_Pc as (Wk G cy h0 bl sz)) := by
  intro a T g mk h
  obtain ⟨h1, h2, h3, h4, h5, h6, h7⟩ := h
  exact ⟨h1, h2, h3, va_K.moved (u := T) (U := T.calling g mk a) (Vm.Alike.refl T.vm) h4, Nwa.same (u := T) rfl h5, Sfix.same (u := T) rfl h6, va_AO.moved (u := T) (U := T.calling g mk a) (Vm.Alike.refl T.vm) h7⟩
theorem wk_F (C : Cx G cy [] A p s m meth c args cc own nL rt) {x : Nat × va_E} {wr : va_W} {H : Heap} {locs : List Loc} (hD : va_D A (x :: wr)) (hS : va_S A s.heap H locs) : ∀ q : Nat, va_A [x] H.size q → A q := by
  intro q h
  rcases h with ⟨k, e, h⟩ | h
  · cases k with
    | zero =>
      rw [List.getElem?_cons_zero] at h
      cases h
      exact hD.2 0 _ (by rw [List.getElem?_cons_zero])
    | succ j =>
      rw [List.getElem?_cons_succ] at h
      simp at h
  · exact C.2.2.2.2.2.2.2.2.2.2.2.2 q (Nat.le_trans hS.1 h)
theorem wk_pre (C : Cx G cy [] A p s m meth c args cc own nL rt) (hAO : va_AO "PoolRenumberer$State" s) {h1 : Nat} {bl : va_E} {wr : va_W} {H : Heap} {locs : List Loc} (hP : va_P G vwCl ((h1, bl) :: wr) H) (hD : va_D A ((h1, bl) :: wr)) (hS : va_S A s.heap H locs) (as : List Value) : ∀ T : State, T.heap = H → s.WarmedH T.vm → va_Pc as (Wk G cy h1 bl H.size) as.toArray T := by
  intro T hT hW
  refine ⟨rfl, by rw [hT], ?_, va_K.moved hW.alike C.2.2.2.2.2.2.2.1, C.2.2.2.2.2.2.2.2.1.warm hW, ?_, va_AO.moved hW.alike hAO⟩
  · rw [hT]
    intro k q hk
    cases k with
    | zero =>
      rw [List.getElem?_cons_zero] at hk
      exact hP 0 q (by rw [List.getElem?_cons_zero]; exact hk)
    | succ j =>
      rw [List.getElem?_cons_succ] at hk
      simp at hk
  · rw [hT]
    exact ((C.2.2.2.2.2.2.2.2.2.1.kept (fun a h1 h2 => hS.2.1 a h1 h2)).narrow (wk_F C hD hS)).warm hW
def Kok (y : MethodName) (cb : ByteArray) (mx n : Nat) : Prop := y.name = "<init>" ∧ Cond.instanceMethod y ∈ gt_T ∧ Cond.initialized y.cls ∈ gt_T ∧ Cond.code y cb mx none ∈ gt_T ∧ (y.cls ≠ "java/lang/invoke/MethodHandle" ∧ y.cls ≠ "java/lang/invoke/VarHandle" ∧ (parseMethodDescriptor y.desc).map (fun d => d.parameters.length) = some n)
theorem ik_ctor (C : Cx G cy [] A p s m meth c args cc own nL rt) (hAO : va_AO "PoolRenumberer$State" s) (q : Nat) {y : MethodName} {cb : ByteArray} {mx n9 index : Nat} {rm : Room} {h1 : Nat} {bl : va_E} {As : List Value} {tr : (Nat → Nat) → va_W} {st0 : List Value} {wr : va_W} (V : Kok y cb mx n9) (hw : Cond.methodLink own index y ∈ gt_T) (hM : MK l G cy y cb mx rm h1 bl As tr) (hR : rm.frames + 1 ≤ R.frames ∧ 8 + (mx + 11) + rm.locals ≤ R.locals) (hn : As.length = n9) (hst : st0 = As.reverse ++ .ref h1 :: st) (hcat : (st.map fun v => v.category).sum ≤ 8) (hf : n + rm.cells ≤ R.cells ∧ k + rm.slots ≤ R.slots) (hd : decode cc pc = .ok (.invokespecial index, 3)) (hq : pc + 3 = q) (h : ∀ a : Nat → Nat, a 0 = h1 → Ik G A p l e R s m args below meth c nL Q q lv st (wr ++ tr a) (n + rm.cells) (k + rm.slots)) : Ik G A p l e R s m args below meth c nL Q pc lv st0 ((h1, bl) :: wr) n k := by
  subst hq
  intro H locs ls hP hD hS hl
  have hts := C.2.2.2.2.1
  refine va_callv (va_runI (Ts := gt_T) (As := As) (rest := st) ⟨C.1, C.2.1, C.2.2.1, C.2.2.2.1, hts⟩ (hM H.size) ⟨callB_of n9 hts (gi_ws V.2.2.2.1) rfl rfl rfl (hts _ V.2.2.1) (hts _ hw) V.2.2.2.2 hR, V.1, hts _ V.2.1⟩ ⟨wk_blind, wk_pre C hAO hP hD hS _⟩ rfl hn hl.1 hst (lv_room hcat) hd hf) hS (fun q _ h => wk_F C hD hS q h) (wk_F C hD hS) (fun a t H1 locs1 ht hvm hw1 hB hz hk hS1 => ?_)
  obtain ⟨hP1, hD1⟩ := hB
  rw [ht] at hP1
  obtain ⟨hP2, hD2⟩ := fr_join hP hD hk (wk_F C hD hS) hP1 hD1
  exact h a hw1 H1 locs1 ls hP2 hD2 hS1 hl
theorem ik_ctorN (C : Cx G cy [] A p s m meth c args cc own nL rt) (hAO : va_AO "PoolRenumberer$State" s) (q : Nat) {y : MethodName} {host : String} {cb : ByteArray} {mx n9 index : Nat} {rm : Room} {h1 : Nat} {bl : va_E} {As : List Value} {tr : (Nat → Nat) → va_W} {st0 : List Value} {wr : va_W} (V : Kok y cb mx n9) (hw : Cond.methodLinkNest own index y host ∈ nw_T) (hM : MK l G cy y cb mx rm h1 bl As tr) (hR : rm.frames + 1 ≤ R.frames ∧ 8 + (mx + 11) + rm.locals ≤ R.locals) (hn : As.length = n9) (hst : st0 = As.reverse ++ .ref h1 :: st) (hcat : (st.map fun v => v.category).sum ≤ 8) (hf : n + rm.cells ≤ R.cells ∧ k + rm.slots ≤ R.slots) (hd : decode cc pc = .ok (.invokespecial index, 3)) (hq : pc + 3 = q) (h : ∀ a : Nat → Nat, a 0 = h1 → Ik G A p l e R s m args below meth c nL Q q lv st (wr ++ tr a) (n + rm.cells) (k + rm.slots)) : Ik G A p l e R s m args below meth c nL Q pc lv st0 ((h1, bl) :: wr) n k := by
  subst hq
  intro H locs ls hP hD hS hl
  have hts := C.2.2.2.2.1
  refine va_callv (va_runIN (Ts := gt_T) (As := As) (rest := st) ⟨C.1, C.2.1, C.2.2.1, C.2.2.2.1, hts⟩ (hM H.size) ⟨va_cnB n9 hts (gi_ws V.2.2.2.1) rfl rfl rfl (C.2.2.2.2.2.2.2.2.1 _ hw) (hts _ V.2.2.1) V.2.2.2.2 hR, V.1, hts _ V.2.1⟩ ⟨wk_blind, wk_pre C hAO hP hD hS _⟩ rfl hn hl.1 hst (lv_room hcat) hd hf) hS (fun q _ h => wk_F C hD hS q h) (wk_F C hD hS) (fun a t H1 locs1 ht hvm hw1 hB hz hk hS1 => ?_)
  obtain ⟨hP1, hD1⟩ := hB
  rw [ht] at hP1
  obtain ⟨hP2, hD2⟩ := fr_join hP hD hk (wk_F C hD hS) hP1 hD1
  exact h a hw1 H1 locs1 ls hP2 hD2 hS1 hl
theorem ik_cV (C : Cx G cy [] A p s m meth c args cc own nL rt) (q : Nat) {ad : Nat → Nat → Nat} {U : List (Nat × Nat)} {D D1 : Dt} {y : MethodName} {cb : ByteArray} {mx n9 fr lo index kd b ci : Nat} {As fs : List Value} {T : u_T} {N : Nat} {st0 : List Value} {F : Option Dt} (V : Vok y cb mx none n9) (hlink : Cond.methodLink own index y ∈ gt_T) (hM : Uinj ad U → MV l G ad U y cb mx (k2_rm fr lo) (.ref (ad kd b) :: As) D F) (hF : F = some D1) (h100 : tyL ad = tyL cy) (h101 : ad 101 = cy 101) (h102 : ad 102 = cy 102) (hm : (kd, b) ∈ U) (he : cel ad kd b (D kd b) = .inr (ci, fs)) (hc : vwCl[ci]? = some (y.cls, T, N)) (hR : Rle fr lo mx R) (hn : As.length = n9) (hst : st0 = As.reverse ++ .ref (ad kd b) :: st) (hcat : (st.map fun v => v.category).sum ≤ 8) (hf : n ≤ R.cells ∧ k ≤ R.slots) (hd : decode cc pc = .ok (.invokevirtual index, 3)) (hq : pc + 3 = q) (h : Ik G A p l e R s m args below meth c nL Q q lv st (wl ad U D1) n k) : Ik G A p l e R s m args below meth c nL Q pc lv st0 (wl ad U D) n k := by
  subst hq
  intro H locs ls hP hD hS hl
  have hts := C.2.2.2.2.1
  have hFq : ∀ q : Nat, va_A (wl ad U D) H.size q → A q := by
    intro q h9
    rcases h9 with ⟨k9, e9, h9⟩ | h9
    · exact hD.2 k9 _ h9
    · exact C.2.2.2.2.2.2.2.2.2.2.2.2 q (Nat.le_trans hS.1 h9)
  obtain ⟨q0, -, h2⟩ := wl_at (ad := ad) (D := D) hm
  rw [he] at h2
  have hK := C.2.2.2.2.2.2.2.1
  have hpre : ∀ T : State, T.heap = H → s.WarmedH T.vm → va_Pc (.ref (ad kd b) :: As) (Wd G ad U D H.size) (Value.ref (ad kd b) :: As).toArray T := by
    intro T hT hW
    refine ⟨rfl, by rw [hT], by rw [hT]; exact hP, by rw [h100]; exact va_K.moved hW.alike hK, C.2.2.2.2.2.2.2.2.1.warm hW, ?_⟩
    rw [hT]
    exact sfix_to h101 h102 (((C.2.2.2.2.2.2.2.2.2.1.kept (fun a h1 h2 => hS.2.1 a h1 h2)).narrow hFq).warm hW)
  refine va_callv (va_runV (Ts := gt_T) (C := y.cls) (bytes := cb) (maxL := mx) (ret := none) (As := As) (rest := st) ⟨C.1, C.2.1, C.2.2.1, C.2.2.2.1, hts⟩ (hM (uinj_of hD) H.size D1 hF) ⟨callB_of n9 hts (gi_ws V.2.2.2.1) rfl rfl rfl (hts _ V.2.2.1) (hts _ hlink) V.2.2.2.2 hR, hts _ V.1, hts _ V.2.1⟩ ⟨wd_blind, va_recv hK hP hc h2, hpre⟩ rfl hn hl.1 hst (lv_room hcat) hd hf) hS (fun q _ h => hFq q h) hFq (fun u t H1 locs1 ht hvm hw hB hz hk hS1 => ?_)
  have hB : va_P G vwCl (wl ad U u) t.heap := hB
  have e2 : u = D1 := hw
  rw [e2, ht] at hB
  exact h H1 locs1 ls hB (wl_Dt D1 hD) hS1 hl
theorem ik_eq {ws' : va_W} (hw : ws = ws') (h : Ik G A p l e R s m args below meth c nL Q pc lv st ws' n k) : Ik G A p l e R s m args below meth c nL Q pc lv st ws n k := hw ▸ h
theorem ik_nk {n' k' : Nat} (h1 : n = n') (h2 : k = k') (h : Ik G A p l e R s m args below meth c nL Q pc lv st ws n' k') : Ik G A p l e R s m args below meth c nL Q pc lv st ws n k := by
  subst h1
  subst h2
  exact h
end
section
variable {G : va_G} {cy : Nat → Nat → Nat} {A : Nat → Prop} {p : Program} {l : Launch} {e : Env} {R : Room} {s : State} {m : MethodId} {args : Array Value} {below : List Frame} {meth : Method} {c : Code} {nL : Nat} {cc : ByteArray} {own : String} {pc : Nat} {lv : List (Nat × Value)} {ws : va_W} {n k : Nat}
theorem ik_ret (C : Cx G cy [] A p s m meth c args cc own nL none) {h0 : Nat} {tr : (Nat → Nat) → va_W} (a : Nat → Nat) (ha : a 0 = h0) (hw : ws = tr a) (hd : decode cc pc = .ok (.return_, 1)) : Ik G A p l e R s m args below meth c nL (MQ below (va_Qv (fun a : Nat → Nat => a 0 = h0) (fun a t => va_P G vwCl (tr a) t.heap ∧ va_D A (tr a)) A) args s n k A) pc lv [] ws n k := by
  subst hw
  intro H locs ls hP hD hS hl
  exact W.vret C.1 C.2.1 C.2.2.2.2.2.1 (fun t ht hW => ⟨⟨a, rfl, ha, (show va_P G vwCl (tr a) t.heap by rw [ht]; exact hP), hD⟩, hS.F ht⟩) hS.2.2 hd C.2.2.2.2.2.2.1
theorem mK_of {y : MethodName} {cb : ByteArray} {mx : Nat} {rm : Room} {h0 : Nat} {bl : va_E} {As : List Value} {tr : (Nat → Nat) → va_W} {lv : List (Nat × Value)} (hy : plainName y.cls = true) (hyn : y.name = "<init>") (hlv : lv_args 0 (.ref h0 :: As) = lv) (hlen : (lg_sl (.ref h0 :: As)).length ≤ mx) (h : ∀ (A : Nat → Prop) (p : Program) (e : Env) (s : State) (m : MethodId) (args : Array Value) (below : List Frame) (meth : Method) (c : Code), Cx G cy [] A p s m meth c args cb y.cls mx none → meth.name = "<init>" → va_AO "PoolRenumberer$State" s → Ik G A p l e rm s m args below meth c mx (MQ below (va_Qv (fun a : Nat → Nat => a 0 = h0) (fun a t => va_P G vwCl (tr a) t.heap ∧ va_D A (tr a)) A) args s rm.cells rm.slots A) 0 lv [] [(h0, bl)] 0 0) : MK l G cy y cb mx rm h0 bl As tr := by
  intro sz
  refine Met.ofW (cc := cb) (maxL := mx) (ret := none) hy rfl ?_
  intro p e s m args below meth c s₁ B hml hv
  obtain ⟨rfl, hv⟩ := hv
  obtain ⟨hsz, h2, h3, h4, h5, h6⟩ := hv
  subst hsz
  have hl := lv_entry (.ref h0 :: As) (n := mx) hlen
  rw [lg_entry_eq]
  rw [hlv] at hl
  have hts := atoms_spec (ws := wsG y cb mx none) B.pre
  have hC : Cx G cy [] (va_A [(h0, bl)] s.heap.size) p s m meth c (Value.ref h0 :: As).toArray cb y.cls mx none := ⟨B.exec, B.bytes, hml, findClass_of_methodNamed B.named, fun w hw => hts w (List.mem_cons_of_mem _ hw), B.returns, B.notSynchronized, h3, h4, h5, (fun i j p q hi _ _ => by simp at hi), (fun w hw => absurd hw List.not_mem_nil), (fun q h => Or.inr h)⟩
  have hnm : meth.name = "<init>" := by rw [(name_of_methodNamed B.named B.method).1]; exact hyn
  have hD : va_D (va_A [(h0, bl)] s.heap.size) [(h0, bl)] := by
    refine ⟨fun i j y z hi hj _ => ?_, fun k q hk => va_A.in hk⟩
    have a1 := (List.getElem?_eq_some_iff.mp hi).1
    have a2 := (List.getElem?_eq_some_iff.mp hj).1
    simp at a1 a2
    omega
  exact h _ p e s m _ below meth c hC hnm h6 s.heap [] _ h2 hD va_S.rf hl
end
