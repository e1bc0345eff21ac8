/-! a row of the store set as a whole -/
def rowD (D : Dt) (k b : Nat) (g : Nat → Int32) : Dt := fun k' b' i => if k' = k ∧ b' = b then g i else D k' b' i
theorem rowD_at (D : Dt) (k b : Nat) (g : Nat → Int32) : rowD D k b g k b = g := by
  funext i
  simp [rowD]
theorem rowD_ne (D : Dt) {k b k' b' : Nat} (g : Nat → Int32) (h : ¬ (k' = k ∧ b' = b)) : rowD D k b g k' b' = D k' b' := by
  funext i
  simp only [rowD]
  rw [if_neg h]
theorem rowD_self (D : Dt) (k b : Nat) : rowD D k b (D k b) = D := by
  funext k' b' i
  simp only [rowD]
  by_cases h : k' = k ∧ b' = b
  · rw [if_pos h, h.1, h.2]
  · rw [if_neg h]
theorem rowD_upd (D : Dt) (k b i : Nat) (g : Nat → Int32) (x : Int32) : updD (rowD D k b g) k b i x = rowD D k b (upd g i x) := by
  funext k' b' j
  simp only [rowD, updD, upd]
  by_cases h : k' = k ∧ b' = b
  · obtain ⟨rfl, rfl⟩ := h
    by_cases hj : j = i
    · simp [hj]
    · simp [hj]
  · rw [if_neg (fun q => h ⟨q.1, q.2.1⟩), if_neg h, if_neg h]
theorem updD_row (D : Dt) (k b i : Nat) (x : Int32) : updD D k b i x = rowD D k b (upd (D k b) i x) := by
  have := rowD_upd D k b i (D k b) x
  rw [rowD_self] at this
  exact this
theorem rowD_2 (D : Dt) (k b : Nat) (g g' : Nat → Int32) : rowD (rowD D k b g) k b g' = rowD D k b g' := by
  funext k' b' j
  simp only [rowD]
  by_cases h : k' = k ∧ b' = b
  · rw [if_pos h, if_pos h]
  · rw [if_neg h, if_neg h, if_neg h]
theorem rowD_comm (D : Dt) {k b k2 b2 : Nat} (g g' : Nat → Int32) (h : ¬ (k2 = k ∧ b2 = b)) : rowD (rowD D k b g) k2 b2 g' = rowD (rowD D k2 b2 g') k b g := by
  funext k' b' j
  simp only [rowD]
  by_cases h1 : k' = k2 ∧ b' = b2
  · rw [if_pos h1, if_neg (fun q => h ⟨h1.1.symm.trans q.1, h1.2.symm.trans q.2⟩), if_pos h1]
  · rw [if_neg h1, if_neg h1]
/-! numbers as the reference reckons them -/
theorem net_nI (j : Nat) : (14 : Int32) + ((5 : Int32) * nI j) = nI (14 + 5 * j) := by
  rw [show (14 : Int32) = nI 14 from rfl, show (5 : Int32) = nI 5 from rfl, pk_mul, nI_add]
theorem hst_nI (j : Nat) : (74 : Int32) + ((6 : Int32) * nI j) = nI (74 + 6 * j) := by
  rw [show (74 : Int32) = nI 74 from rfl, show (6 : Int32) = nI 6 from rfl, pk_mul, nI_add]
theorem p_X10_net (j : Nat) (D : Dt) : f_X10_net (nI j) D = some (nI (14 + 5 * j)) := by
  rw [f_X10_net, net_nI]
theorem p_X10_hostAt (j : Nat) (D : Dt) : f_X10_hostAt (nI j) D = some (nI (74 + 6 * j)) := by
  rw [f_X10_hostAt, hst_nI]
theorem p_X10_leaves {j : Nat} (D : Dt) (hj : j < 16) : f_X10_leaves (nI j) D = some (rowD D 33 0 (upd (upd (upd (D 33 0) (74 + 6 * j) (-1)) (74 + 6 * j + 2) (-1)) (74 + 6 * j + 4) (-1))) := by
  simp only [f_X10_leaves, p_X10_hostAt, Option.bind_some]
  rw [wr_at rfl (by omega) (by decide)]
  rw [wr_at (show nI (74 + 6 * j) + (2 : Int32) = nI (74 + 6 * j + 2) from nI_add _ 2) (by omega) (by decide)]
  rw [wr_at (show nI (74 + 6 * j) + (4 : Int32) = nI (74 + 6 * j + 4) from nI_add _ 4) (by omega) (by decide)]
  rw [updD_row D 33 0 (74 + 6 * j) (-1), rowD_upd, rowD_upd]
def e1M (g : Nat → Int32) (n : Nat) : Nat → Int32 := fun j => if j < n then 0 else g j
def e2M (g : Nat → Int32) (n : Nat) : Nat → Int32 := fun j => if 14 ≤ j ∧ j < 14 + 5 * n ∧ ((j - 14) % 5 = 0 ∨ (j - 14) % 5 = 2) then -1 else g j
def e3M (g : Nat → Int32) (n : Nat) : Nat → Int32 := fun j => if 74 ≤ j ∧ j < 74 + 6 * n ∧ (j - 74) % 2 = 0 then -1 else g j
theorem e1M_s (g : Nat → Int32) (n : Nat) : upd (e1M g n) n 0 = e1M g (n + 1) := by
  funext j
  simp only [upd, e1M]
  by_cases h : j = n
  · subst h
    rw [if_pos rfl, if_pos (by omega)]
  · rw [if_neg h]
    by_cases h2 : j < n
    · rw [if_pos h2, if_pos (by omega)]
    · rw [if_neg h2, if_neg (by omega)]
theorem e2M_s (g : Nat → Int32) (n : Nat) : upd (upd (e2M g n) (14 + 5 * n) (-1)) (14 + 5 * n + 2) (-1) = e2M g (n + 1) := by
  funext j
  simp only [upd, e2M]
  by_cases h : j = 14 + 5 * n + 2
  · rw [if_pos h, if_pos (by omega)]
  · rw [if_neg h]
    by_cases h2 : j = 14 + 5 * n
    · rw [if_pos h2, if_pos (by omega)]
    · rw [if_neg h2]
      by_cases h3 : 14 ≤ j ∧ j < 14 + 5 * n ∧ ((j - 14) % 5 = 0 ∨ (j - 14) % 5 = 2)
      · rw [if_pos h3, if_pos (by omega)]
      · rw [if_neg h3, if_neg (by omega)]
theorem e3M_s (g : Nat → Int32) (n : Nat) : upd (upd (upd (e3M g n) (74 + 6 * n) (-1)) (74 + 6 * n + 2) (-1)) (74 + 6 * n + 4) (-1) = e3M g (n + 1) := by
  funext j
  simp only [upd, e3M]
  by_cases h : j = 74 + 6 * n + 4
  · rw [if_pos h, if_pos (by omega)]
  · rw [if_neg h]
    by_cases h2 : j = 74 + 6 * n + 2
    · rw [if_pos h2, if_pos (by omega)]
    · rw [if_neg h2]
      by_cases h4 : j = 74 + 6 * n
      · rw [if_pos h4, if_pos (by omega)]
      · rw [if_neg h4]
        by_cases h3 : 74 ≤ j ∧ j < 74 + 6 * n ∧ (j - 74) % 2 = 0
        · rw [if_pos h3, if_pos (by omega)]
        · rw [if_neg h3, if_neg (by omega)]
theorem p_X10_empties (D : Dt) : f_X10_empties D = some (rowD D 33 0 (e3M (e2M (upd (upd (e1M (D 33 0) 170) 1 60) 2 100) 12) 16)) := by
  have h1 : lp l_X10_empties_2 FU ((0 : Int32), D) = some (rowD D 33 0 (e1M (D 33 0) 170)) := by
    apply lp_to (fun i => (nI i, rowD D 33 0 (e1M (D 33 0) i))) 170
    · show (nI 0, rowD D 33 0 (fun j => if j < 0 then 0 else D 33 0 j)) = ((0 : Int32), D)
      simp only [Nat.not_lt_zero, if_false]
      rw [show (fun j => D 33 0 j) = D 33 0 from rfl, rowD_self]
      rfl
    · exact FU_big (by decide)
    · intro i hi
      simp only [l_X10_empties_2]
      rw [if_neg (show ¬ (170 : Int32) ≤ nI i from nI_ge (b := 170) hi (by decide)), wr_at rfl hi (by decide), rowD_upd, e1M_s, nI_1]
    · rfl
  have h2 : ∀ (E : Dt) (g : Nat → Int32), lp l_X10_empties_40 FU ((0 : Int32), rowD E 33 0 g) = some (rowD E 33 0 (e2M g 12)) := by
    intro E g
    apply lp_to (fun i => (nI i, rowD E 33 0 (e2M g i))) 12
    · have e0 : e2M g 0 = g := by
        funext j
        simp only [e2M]
        rw [if_neg (by omega)]
      show (nI 0, rowD E 33 0 (e2M g 0)) = _
      rw [e0]
      rfl
    · exact FU_big (by decide)
    · intro i hi
      simp only [l_X10_empties_40, p_X10_net, Option.bind_some]
      rw [if_neg (show ¬ (12 : Int32) ≤ nI i from nI_ge (b := 12) hi (by decide))]
      rw [wr_at rfl (by omega) (by decide)]
      rw [wr_at (show nI (14 + 5 * i) + (2 : Int32) = nI (14 + 5 * i + 2) from nI_add _ 2) (by omega) (by decide)]
      rw [rowD_upd, rowD_upd, e2M_s, nI_1]
    · rfl
  have h3 : ∀ (E : Dt) (g : Nat → Int32), lp l_X10_empties_76 FU ((0 : Int32), rowD E 33 0 g) = some (rowD E 33 0 (e3M g 16)) := by
    intro E g
    apply lp_to (fun i => (nI i, rowD E 33 0 (e3M g i))) 16
    · have e0 : e3M g 0 = g := by
        funext j
        simp only [e3M]
        rw [if_neg (by omega)]
      show (nI 0, rowD E 33 0 (e3M g 0)) = _
      rw [e0]
      rfl
    · exact FU_big (by decide)
    · intro i hi
      simp only [l_X10_empties_76]
      rw [if_neg (show ¬ (16 : Int32) ≤ nI i from nI_ge (b := 16) hi (by decide)), p_X10_leaves _ hi, Option.bind_some]
      rw [rowD_at, rowD_2, e3M_s, nI_1]
    · rfl
  rw [f_X10_empties, h1, Option.bind_some, wr_at (i := (1 : Int32)) (j := 1) rfl (by decide) (by decide), wr_at (i := (2 : Int32)) (j := 2) rfl (by decide) (by decide), rowD_upd, rowD_upd, h2, Option.bind_some, h3, Option.bind_some]
theorem e_s0 (j : Nat) : e3M (e2M (upd (upd (e1M (fun _ => 0) 170) 1 60) 2 100) 12) 16 j = s0M j := by
  simp only [e3M, e2M, e1M, upd, s0M]
  by_cases h1 : j = 1
  · subst h1
    rfl
  · by_cases h2 : j = 2
    · subst h2
      rfl
    · simp only [if_neg h1, if_neg h2]
      by_cases h3 : 14 ≤ j ∧ j < 74
      · rw [if_neg (show ¬ (74 ≤ j ∧ j < 74 + 6 * 16 ∧ (j - 74) % 2 = 0) by omega), if_pos h3]
        by_cases h4 : (j - 14) % 5 = 0 ∨ (j - 14) % 5 = 2
        · rw [if_pos (show 14 ≤ j ∧ j < 14 + 5 * 12 ∧ ((j - 14) % 5 = 0 ∨ (j - 14) % 5 = 2) by omega), if_pos h4]
        · rw [if_neg (show ¬ (14 ≤ j ∧ j < 14 + 5 * 12 ∧ ((j - 14) % 5 = 0 ∨ (j - 14) % 5 = 2)) by omega), if_neg h4, ite_self]
      · rw [if_neg h3]
        by_cases h5 : 74 ≤ j ∧ j < 170
        · rw [if_pos h5]
          by_cases h6 : (j - 74) % 2 = 0
          · rw [if_pos (show 74 ≤ j ∧ j < 74 + 6 * 16 ∧ (j - 74) % 2 = 0 by omega), if_pos h6]
          · rw [if_neg (show ¬ (74 ≤ j ∧ j < 74 + 6 * 16 ∧ (j - 74) % 2 = 0) by omega), if_neg (show ¬ (14 ≤ j ∧ j < 14 + 5 * 12 ∧ ((j - 14) % 5 = 0 ∨ (j - 14) % 5 = 2)) by omega), if_neg h6, ite_self]
        · rw [if_neg h5, if_neg (show ¬ (74 ≤ j ∧ j < 74 + 6 * 16 ∧ (j - 74) % 2 = 0) by omega), if_neg (show ¬ (14 ≤ j ∧ j < 14 + 5 * 12 ∧ ((j - 14) % 5 = 0 ∨ (j - 14) % 5 = 2)) by omega), ite_self]
def r_10 : Dt := rowD Dz 33 0 (e3M (e2M (upd (upd (e1M (Dz 33 0) 170) 1 60) 2 100) 12) 16)
theorem r_10_ok : f_X10_empties Dz = some r_10 := p_X10_empties Dz
theorem r_10_eq : ∀ w ∈ [(32, 0), (33, 0), (34, 0), (35, 0), (36, 0), (37, 0), (38, 0), (39, 0)], r_10 w.1 w.2 = D0 w.1 w.2 := by
  intro w hw
  simp only [List.mem_cons, List.not_mem_nil, or_false] at hw
  rcases hw with rfl | rfl | rfl | rfl | rfl | rfl | rfl | rfl
  · funext i; simp [r_10, rowD, Dz, D0]
  · funext i
    show r_10 33 0 i = D0 33 0 i
    rw [r_10, rowD_at]
    show e3M (e2M (upd (upd (e1M (fun _ => 0) 170) 1 60) 2 100) 12) 16 i = D0 33 0 i
    rw [e_s0]
    rfl
  all_goals (funext i; simp [r_10, rowD, Dz, D0])
/-! a row of references read to its length alone -/
theorem vp_ref {cA : ClassId} {N : Nat} {f f' : Nat → Option Nat} (h : ∀ j, j < N → f j = f' j) : vp_cell cA (N, .inr (.inr (.inr (.inr f)))) = vp_cell cA (N, .inr (.inr (.inr (.inr f')))) := by
  have e1 : (fun j : Fin N => va_rf (f j.val)) = (fun j : Fin N => va_rf (f' j.val)) := funext (fun j => by rw [h j.1 j.2])
  exact congrArg (fun g => ({ cls := cA, slots := Array.ofFn (n := N) g, vm := .none } : Cell)) e1
theorem ik_arr {G : va_G} {A : Nat → Prop} {p : Program} {l : Launch} {e : Env} {R : Room} {s : State} {m : MethodId} {args : Array Value} {below : List Frame} {meth : Method} {c : Code} {nL : Nat} {Q : State → Prop} {pc : Nat} {lv : List (Nat × Value)} {st : List Value} {ws ws' : va_W} {n k : Nat} (j : Nat) {a : Nat} {cA : ClassId} {x x' : vp_A} (he : ws[j]? = some (a, .inl (cA, x))) (hx : vp_cell cA x = vp_cell cA x') (hw : ws.set j (a, .inl (cA, x')) = ws') (h : Ik G A p l e R s m args below meth c nL Q pc lv st ws' n k) : Ik G A p l e R s m args below meth c nL Q pc lv st ws n k := by
  subst hw
  intro H locs ls hP hD hS hl
  have h1 : H[a]? = some (vp_cell cA x) := hP j _ he
  rw [hx] at h1
  exact h H locs ls (hP.set hD he h1 (fun _ _ => rfl)) (hD.set he) hS hl
theorem ik_astr {G : va_G} {cy : Nat → Nat → Nat} {A : Nat → Prop} {p : Program} {l : Launch} {e : Env} {R : Room} {s : State} {m : MethodId} {args : Array Value} {below : List Frame} {meth : Method} {c : Code} {nL : Nat} {Q : State → Prop} {cc : ByteArray} {own : String} {rt : Option FieldType} {pc : Nat} {lv : List (Nat × Value)} {st : List Value} {ws : va_W} {n k : Nat} (C : Cx G cy [] A p s m meth c args cc own nL rt) (q j jk ci jj : Nat) (ws' : va_W) {a v N9 : Nat} {vs : List Value} {T : u_T} {N : Nat} {f : Nat → Option Nat} {i : Int32} (ha : ws[j]? = some (a, .inl (cy 100 3, N9, .inr (.inr (.inr (.inr f)))))) (hv : ws[jk]? = some (v, .inr (ci, vs))) (hc : vwCl[ci]? = some ("PoolRenumberer$State", T, N)) (hi : i = nI jj) (hj : jj < N9) (hN9 : N9 < 2 ^ 31) (hw2 : ws.set j (a, .inl (cy 100 3, N9, .inr (.inr (.inr (.inr (va_up f jj (some v))))))) = ws') (hd : decode cc pc = .ok (.aastore, 1)) (hq : pc + 1 = q) (h : Ik G A p l e R s m args below meth c nL Q q lv st ws' n k) : Ik G A p l e R s m args below meth c nL Q pc lv (.ref v :: .int i :: .ref a :: st) ws n k := by
  subst hi
  refine ik_astq C q j jk ci ws' ha hv hc (inb_nI hj hN9) ?_ hd hq h
  rw [nI_clamp (by omega)]
  exact hw2
