/-! the blocks of the networks: k-th of 24, current ones and old ones in turn -/
def OB (x y : Int32) (o : Option (Nat × Nat)) : Prop := match o with
  | none => x = -1
  | some q => x = nI q.1 ∧ y = nI q.2 ∧ q.1 < 65536 ∧ q.2 ≤ 16
def SpV (D : Dt) (b : Nat) (us : Nat → Option (Nat × Nat)) : Prop := ∀ n, n < 12 → OB (D 4 b n) (D 5 b n) (us (2 * n)) ∧ OB (D 6 b n) (D 7 b n) (us (2 * n + 1))
def Ap (us : Nat → Option (Nat × Nat)) : Prop := ∀ j k g l g' l', j < 24 → k < 24 → j ≠ k → us j = some (g, l) → us k = some (g', l') → g + zz l ≤ g' ∨ g' + zz l' ≤ g
theorem SpV.keep {D D' : Dt} {b : Nat} {us : Nat → Option (Nat × Nat)} (h : SpV D b us) (h4 : D' 4 b = D 4 b) (h5 : D' 5 b = D 5 b) (h6 : D' 6 b = D 6 b) (h7 : D' 7 b = D 7 b) : SpV D' b us := by
  intro n hn
  rw [h4, h5, h6, h7]
  exact h n hn
theorem isNetwork_eq (x : Int32) (D : Dt) : f_X9_isNetwork x D = some (if 0 ≤ x ∧ x < 12 then 1 else 0) := by
  simp only [f_X9_isNetwork]
  by_cases h1 : x < 0
  · rw [if_pos h1, if_neg]
    intro h
    have a1 := Int32.lt_iff_toInt_lt.mp h1
    have a2 := Int32.le_iff_toInt_le.mp h.1
    omega
  · rw [if_neg h1]
    have a1 : ¬ x.toInt < (0 : Int32).toInt := fun q => h1 (Int32.lt_iff_toInt_lt.mpr q)
    by_cases h2 : (12 : Int32) ≤ x
    · rw [if_pos h2, if_neg]
      intro h
      have a3 := Int32.le_iff_toInt_le.mp h2
      have a4 := Int32.lt_iff_toInt_lt.mp h.2
      omega
    · rw [if_neg h2, if_pos]
      have a3 : ¬ (12 : Int32).toInt ≤ x.toInt := fun q => h2 (Int32.le_iff_toInt_le.mpr q)
      exact ⟨Int32.le_iff_toInt_le.mpr (by omega), Int32.lt_iff_toInt_lt.mpr (by omega)⟩
theorem isNetwork_nI {n : Nat} (h : n < 12) (D : Dt) : f_X9_isNetwork (nI n) D = some 1 := by
  rw [isNetwork_eq, if_pos ⟨nI_pos' (by omega), nI_lt (b := 12) h (by decide)⟩]
theorem nI_nm1 {n : Nat} (h : n < 2 ^ 31) : ¬ nI n = -1 := by
  intro q
  have := congrArg Int32.toInt q
  rw [nI_toInt h] at this
  have e : (-1 : Int32).toInt = -1 := by decide
  rw [e] at this
  omega
theorem OB_has {x y : Int32} {o : Option (Nat × Nat)} (h : OB x y o) : x = -1 ↔ o = none := by
  cases o with
  | none => exact ⟨fun _ => rfl, fun _ => h⟩
  | some q => exact ⟨fun e => absurd e (by rw [h.1]; exact nI_nm1 (by have := h.2.2.1; omega)), fun e => by cases e⟩
theorem OB_neg {x y : Int32} {o : Option (Nat × Nat)} (h : OB x y o) : x < 0 ↔ o = none := by
  cases o with
  | none => exact ⟨fun _ => rfl, fun _ => by rw [show x = -1 from h]; decide⟩
  | some q => exact ⟨fun e => absurd e (by rw [h.1]; exact nI_pos (by have := h.2.2.1; omega)), fun e => by cases e⟩
theorem hasBlock_eq {D : Dt} {b n : Nat} {us : Nat → Option (Nat × Nat)} (h : SpV D b us) (hn : n < 12) : f_X5_hasBlock b (nI n) D = some (if us (2 * n) = none then 0 else 1) := by
  rw [f_X5_hasBlock, isNetwork_nI hn, Option.bind_some, if_neg (by decide), rd_at rfl hn (by decide)]
  by_cases q : us (2 * n) = none
  · rw [if_pos ((OB_has (h n hn).1).mpr q), if_pos q]
  · rw [if_neg (fun e => q ((OB_has (h n hn).1).mp e)), if_neg q]
theorem hasOld_eq {D : Dt} {b n : Nat} {us : Nat → Option (Nat × Nat)} (h : SpV D b us) (hn : n < 12) : f_X5_hasOld b (nI n) D = some (if us (2 * n + 1) = none then 0 else 1) := by
  rw [f_X5_hasOld, isNetwork_nI hn, Option.bind_some, if_neg (by decide), rd_at rfl hn (by decide)]
  by_cases q : us (2 * n + 1) = none
  · rw [if_pos ((OB_has (h n hn).2).mpr q), if_pos q]
  · rw [if_neg (fun e => q ((OB_has (h n hn).2).mp e)), if_neg q]
/-- the first m of them, sorted -/
def Used (us : Nat → Option (Nat × Nat)) (m n : Nat) (wB wE : Nat → Nat) : Prop := n ≤ m ∧ (∀ i j, i < j → j < n → wB i < wB j) ∧ (∀ i, i < n → ∃ k l, k < m ∧ us k = some (wB i, l) ∧ wE i = wB i + zz l) ∧ (∀ k g l, k < m → us k = some (g, l) → ∃ i, i < n ∧ wB i = g ∧ wE i = g + zz l)
theorem Used.none {us : Nat → Option (Nat × Nat)} {m n : Nat} {wB wE : Nat → Nat} (h : Used us m n wB wE) (hm : us m = none) : Used us (m + 1) n wB wE := by
  obtain ⟨h1, h2, h3, h4⟩ := h
  refine ⟨by omega, h2, fun i hi => ?_, fun k g l hk hu => ?_⟩
  · obtain ⟨k, l, a1, a2, a3⟩ := h3 i hi
    exact ⟨k, l, by omega, a2, a3⟩
  · by_cases q : k = m
    · rw [q, hm] at hu; cases hu
    · exact h4 k g l (by omega) hu
theorem Used.some {us : Nat → Option (Nat × Nat)} {m n g l p : Nat} {wB wE : Nat → Nat} (h : Used us m n wB wE) (hm : us m = some (g, l)) (hne : ∀ i, i < n → wB i ≠ g) (hp : p ≤ n) (p1 : ∀ i, i < p → wB i ≤ g) (p2 : ∀ i, p ≤ i → i < n → g < wB i) : Used us (m + 1) (n + 1) (insF wB p g) (insF wE p (g + zz l)) := by
  obtain ⟨h1, h2, h3, h4⟩ := h
  refine ⟨by omega, fun i j hij hj => ?_, fun i hi => ?_, fun k g' l' hk hu => ?_⟩
  · simp only [insF]
    by_cases a1 : j < p
    · rw [if_pos (by omega), if_pos a1]
      exact h2 i j hij (by omega)
    · rw [if_neg a1]
      by_cases a2 : j = p
      · rw [if_pos a2, if_pos (by omega)]
        have := p1 i (by omega)
        have := hne i (by omega)
        omega
      · rw [if_neg a2]
        by_cases a3 : i < p
        · rw [if_pos a3]
          have := p1 i a3
          have := p2 (j - 1) (by omega) (by omega)
          omega
        · rw [if_neg a3]
          by_cases a4 : i = p
          · rw [if_pos a4]
            exact p2 (j - 1) (by omega) (by omega)
          · rw [if_neg a4]
            exact h2 (i - 1) (j - 1) (by omega) (by omega)
  · simp only [insF]
    by_cases a1 : i < p
    · rw [if_pos a1, if_pos a1]
      obtain ⟨k, l2, b1, b2, b3⟩ := h3 i (by omega)
      exact ⟨k, l2, by omega, b2, b3⟩
    · rw [if_neg a1, if_neg a1]
      by_cases a2 : i = p
      · rw [if_pos a2, if_pos a2]
        exact ⟨m, l, by omega, hm, rfl⟩
      · rw [if_neg a2, if_neg a2]
        obtain ⟨k, l2, b1, b2, b3⟩ := h3 (i - 1) (by omega)
        exact ⟨k, l2, by omega, b2, b3⟩
  · simp only [insF]
    by_cases q : k = m
    · rw [q, hm] at hu
      cases hu
      exact ⟨p, by omega, by simp, by simp⟩
    · obtain ⟨i, b1, b2, b3⟩ := h4 k g' l' (by omega) hu
      by_cases a1 : i < p
      · exact ⟨i, by omega, by rw [if_pos a1]; exact b2, by rw [if_pos a1]; exact b3⟩
      · refine ⟨i + 1, by omega, ?_, ?_⟩
        · rw [if_neg (by omega), if_neg (by omega)]; exact b2
        · rw [if_neg (by omega), if_neg (by omega)]; exact b3
