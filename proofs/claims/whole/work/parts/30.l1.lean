/-! what is reckoned out of a list of blocks: class and reference -/
def xA (l : List (Nat × Nat)) (i : Nat) : Nat := (l.getD i (0, 0)).1
def yA (l : List (Nat × Nat)) (i : Nat) : Nat := (l.getD i (0, 0)).2
theorem getD_some {l : List (Nat × Nat)} {i : Nat} (h : i < l.length) : l[i]? = some (xA l i, yA l i) := by
  have e : l[i]? = some l[i] := List.getElem?_eq_getElem h
  rw [e]
  simp only [xA, yA, List.getD_eq_getElem?_getD]
  rw [e]
  rfl
theorem BL.at {D : Dt} {b i : Nat} {l : List (Nat × Nat)} (h : BL D b l) (hi : i < l.length) : D 20 b i = nI (xA l i) ∧ D 21 b i = nI (yA l i) := h.2 i _ _ (getD_some hi)
theorem BR.at {D : Dt} {i : Nat} {l : List (Nat × Nat)} (h : BR D l) (hi : i < l.length) : D 37 0 i = nI (xA l i) ∧ D 38 0 i = nI (yA l i) := h.2.2 i _ _ (getD_some hi)
/-- bounds of a list of blocks -/
def LB (l : List (Nat × Nat)) : Prop := l.length ≤ 292 ∧ (∀ i, i < l.length → xA l i + zz (yA l i) ≤ 65536 ∧ yA l i ≤ 16) ∧ ∀ i j, i < l.length → j < l.length → i ≠ j → xA l i ≠ xA l j
theorem LB_cat {N : Nat} {po : Nat → Nat × Nat} {us : Nat → Option (Nat × Nat)} {ls : Nat → List (Nat × Nat)} (hG : Geo N po us) (hL : FLs N po us ls) : LB (cat ls N) := by
  refine ⟨cat_bound hG hL, fun i hi => ?_, fun i j hi hj hij => ?_⟩
  · have hm := List.mem_of_getElem? (getD_some hi)
    obtain ⟨p, h1, h2⟩ := (cat_mem N).mp hm
    obtain ⟨a1, a2, a3⟩ := FSeg_mem _ _ _ (hL p h1) _ h2
    have := (hG.2.1 p h1).2.2.2
    simp only at a1 a2 a3
    exact ⟨by omega, a3.2.1⟩
  · have hpw := List.pairwise_iff_getElem.mp (cat_pw hG hL N (Nat.le_refl _))
    have e : ∀ k (hk : k < (cat ls N).length), xA (cat ls N) k = ((cat ls N)[k]).1 := by
      intro k hk
      have h1 := getD_some hk
      rw [List.getElem?_eq_getElem hk] at h1
      injection h1 with h1
      rw [h1]
    rw [e i hi, e j hj]
    rcases Nat.lt_or_ge i j with w | w
    · exact hpw i j hi hj w
    · exact (hpw j i hj hi (by omega)).symm
theorem st292 {α : Type} {i n : Nat} {x x' y : α} (h : i < n) (hn : n ≤ 292) : (if (292 : Int32) ≤ nI i then x else if nI n ≤ nI i then x' else y) = y := by
  rw [if_neg (g292 (by omega)), if_neg (nI_ge h (by omega))]
theorem ex292 {α : Type} {n : Nat} {x y : α} (hn : n ≤ 292) : (if (292 : Int32) ≤ nI n then x else if nI n ≤ nI n then x else y) = x := by
  by_cases h : n = 292
  · subst h
    rw [if_pos (by decide)]
  · rw [if_neg (g292 (by omega)), if_pos (nI_le (Nat.le_refl _) (by omega))]
/-! blocks of a length; room -/
def bofI (x : Int32) (l : List (Nat × Nat)) (n : Nat) : Int32 := itN (fun i a => if nI (yA l i) = x then a + 1 else a + 0) n 0
theorem p_blocksOf {D : Dt} {b : Nat} {l : List (Nat × Nat)} (x : Int32) (hB : BL D b l) (hl : LB l) : f_X0_blocksOf b x D = some (bofI x l l.length) := by
  have h : lp (l_X0_blocksOf_4 b x D) FU ((0 : Int32), (0 : Int32)) = some (bofI x l l.length) := by
    apply lp_a (fun i a => if nI (yA l i) = x then a + 1 else a + 0) l.length (0 : Int32)
    · have := hl.1; omega
    · intro i hi
      simp only [l_X0_blocksOf_4, hB.1]
      rw [st292 hi hl.1, rd_at rfl (show i < 292 by have := hl.1; omega) (by decide), (hB.at hi).2]
      by_cases w : nI (yA l i) = x
      · rw [if_pos w, if_pos w]
      · rw [if_neg w, if_neg w]
    · simp only [l_X0_blocksOf_4, hB.1]
      rw [ex292 hl.1]
      rfl
  rw [f_X0_blocksOf, h, Option.bind_some]
theorem p_X10_fb20 {D : Dt} {l : List (Nat × Nat)} (x : Int32) (hB : BR D l) (hl : LB l) : lp (l_X10_freeBlocks_20 x D) FU ((0 : Int32), (0 : Int32)) = some (bofI x l l.length) := by
  have hn := hl.1
  apply lp_a (fun i a => if nI (yA l i) = x then a + 1 else a + 0) l.length (0 : Int32)
  · omega
  · intro i hi
    simp only [l_X10_freeBlocks_20, hB.1]
    rw [if_neg (nI_ge hi (by omega)), rd_at rfl (show i < 800 by omega) (by decide), (hB.at hi).2]
    by_cases w : nI (yA l i) = x
    · rw [if_pos w, if_pos w]
    · rw [if_neg w, if_neg w]
  · simp only [l_X10_freeBlocks_20, hB.1]
    rw [if_pos (nI_le (Nat.le_refl _) (by omega))]
    rfl
def rooI (x : Int32) (l : List (Nat × Nat)) (n : Nat) : Int32 := itN (fun i a => if x < nI (yA l i) then a + 0 else a + ((1 : Int32) <<< ((x - nI (yA l i)) &&& 31))) n 0
theorem p_roomFor {D : Dt} {b : Nat} {l : List (Nat × Nat)} (x : Int32) (hB : BL D b l) (hl : LB l) : f_X0_roomFor b x D = some (rooI x l l.length) := by
  have h : lp (l_X0_roomFor_4 b x D) FU ((0 : Int32), (0 : Int32)) = some (rooI x l l.length) := by
    apply lp_a (fun i a => if x < nI (yA l i) then a + 0 else a + ((1 : Int32) <<< ((x - nI (yA l i)) &&& 31))) l.length (0 : Int32)
    · have := hl.1; omega
    · intro i hi
      simp only [l_X0_roomFor_4, hB.1]
      rw [st292 hi hl.1, rd_at rfl (show i < 292 by have := hl.1; omega) (by decide), rd_at rfl (show i < 292 by have := hl.1; omega) (by decide), (hB.at hi).2]
      by_cases w : x < nI (yA l i)
      · rw [if_pos w, if_pos w]
      · rw [if_neg w, if_neg w]
        rfl
    · simp only [l_X0_roomFor_4, hB.1]
      rw [ex292 hl.1]
      rfl
  rw [f_X0_roomFor, h, Option.bind_some]
theorem p_X10_cap20 {D : Dt} {l : List (Nat × Nat)} (x : Int32) (hB : BR D l) (hl : LB l) : lp (l_X10_capacity_20 x D) FU ((0 : Int32), (0 : Int32)) = some (rooI x l l.length) := by
  have hn := hl.1
  apply lp_a (fun i a => if x < nI (yA l i) then a + 0 else a + ((1 : Int32) <<< ((x - nI (yA l i)) &&& 31))) l.length (0 : Int32)
  · omega
  · intro i hi
    simp only [l_X10_capacity_20, hB.1]
    rw [if_neg (nI_ge hi (by omega)), rd_at rfl (show i < 800 by omega) (by decide), rd_at rfl (show i < 800 by omega) (by decide), (hB.at hi).2]
    by_cases w : x < nI (yA l i)
    · rw [if_pos w, if_pos w]
    · rw [if_neg w, if_neg w]
      rfl
  · simp only [l_X10_capacity_20, hB.1]
    rw [if_pos (nI_le (Nat.le_refl _) (by omega))]
    rfl
/-! the greatest block, the sum, the index -/
def mnI (l : List (Nat × Nat)) : Nat → Nat
  | 0 => 0
  | i + 1 => if i = 0 then yA l 0 else if yA l i < mnI l i then yA l i else mnI l i
def mnV (z : Int32) (l : List (Nat × Nat)) (i : Nat) : Int32 := if i = 0 then z else nI (mnI l i)
theorem mnI_in {l : List (Nat × Nat)} : ∀ i, 0 < i → ∃ j, j < i ∧ mnI l i = yA l j := by
  intro i
  induction i with
  | zero => intro h; omega
  | succ i ih =>
    intro _
    simp only [mnI]
    by_cases w : i = 0
    · rw [if_pos w]
      exact ⟨0, by omega, rfl⟩
    · rw [if_neg w]
      by_cases w2 : yA l i < mnI l i
      · rw [if_pos w2]
        exact ⟨i, by omega, rfl⟩
      · rw [if_neg w2]
        obtain ⟨j, h1, h2⟩ := ih (by omega)
        exact ⟨j, by omega, h2⟩
theorem mnI_le {l : List (Nat × Nat)} {i : Nat} (hl : LB l) (h0 : 0 < i) (hi : i ≤ l.length) : mnI l i ≤ 16 := by
  obtain ⟨j, h1, h2⟩ := mnI_in (l := l) i h0
  rw [h2]
  exact (hl.2.1 j (by omega)).2
theorem mnV_s {z : Int32} {l : List (Nat × Nat)} {i : Nat} (hz : z < 0) (hl : LB l) (hi : i < l.length) : mnV z l (i + 1) = (if mnV z l i = z then nI (yA l i) else if mnV z l i ≤ nI (yA l i) then mnV z l i else nI (yA l i)) := by
  have hy := (hl.2.1 i hi).2
  have e1 : mnV z l (i + 1) = nI (mnI l (i + 1)) := if_neg (by omega)
  rw [e1]
  by_cases w : i = 0
  · subst w
    simp [mnV, mnI]
  · have hm := mnI_le hl (show 0 < i by omega) (Nat.le_of_lt hi)
    have e0 : mnV z l i = nI (mnI l i) := if_neg w
    have e2 : mnI l (i + 1) = if yA l i < mnI l i then yA l i else mnI l i := by
      simp only [mnI]
      rw [if_neg w]
    have e3 : ¬ nI (mnI l i) = z := by
      intro e
      rw [← e] at hz
      exact nI_pos (by omega) hz
    rw [e0, e2, if_neg e3, if_le (by omega) (by omega)]
    by_cases w2 : yA l i < mnI l i
    · rw [if_pos w2, if_neg (by omega)]
    · rw [if_neg w2, if_pos (by omega)]
theorem p_shortest {D : Dt} {b : Nat} {l : List (Nat × Nat)} (hB : BL D b l) (hl : LB l) : f_X0_shortest b D = some (mnV (-1) l l.length) := by
  have h : lp (l_X0_shortest_4 b D) FU ((-1 : Int32), (0 : Int32)) = some (mnV (-1) l l.length) := by
    apply lp_to (fun i => (mnV (-1) l i, nI i)) l.length
    · rfl
    · exact FU_big (by have := hl.1; omega)
    · intro i hi
      simp only [l_X0_shortest_4, hB.1]
      rw [st292 hi hl.1, rd_at rfl (show i < 292 by have := hl.1; omega) (by decide), rd_at rfl (show i < 292 by have := hl.1; omega) (by decide), (hB.at hi).2, mnV_s (by decide) hl hi, nI_1]
      by_cases w : mnV (-1) l i = -1
      · rw [if_pos w, if_pos w]
      · rw [if_neg w, if_neg w]
        by_cases w2 : mnV (-1) l i ≤ nI (yA l i)
        · rw [if_pos w2, if_pos w2]
        · rw [if_neg w2, if_neg w2]
    · simp only [l_X0_shortest_4, hB.1]
      rw [ex292 hl.1]
  rw [f_X0_shortest, h, Option.bind_some]
theorem p_X10_gr9 {D : Dt} {l : List (Nat × Nat)} (hB : BR D l) (hl : LB l) : lp (l_X10_greatest_9 D) FU ((-9 : Int32), (0 : Int32)) = some (mnV (-9) l l.length) := by
  have hn := hl.1
  apply lp_to (fun i => (mnV (-9) l i, nI i)) l.length
  · rfl
  · exact FU_big (by omega)
  · intro i hi
    simp only [l_X10_greatest_9, hB.1]
    rw [if_neg (nI_ge hi (by omega)), rd_at rfl (show i < 800 by omega) (by decide), rd_at rfl (show i < 800 by omega) (by decide), (hB.at hi).2, mnV_s (by decide) hl hi, nI_1]
    by_cases w : mnV (-9) l i = -9
    · rw [if_pos w, if_pos w]
    · rw [if_neg w, if_neg w]
      by_cases w2 : mnV (-9) l i ≤ nI (yA l i)
      · rw [if_pos w2, if_pos w2]
      · rw [if_neg w2, if_neg w2]
  · simp only [l_X10_greatest_9, hB.1]
    rw [if_pos (nI_le (Nat.le_refl _) (by omega))]
def szI (l : List (Nat × Nat)) : Nat → Nat
  | 0 => 0
  | i + 1 => szI l i + zz (yA l i)
theorem szI_take {l : List (Nat × Nat)} : ∀ i, i ≤ l.length → szI l i = sz (l.take i) := by
  intro i
  induction i with
  | zero => intro _; simp [szI, sz]
  | succ i ih =>
    intro h
    simp only [szI]
    rw [ih (by omega), List.take_succ, getD_some (show i < l.length by omega), sz_app]
    simp [sz]
theorem szI_len (l : List (Nat × Nat)) : szI l l.length = sz l := by
  rw [szI_take _ (Nat.le_refl _), List.take_length]
theorem szI_le (l : List (Nat × Nat)) : ∀ i, szI l i ≤ i * 65536 := by
  intro i
  induction i with
  | zero => simp [szI]
  | succ i ih =>
    simp only [szI]
    have := zz_le (yA l i)
    omega
theorem szI_ge {l : List (Nat × Nat)} {j : Nat} : ∀ i, j < i → zz (yA l j) ≤ szI l i := by
  intro i
  induction i with
  | zero => intro h; omega
  | succ i ih =>
    intro h
    simp only [szI]
    by_cases w : j = i
    · rw [w]; omega
    · have := ih (by omega)
      omega
theorem sz_le {l : List (Nat × Nat)} (hl : LB l) : sz l ≤ 292 * 65536 := by
  rw [← szI_len]
  exact Nat.le_trans (szI_le l l.length) (Nat.mul_le_mul_right _ hl.1)
theorem p_addresses {D : Dt} {b : Nat} {l : List (Nat × Nat)} (hB : BL D b l) (hl : LB l) : f_X0_addresses b D = some (nI (sz l)) := by
  have h : lp (l_X0_addresses_4 b D) FU ((0 : Int32), (0 : Int32)) = some (nI (szI l l.length)) := by
    apply lp_to (fun i => (nI (szI l i), nI i)) l.length
    · rfl
    · exact FU_big (by have := hl.1; omega)
    · intro i hi
      simp only [l_X0_addresses_4, hB.1]
      rw [st292 hi hl.1, rd_at rfl (show i < 292 by have := hl.1; omega) (by decide), (hB.at hi).2, sizeOf_eq (hl.2.1 i hi).2, Option.bind_some, nI_add, nI_1]
      rfl
    · simp only [l_X0_addresses_4, hB.1]
      rw [ex292 hl.1]
  rw [f_X0_addresses, h, Option.bind_some, szI_len]
def fiN (l : List (Nat × Nat)) : Nat := if sz l = 0 then 0 else 1000 - 1000 * zz (mnI l l.length) / sz l
theorem fi_eq {l : List (Nat × Nat)} (hl : LB l) (h : sz l ≠ 0) : (1000 : Int32) - ((1000 : Int32) * nI (zz (mnI l l.length))) / nI (sz l) = nI (fiN l) := by
  have hz := zz_le (mnI l l.length)
  have h1 := sz_le hl
  have h0 : 0 < l.length := by
    cases l with
    | nil => exact absurd rfl h
    | cons q r => simp
  obtain ⟨j, j1, j2⟩ := mnI_in (l := l) l.length h0
  have h2 := szI_ge (l := l) l.length j1
  rw [szI_len, ← j2] at h2
  have h3 : 1000 * zz (mnI l l.length) / sz l ≤ 1000 := by
    apply Nat.div_le_of_le_mul
    rw [Nat.mul_comm]
    exact Nat.mul_le_mul_right 1000 h2
  rw [show (1000 : Int32) = nI 1000 from rfl, pk_mul, pk_div (by omega) (by omega) (by omega), pk_sub h3, fiN, if_neg h]
theorem fiN_le (l : List (Nat × Nat)) : fiN l ≤ 1000 := by
  simp only [fiN]
  by_cases h : sz l = 0
  · rw [if_pos h]; omega
  · rw [if_neg h]; exact Nat.sub_le _ _
theorem sz_pos {l : List (Nat × Nat)} (h : sz l ≠ 0) : ¬ l.length = 0 := by
  intro w
  rw [List.length_eq_zero_iff] at w
  subst w
  exact h rfl
theorem p_fragIndex {D : Dt} {b : Nat} {l : List (Nat × Nat)} (hB : BL D b l) (hl : LB l) : f_X0_fragmentationIndex b D = some (nI (fiN l)) := by
  have h1 := sz_le hl
  simp only [f_X0_fragmentationIndex]
  rw [p_addresses hB hl, Option.bind_some]
  by_cases w : sz l = 0
  · rw [w, if_neg (by decide), fiN, if_pos w]
    rfl
  · rw [if_pos (show (0 : Int32) < nI (sz l) from nI_lt (a := 0) (by omega) (by omega)), p_shortest hB hl, Option.bind_some, mnV, if_neg (sz_pos w), sizeOf_eq (mnI_le hl (by have := sz_pos w; omega) (Nat.le_refl _)), Option.bind_some, decide_eq_true (nI_ne0 (by omega) (by omega)), fi_eq hl w]
    rfl
