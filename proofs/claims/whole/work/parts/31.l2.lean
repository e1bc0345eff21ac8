/-! where the policy places a block -/
def b01 (c : Bool) : Int32 := if c = true then 1 else 0
def bt (P : Nat) (c3 c6 c9 : Bool) : Bool := if P = 0 then c3 else if P = 1 then c9 || (c6 && c3) else if P = 2 then !c9 && (!c6 || c3) else c9 || (c6 && !c3)
theorem bt_0 (c3 c6 c9 : Bool) : bt 0 c3 c6 c9 = c3 := rfl
theorem bt_1 (c3 c6 c9 : Bool) : bt 1 c3 c6 c9 = (c9 || (c6 && c3)) := rfl
theorem bt_2 (c3 c6 c9 : Bool) : bt 2 c3 c6 c9 = (!c9 && (!c6 || c3)) := rfl
theorem bt_3 (c3 c6 c9 : Bool) : bt 3 c3 c6 c9 = (c9 || (c6 && !c3)) := rfl
theorem b01_0 {α : Type} {c : Bool} {x y : α} : (if b01 c = 0 then x else y) = if c = true then y else x := by
  cases c <;> rfl
theorem j64_eq : ∀ P, P < 4 → ∀ c3 c6 c9 : Bool, j_X0_isBetter_64_t9 (nI P) (b01 c3) (b01 c6) (b01 c9) = some (b01 (bt P c3 c6 c9)) := by decide
def btr (P : Nat) (l : List (Nat × Nat)) (i j : Nat) : Bool := bt P (decide (xA l i < xA l j)) (decide (yA l i = yA l j)) (decide (yA l j < yA l i))
theorem p_isBetter {D : Dt} {b P i j : Nat} {l : List (Nat × Nat)} (hB : BL D b l) (hl : LB l) (hP : P < 4) (hi : i < l.length) (hj : j < l.length) : f_X0_isBetter b (nI P) (nI i) (nI j) D = some (b01 (btr P l i j)) := by
  have hn := hl.1
  have bi := hl.2.1 i hi
  have bj := hl.2.1 j hj
  simp only [f_X0_isBetter, j_X0_isBetter_20_t3, j_X0_isBetter_42_t6]
  simp only [rd_at rfl (show i < 292 by omega) (show 292 < 2 ^ 31 by decide), rd_at rfl (show j < 292 by omega) (show 292 < 2 ^ 31 by decide), (hB.at hi).1, (hB.at hi).2, (hB.at hj).1, (hB.at hj).2]
  rw [if_le (by omega) (by omega)]
  simp only [if_eq (show yA l i < 2 ^ 31 by omega) (show yA l j < 2 ^ 31 by omega), if_le (show yA l i < 2 ^ 31 by omega) (show yA l j < 2 ^ 31 by omega)]
  have f0 : (0 : Int32) = b01 false := rfl
  have f1 : (1 : Int32) = b01 true := rfl
  rw [f0, f1]
  simp only [j64_eq P hP, btr]
  by_cases w1 : xA l j ≤ xA l i
  · rw [if_pos w1, decide_eq_false (show ¬ xA l i < xA l j by omega)]
    by_cases w2 : yA l i = yA l j
    · rw [if_pos w2, if_pos (by omega), decide_eq_true w2, decide_eq_false (by omega)]
    · rw [if_neg w2, decide_eq_false w2]
      by_cases w3 : yA l i ≤ yA l j
      · rw [if_pos w3, decide_eq_false (by omega)]
      · rw [if_neg w3, decide_eq_true (by omega)]
  · rw [if_neg w1, decide_eq_true (show xA l i < xA l j by omega)]
    by_cases w2 : yA l i = yA l j
    · rw [if_pos w2, if_pos (by omega), decide_eq_true w2, decide_eq_false (by omega)]
    · rw [if_neg w2, decide_eq_false w2]
      by_cases w3 : yA l i ≤ yA l j
      · rw [if_pos w3, decide_eq_false (by omega)]
      · rw [if_neg w3, decide_eq_true (by omega)]
theorem sub_I {a b : Nat} (ha : a < 2 ^ 30) (hb : b < 2 ^ 30) : (0 ≤ nI a - nI b ↔ b ≤ a) ∧ (0 < nI a - nI b ↔ b < a) ∧ (nI a - nI b < 0 ↔ a < b) ∧ (nI a - nI b ≤ 0 ↔ a ≤ b) ∧ (nI a - nI b = 0 ↔ a = b) := by
  have h := pk_sub_toInt ha hb
  have h0 : (0 : Int32).toInt = 0 := by decide
  refine ⟨?_, ?_, ?_, ?_, ?_⟩
  · rw [Int32.le_iff_toInt_le, h, h0]; omega
  · rw [Int32.lt_iff_toInt_lt, h, h0]; omega
  · rw [Int32.lt_iff_toInt_lt, h, h0]; omega
  · rw [Int32.le_iff_toInt_le, h, h0]; omega
  · rw [← Int32.toInt_inj, h, h0]; omega
theorem p_X10_isBetter {D : Dt} {P i j : Nat} {l : List (Nat × Nat)} (hB : BR D l) (hl : LB l) (hP : P < 4) (h3 : D 33 0 3 = nI P) (hi : i < l.length) (hj : j < l.length) (hij : i ≠ j) : f_X10_isBetter (nI i) (nI j) D = some (b01 (btr P l i j)) := by
  have hn := hl.1
  have bi := hl.2.1 i hi
  have bj := hl.2.1 j hj
  have hne := hl.2.2 i j hi hj hij
  obtain ⟨x1, x2, x3, x4, x5⟩ := sub_I (a := xA l i) (b := xA l j) (by omega) (by omega)
  obtain ⟨y1, y2, y3, y4, y5⟩ := sub_I (a := yA l i) (b := yA l j) (by omega) (by omega)
  simp only [f_X10_isBetter]
  simp only [rd_at rfl (show i < 800 by omega) (show 800 < 2 ^ 31 by decide), rd_at rfl (show j < 800 by omega) (show 800 < 2 ^ 31 by decide), (hB.at hi).1, (hB.at hi).2, (hB.at hj).1, (hB.at hj).2, rd_at (i := (3 : Int32)) (j := 3) rfl (show 3 < 170 by decide) (show 170 < 2 ^ 31 by decide), h3]
  simp only [x1, x4, y2, y3, y5]
  simp only [btr]
  rcases (show P = 0 ∨ P = 1 ∨ P = 2 ∨ P = 3 by omega) with rfl | rfl | rfl | rfl
  · rw [if_pos (by decide), bt_0]
    by_cases w1 : xA l j ≤ xA l i
    · rw [if_pos w1, decide_eq_false (show ¬ xA l i < xA l j by omega)]; rfl
    · rw [if_neg w1, decide_eq_true (show xA l i < xA l j by omega)]; rfl
  · rw [if_neg (by decide), if_pos (by decide), bt_1]
    by_cases w2 : yA l j < yA l i
    · rw [if_pos w2, decide_eq_true w2]; rfl
    · rw [if_neg w2, decide_eq_false w2]
      by_cases w3 : yA l i = yA l j
      · rw [if_pos w3, decide_eq_true w3]
        by_cases w1 : xA l j ≤ xA l i
        · rw [if_pos w1, decide_eq_false (show ¬ xA l i < xA l j by omega)]; rfl
        · rw [if_neg w1, decide_eq_true (show xA l i < xA l j by omega)]; rfl
      · rw [if_neg w3, decide_eq_false w3]; rfl
  · rw [if_neg (by decide), if_neg (by decide), if_pos (by decide), bt_2]
    by_cases w2 : yA l i < yA l j
    · rw [if_pos w2, decide_eq_false (show ¬ yA l j < yA l i by omega), decide_eq_false (show ¬ yA l i = yA l j by omega)]; rfl
    · rw [if_neg w2]
      by_cases w3 : yA l i = yA l j
      · rw [if_pos w3, decide_eq_true w3, decide_eq_false (show ¬ yA l j < yA l i by omega)]
        by_cases w1 : xA l j ≤ xA l i
        · rw [if_pos w1, decide_eq_false (show ¬ xA l i < xA l j by omega)]; rfl
        · rw [if_neg w1, decide_eq_true (show xA l i < xA l j by omega)]; rfl
      · rw [if_neg w3, decide_eq_true (show yA l j < yA l i by omega)]; rfl
  · rw [if_neg (by decide), if_neg (by decide), if_neg (by decide), bt_3]
    by_cases w2 : yA l j < yA l i
    · rw [if_pos w2, decide_eq_true w2]; rfl
    · rw [if_neg w2, decide_eq_false w2]
      by_cases w3 : yA l i = yA l j
      · rw [if_pos w3, decide_eq_true w3]
        by_cases w1 : xA l i ≤ xA l j
        · rw [if_pos w1, decide_eq_true (show xA l i < xA l j by omega)]; rfl
        · rw [if_neg w1, decide_eq_false (show ¬ xA l i < xA l j by omega)]; rfl
      · rw [if_neg w3, decide_eq_false w3]; rfl
def oI (o : Option Nat) : Int32 := match o with
  | none => -1
  | some n => nI n
theorem oI_n : oI none = -1 := rfl
theorem oI_s (n : Nat) : oI (some n) = nI n := rfl
def stp (P : Nat) (l : List (Nat × Nat)) (i : Nat) (o : Option Nat) : Option Nat := match o with
  | none => some i
  | some j => if btr P l i j = true then some i else some j
theorem stp_n (P : Nat) (l : List (Nat × Nat)) (i : Nat) : stp P l i none = some i := rfl
theorem stp_s (P : Nat) (l : List (Nat × Nat)) (i j : Nat) : stp P l i (some j) = if btr P l i j = true then some i else some j := rfl
def bst (P m : Nat) (l : List (Nat × Nat)) : Nat → Option Nat
  | 0 => none
  | i + 1 => if yA l i ≤ m then stp P l i (bst P m l i) else bst P m l i
theorem bst_lt {P m : Nat} {l : List (Nat × Nat)} : ∀ i j, bst P m l i = some j → j < i ∧ yA l j ≤ m := by
  intro i
  induction i with
  | zero => intro j h; cases h
  | succ i ih =>
    intro j h
    simp only [bst] at h
    by_cases w : yA l i ≤ m
    · rw [if_pos w] at h
      cases hb : bst P m l i with
      | none =>
        rw [hb, stp_n] at h
        injection h with h
        subst h
        exact ⟨by omega, w⟩
      | some k =>
        rw [hb, stp_s] at h
        by_cases w2 : btr P l i k = true
        · rw [if_pos w2] at h
          injection h with h
          subst h
          exact ⟨by omega, w⟩
        · rw [if_neg w2] at h
          injection h with h
          subst h
          have := ih k hb
          exact ⟨by omega, this.2⟩
    · rw [if_neg w] at h
      have := ih j h
      exact ⟨by omega, this.2⟩
theorem bst_none {P m : Nat} {l : List (Nat × Nat)} : ∀ i, bst P m l i = none → ∀ j, j < i → m < yA l j := by
  intro i
  induction i with
  | zero => intro _ j h; omega
  | succ i ih =>
    intro h j hj
    simp only [bst] at h
    by_cases w : yA l i ≤ m
    · rw [if_pos w] at h
      cases hb : bst P m l i with
      | none => rw [hb] at h; cases h
      | some k =>
        rw [hb, stp_s] at h
        by_cases w2 : btr P l i k = true
        · rw [if_pos w2] at h; cases h
        · rw [if_neg w2] at h; cases h
    · rw [if_neg w] at h
      by_cases e : j = i
      · rw [e]; omega
      · exact ih h j (by omega)
def plO (P m : Nat) (l : List (Nat × Nat)) (o : Option Nat) : Option Nat := match o with
  | none => none
  | some j => some (xA l j + (if P = 3 then zz (yA l j) - zz m else 0))
theorem plO_n (P m : Nat) (l : List (Nat × Nat)) : plO P m l none = none := rfl
theorem plO_s (P m : Nat) (l : List (Nat × Nat)) (j : Nat) : plO P m l (some j) = some (xA l j + (if P = 3 then zz (yA l j) - zz m else 0)) := rfl
def plc (P m : Nat) (l : List (Nat × Nat)) : Option Nat := plO P m l (bst P m l l.length)
theorem p_placeBy {D : Dt} {b P m : Nat} {l : List (Nat × Nat)} (hB : BL D b l) (hl : LB l) (hP : P < 4) (hm : m ≤ 16) : f_X0_placeBy b (nI P) (nI m) D = some (oI (plc P m l)) := by
  have hn := hl.1
  have h : lp (l_X0_placeBy_5 b (nI P) (nI m) D) FU ((-1 : Int32), (0 : Int32)) = some (oI (bst P m l l.length)) := by
    apply lp_to (fun i => (oI (bst P m l i), nI i)) l.length
    · rfl
    · exact FU_big (by omega)
    · intro i hi
      have hy := (hl.2.1 i hi).2
      simp only [l_X0_placeBy_5, hB.1]
      rw [st292 hi hl.1, rd_at rfl (show i < 292 by omega) (by decide), (hB.at hi).2, if_lt (by omega) (by omega), nI_1]
      simp only [bst]
      by_cases w : yA l i ≤ m
      · rw [if_neg (by omega), if_pos w]
        cases hb : bst P m l i with
        | none =>
          rw [oI_n, if_pos rfl, stp_n, oI_s]
        | some k =>
          have hk := (bst_lt i k hb).1
          rw [oI_s, stp_s, if_neg (nI_nm1 (by omega)), p_isBetter hB hl hP hi (by omega), Option.bind_some, b01_0]
          by_cases w2 : btr P l i k = true
          · rw [if_pos w2, if_pos w2, oI_s]
          · rw [if_neg w2, if_neg w2, oI_s]
      · rw [if_pos (by omega), if_neg w]
    · simp only [l_X0_placeBy_5, hB.1]
      rw [ex292 hl.1]
  rw [f_X0_placeBy, h, Option.bind_some]
  simp only [plc]
  cases hb : bst P m l l.length with
  | none =>
    rw [oI_n, plO_n, oI_n]
    simp only [f_X0_holds]
    rw [if_pos (show (-1 : Int32) < 0 by decide), Option.bind_some, if_pos rfl]
  | some k =>
    obtain ⟨hk, hk2⟩ := bst_lt _ k hb
    have hz := zz_mono hk2
    rw [oI_s, plO_s, oI_s]
    simp only [f_X0_holds, hB.1]
    rw [if_neg (nI_pos (by omega)), if_neg (nI_ge hk (by omega)), if_neg (g292 (by omega)), Option.bind_some, if_neg (by decide)]
    rw [rd_at rfl (show k < 292 by omega) (by decide), rd_at rfl (show k < 292 by omega) (by decide), (hB.at hk).1, (hB.at hk).2, show (3 : Int32) = nI 3 from rfl, if_eq (by omega) (by decide), sizeOf_eq (hl.2.1 k hk).2, Option.bind_some, sizeOf_eq hm, Option.bind_some, rd_at rfl (show k < 292 by omega) (by decide), (hB.at hk).1]
    by_cases w : P = 3
    · rw [if_pos w, if_pos w, pk_sub hz, nI_add]
    · rw [if_neg w, if_neg w]
      show some (nI (xA l k) + nI 0) = _
      rw [nI_add]
theorem p_X10_pl8 {D : Dt} {P m : Nat} {l : List (Nat × Nat)} (hB : BR D l) (hl : LB l) (hP : P < 4) (h3 : D 33 0 3 = nI P) (hm : m ≤ 16) : lp (l_X10_places_8 (nI m) D) FU ((-1 : Int32), (0 : Int32)) = some (oI (bst P m l l.length)) := by
  have hn := hl.1
  apply lp_to (fun i => (oI (bst P m l i), nI i)) l.length
  · rfl
  · exact FU_big (by omega)
  · intro i hi
    have hy := (hl.2.1 i hi).2
    simp only [l_X10_places_8, hB.1]
    rw [if_neg (nI_ge hi (by omega)), rd_at rfl (show i < 800 by omega) (by decide), (hB.at hi).2, if_lt (by omega) (by omega), nI_1]
    simp only [bst]
    by_cases w : yA l i ≤ m
    · rw [if_neg (by omega), if_pos w]
      cases hb : bst P m l i with
      | none =>
        rw [oI_n, if_pos (by decide), stp_n, oI_s]
      | some k =>
        have hk := (bst_lt i k hb).1
        rw [oI_s, stp_s, if_neg (nI_pos (by omega)), p_X10_isBetter hB hl hP h3 hi (by omega) (by omega), Option.bind_some, b01_0]
        by_cases w2 : btr P l i k = true
        · rw [if_pos w2, if_pos w2, oI_s]
        · rw [if_neg w2, if_neg w2, oI_s]
    · rw [if_pos (by omega), if_neg w]
  · simp only [l_X10_places_8, hB.1]
    rw [if_pos (nI_le (Nat.le_refl _) (by omega))]
theorem p_places {D D1 : Dt} {P m : Nat} {l : List (Nat × Nat)} (h1 : f_X10_findsAllFree D = some D1) (hB : BR D1 l) (hl : LB l) (hP : P < 4) (h3 : D1 33 0 3 = nI P) (hm : m ≤ 16) : f_X10_places (nI m) D = some (oI (plc P m l), D1) := by
  have hn := hl.1
  rw [f_X10_places, h1, Option.bind_some, p_X10_pl8 hB hl hP h3 hm, Option.bind_some]
  simp only [plc]
  cases hb : bst P m l l.length with
  | none =>
    rw [oI_n, if_neg (by decide), plO_n, oI_n]
  | some k =>
    obtain ⟨hk, hk2⟩ := bst_lt _ k hb
    have hz := zz_mono hk2
    rw [oI_s, plO_s, oI_s, if_pos (nI_pos' (by omega)), rd_at rfl (show k < 800 by omega) (by decide), rd_at (i := (3 : Int32)) (j := 3) rfl (by decide) (by decide), h3, show (3 : Int32) = nI 3 from rfl, if_eq (by omega) (by decide), rd_at rfl (show k < 800 by omega) (by decide), (hB.at hk).1, (hB.at hk).2, size_eq (hl.2.1 k hk).2, Option.bind_some, size_eq hm, Option.bind_some]
    by_cases w : P = 3
    · rw [if_pos w, if_pos w, pk_sub hz, nI_add]
    · rw [if_neg w, if_neg w]
      show some (nI (xA l k) + nI 0, D1) = _
      rw [nI_add]
theorem p_greatest {D D1 : Dt} {l : List (Nat × Nat)} (h1 : f_X10_findsAllFree D = some D1) (hB : BR D1 l) (hl : LB l) : f_X10_greatest D = some (mnV (-9) l l.length, D1) := by
  rw [f_X10_greatest, h1, Option.bind_some, p_X10_gr9 hB hl, Option.bind_some]
theorem p_index {D D1 : Dt} {l : List (Nat × Nat)} (h1 : f_X10_findsAllFree D = some D1) (hB : BR D1 l) (hl : LB l) : f_X10_index D = some (nI (fiN l), D1) := by
  have h2 := sz_le hl
  rw [f_X10_index, p_greatest h1 hB hl, Option.bind_some]
  simp only [hB.2.1]
  rw [if_z (by omega)]
  by_cases w : sz l = 0
  · rw [if_pos w, fiN, if_pos w]
    rfl
  · rw [if_neg w, mnV, if_neg (sz_pos w), size_eq (mnI_le hl (by have := sz_pos w; omega) (Nat.le_refl _)), Option.bind_some, decide_eq_true (nI_ne0 (by omega) (by omega)), fi_eq hl w]
    rfl
