/-! wave -/
def hbP (s : Nat → Int32) (k : Nat) (o : Option Nat) : Option Nat := match o with
  | none => some k
  | some j => if s (14 + 5 * j) < s (14 + 5 * k) then some k else some j
theorem hbP_n (s : Nat → Int32) (k : Nat) : hbP s k none = some k := rfl
theorem hbP_s (s : Nat → Int32) (k j : Nat) : hbP s k (some j) = if s (14 + 5 * j) < s (14 + 5 * k) then some k else some j := rfl
def hb (s : Nat → Int32) (B : Int32) : Nat → Option Nat
  | 0 => none
  | k + 1 => if (s (14 + 5 * k) ≠ -1 ∧ s (14 + 5 * k + 2) = -1) ∧ s (14 + 5 * k) < B then hbP s k (hb s B k) else hb s B k
theorem hb_lt {s : Nat → Int32} {B : Int32} : ∀ k j, hb s B k = some j → j < k ∧ (s (14 + 5 * j) ≠ -1 ∧ s (14 + 5 * j + 2) = -1) ∧ s (14 + 5 * j) < B := by
  intro k
  induction k with
  | zero => intro j h; cases h
  | succ k ih =>
    intro j h
    simp only [hb] at h
    by_cases c : (s (14 + 5 * k) ≠ -1 ∧ s (14 + 5 * k + 2) = -1) ∧ s (14 + 5 * k) < B
    · rw [if_pos c] at h
      cases hh : hb s B k with
      | none =>
        rw [hh, hbP_n] at h
        injection h with h
        subst h
        exact ⟨by omega, c⟩
      | some i =>
        rw [hh, hbP_s] at h
        by_cases c2 : s (14 + 5 * i) < s (14 + 5 * k)
        · rw [if_pos c2] at h
          injection h with h
          subst h
          exact ⟨by omega, c⟩
        · rw [if_neg c2] at h
          injection h with h
          subst h
          have := ih i hh
          exact ⟨by omega, this.2⟩
    · rw [if_neg c] at h
      have := ih j h
      exact ⟨by omega, this.2⟩
theorem hb_none {s : Nat → Int32} {B : Int32} : ∀ k, hb s B k ≠ none → ∃ j, j < k ∧ (s (14 + 5 * j) ≠ -1 ∧ s (14 + 5 * j + 2) = -1) ∧ s (14 + 5 * j) < B := by
  intro k h
  cases hh : hb s B k with
  | none => exact absurd hh h
  | some j => exact ⟨j, hb_lt k j hh⟩
def cnW (s : Nat → Int32) (B : Int32) : Nat → Nat
  | 0 => 0
  | k + 1 => cnW s B k + (if (s (14 + 5 * k) ≠ -1 ∧ s (14 + 5 * k + 2) = -1) ∧ s (14 + 5 * k) < B then 1 else 0)
theorem lt_tr {a b c : Int32} (h1 : a < b) (h2 : b < c) : a < c := by
  rw [Int32.lt_iff_toInt_lt] at *
  omega
theorem lt_irr {a : Int32} : ¬ a < a := by
  rw [Int32.lt_iff_toInt_lt]
  omega
theorem cnW_le {s : Nat → Int32} {B : Int32} : ∀ k, cnW s B k ≤ k := by
  intro k
  induction k with
  | zero => simp [cnW]
  | succ k ih =>
    simp only [cnW]
    by_cases c : (s (14 + 5 * k) ≠ -1 ∧ s (14 + 5 * k + 2) = -1) ∧ s (14 + 5 * k) < B
    · rw [if_pos c]; omega
    · rw [if_neg c]; omega
theorem cnW_mono {s : Nat → Int32} {B B' : Int32} (h : B' < B) : ∀ k, cnW s B' k ≤ cnW s B k := by
  intro k
  induction k with
  | zero => simp [cnW]
  | succ k ih =>
    simp only [cnW]
    by_cases c : (s (14 + 5 * k) ≠ -1 ∧ s (14 + 5 * k + 2) = -1) ∧ s (14 + 5 * k) < B'
    · rw [if_pos c, if_pos ⟨c.1, lt_tr c.2 h⟩]; omega
    · rw [if_neg c]; omega
theorem cnW_lt {s : Nat → Int32} {B : Int32} {j : Nat} (hj : (s (14 + 5 * j) ≠ -1 ∧ s (14 + 5 * j + 2) = -1) ∧ s (14 + 5 * j) < B) : ∀ k, j < k → cnW s (s (14 + 5 * j)) k < cnW s B k := by
  intro k
  induction k with
  | zero => intro h; omega
  | succ k ih =>
    intro h
    simp only [cnW]
    by_cases e : j = k
    · subst e
      have := cnW_mono (s := s) hj.2 j
      rw [if_neg (fun q => lt_irr q.2), if_pos hj]
      omega
    · have := ih (by omega)
      by_cases c : (s (14 + 5 * k) ≠ -1 ∧ s (14 + 5 * k + 2) = -1) ∧ s (14 + 5 * k) < s (14 + 5 * j)
      · rw [if_pos c, if_pos ⟨c.1, lt_tr c.2 hj.2⟩]; omega
      · rw [if_neg c]; omega
theorem cnW_pos {s : Nat → Int32} {B : Int32} (h : hb s B 12 ≠ none) : 0 < cnW s B 12 := by
  obtain ⟨j, j1, j2⟩ := hb_none 12 h
  have := cnW_lt j2 12 j1
  omega
theorem p_movableBelow {D : Dt} {b : Nat} {s : Nat → Int32} (hR : RelP D b s) (B : Int32) : f_X5_movableBelow b B D = some (oI (hb s B 12)) := by
  have h : lp (l_X5_movableBelow_4 b B D) FU ((-1 : Int32), (0 : Int32)) = some (oI (hb s B 12)) := by
    apply lp_to (fun i => (oI (hb s B i), nI i)) 12
    · rfl
    · exact FU_big (by decide)
    · intro i hi
      simp only [l_X5_movableBelow_4]
      rw [if_neg (g12 hi), isMovable_s hR hi, Option.bind_some, if_b, nI_1]
      simp only [rd_at rfl hi (show 12 < 2 ^ 31 by decide), (hR.2.2.2 i hi).1]
      by_cases c : s (14 + 5 * i) ≠ -1 ∧ s (14 + 5 * i + 2) = -1
      · rw [if_pos c]
        by_cases c2 : B ≤ s (14 + 5 * i)
        · rw [if_pos c2, show hb s B (i + 1) = hb s B i from if_neg (fun q => not_lt_le.mpr c2 q.2)]
        · have c2' : s (14 + 5 * i) < B := by
            apply Classical.byContradiction
            intro q
            exact c2 (not_lt_le.mp q)
          rw [if_neg c2, show hb s B (i + 1) = hbP s i (hb s B i) from if_pos ⟨c, c2'⟩]
          cases hh : hb s B i with
          | none => rw [oI_n, if_pos rfl, hbP_n, oI_s]
          | some j =>
            have hj := (hb_lt i j hh).1
            rw [oI_s, if_neg (nI_nm1 (by omega)), rd_at rfl (show j < 12 by omega) (by decide), (hR.2.2.2 j (by omega)).1, hbP_s]
            by_cases c3 : s (14 + 5 * i) ≤ s (14 + 5 * j)
            · rw [if_pos c3, if_neg (not_lt_le.mpr c3), oI_s]
            · have c3' : s (14 + 5 * j) < s (14 + 5 * i) := by
                apply Classical.byContradiction
                intro q
                exact c3 (not_lt_le.mp q)
              rw [if_neg c3, if_pos c3', oI_s]
      · rw [if_neg c, show hb s B (i + 1) = hb s B i from if_neg (fun q => c q.1)]
    · simp only [l_X5_movableBelow_4]
      rw [if_pos (show (12 : Int32) ≤ nI 12 by decide)]
  rw [f_X5_movableBelow, h, Option.bind_some]
theorem p_highest {D : Dt} {s : Nat → Int32} (hs : ∀ j, j < 170 → D 36 0 j = s j) (hG : GeoS s) (B : Int32) : f_X10_highest B D = some (oI (hb s B 12)) := by
  have h : lp (l_X10_highest_4 B D) FU ((-1 : Int32), (0 : Int32)) = some (oI (hb s B 12)) := by
    apply lp_to (fun i => (oI (hb s B i), nI i)) 12
    · rfl
    · exact FU_big (by decide)
    · intro i hi
      simp only [l_X10_highest_4, p_X10_net, Option.bind_some, show (2 : Int32) = nI 2 from rfl, nI_add, rd_at rfl (show 14 + 5 * i < 170 by omega) (show 170 < 2 ^ 31 by decide), rd_at rfl (show 14 + 5 * i + 2 < 170 by omega) (show 170 < 2 ^ 31 by decide), hs (14 + 5 * i) (by omega), hs (14 + 5 * i + 2) (by omega), nn_lt (hG.nnc hi), nn_ge (hG.nno hi)]
      rw [if_neg (g12 hi)]
      have j0 : j_X10_highest_51_t4 D (oI (hb s B i), nI i) (s (14 + 5 * i)) (0 : Int32) = some (Sum.inl (oI (hb s B i), nI (i + 1))) := by
        simp only [j_X10_highest_51_t4]
        rw [if_pos trivial, nI_1]
      rw [j0]
      by_cases c0 : s (14 + 5 * i) = -1
      · rw [if_pos c0, show hb s B (i + 1) = hb s B i from if_neg (fun q => q.1.1 c0)]
      · rw [if_neg c0]
        by_cases c1 : s (14 + 5 * i + 2) = -1
        · rw [if_pos c1]
          by_cases c2 : B ≤ s (14 + 5 * i)
          · rw [if_pos c2, show hb s B (i + 1) = hb s B i from if_neg (fun q => not_lt_le.mpr c2 q.2)]
          · have c2' : s (14 + 5 * i) < B := by
              apply Classical.byContradiction
              intro q
              exact c2 (not_lt_le.mp q)
            rw [if_neg c2, show hb s B (i + 1) = hbP s i (hb s B i) from if_pos ⟨⟨c0, c1⟩, c2'⟩]
            simp only [j_X10_highest_51_t4]
            rw [if_neg (show ¬ (1 : Int32) = 0 by decide), nI_1]
            cases hh : hb s B i with
            | none => rw [oI_n, if_pos (by decide), hbP_n, oI_s]
            | some j =>
              have hj := (hb_lt i j hh).1
              rw [oI_s, if_neg (nI_pos (by omega)), p_X10_net, Option.bind_some, rd_at rfl (show 14 + 5 * j < 170 by omega) (by decide), hs (14 + 5 * j) (by omega), hbP_s]
              by_cases c3 : s (14 + 5 * i) ≤ s (14 + 5 * j)
              · rw [if_pos c3, if_neg (not_lt_le.mpr c3), oI_s]
              · have c3' : s (14 + 5 * j) < s (14 + 5 * i) := by
                  apply Classical.byContradiction
                  intro q
                  exact c3 (not_lt_le.mp q)
                rw [if_neg c3, if_pos c3', oI_s]
        · rw [if_neg c1, show hb s B (i + 1) = hb s B i from if_neg (fun q => c1 q.1.2)]
    · simp only [l_X10_highest_4]
      rw [if_pos (show (12 : Int32) ≤ nI 12 by decide)]
  rw [f_X10_highest, h, Option.bind_some]
/-- a turn of the wave -/
def wvG (s : Nat → Int32) (k : Nat) (w : Nat × Int32 × (Nat → Int32)) (o : Option Nat) : Nat × Int32 × (Nat → Int32) := match o with
  | none => (w.1, s (14 + 5 * k), w.2.2)
  | some g => if nI g < s (14 + 5 * k) then (w.1 + 1, s (14 + 5 * k), mvM w.2.2 k (nI g) (s (14 + 5 * k + 1))) else (w.1, s (14 + 5 * k), w.2.2)
theorem wvG_n (s : Nat → Int32) (k : Nat) (w : Nat × Int32 × (Nat → Int32)) : wvG s k w none = (w.1, s (14 + 5 * k), w.2.2) := rfl
theorem wvG_s (s : Nat → Int32) (k : Nat) (w : Nat × Int32 × (Nat → Int32)) (g : Nat) : wvG s k w (some g) = if nI g < s (14 + 5 * k) then (w.1 + 1, s (14 + 5 * k), mvM w.2.2 k (nI g) (s (14 + 5 * k + 1))) else (w.1, s (14 + 5 * k), w.2.2) := rfl
noncomputable def wvH (s : Nat → Int32) (w : Nat × Int32 × (Nat → Int32)) (o : Option Nat) : Nat × Int32 × (Nat → Int32) := match o with
  | none => w
  | some k => wvG s k w (plF w.2.2 (s (14 + 5 * k + 1)).toNatClampNeg)
theorem wvH_n (s : Nat → Int32) (w : Nat × Int32 × (Nat → Int32)) : wvH s w none = w := rfl
theorem wvH_s (s : Nat → Int32) (w : Nat × Int32 × (Nat → Int32)) (k : Nat) : wvH s w (some k) = wvG s k w (plF w.2.2 (s (14 + 5 * k + 1)).toNatClampNeg) := rfl
noncomputable def itW (s : Nat → Int32) (cnt : Nat) : Nat → Nat × Int32 × (Nat → Int32)
  | 0 => (0, 65536, s)
  | t + 1 => if cnt ≤ (itW s cnt t).1 then itW s cnt t else wvH s (itW s cnt t) (hb s (itW s cnt t).2.1 12)
def stW (s : Nat → Int32) (cnt : Nat) (w : Nat × Int32 × (Nat → Int32)) : Prop := cnt ≤ w.1 ∨ hb s w.2.1 12 = none
theorem itW_fix {s : Nat → Int32} {cnt t : Nat} (h : stW s cnt (itW s cnt t)) : ∀ d, itW s cnt (t + d) = itW s cnt t := by
  intro d
  induction d with
  | zero => rfl
  | succ d ih =>
    rw [show t + (d + 1) = (t + d) + 1 by omega]
    simp only [itW]
    rw [ih]
    rcases h with h | h
    · rw [if_pos h]
    · by_cases c : cnt ≤ (itW s cnt t).1
      · rw [if_pos c]
      · rw [if_neg c, h, wvH_n]
def IWp (s : Nat → Int32) (t : Nat) (w : Nat × Int32 × (Nat → Int32)) : Prop := Good w.2.2 ∧ (∀ k, k < 12 → (s (14 + 5 * k) ≠ -1 ∧ s (14 + 5 * k + 2) = -1) → s (14 + 5 * k) < w.2.1 → ∀ q, q < 5 → w.2.2 (14 + 5 * k + q) = s (14 + 5 * k + q)) ∧ (w.1 = 0 → w.2.2 = s) ∧ w.1 ≤ t
theorem mvM_blk {s : Nat → Int32} {n j : Nat} {x y : Int32} (hj : 14 ≤ j) (hj2 : j < 74) (h : j < 14 + 5 * n ∨ 14 + 5 * n + 5 ≤ j) : mvM s n x y j = s j := by
  have e : hL loM (nI n) (mvB s n x y) 16 j = s j := by rw [hL_out lo_Loc 16 j (by omega), mvB_ne h]
  rw [mvM]
  by_cases c : s 2 = 0
  · rw [if_pos c, guM_lo hj2 (by omega) (by omega)]; exact e
  · rw [if_neg c]; exact e
theorem IW_step {s : Nat → Int32} {cnt t : Nat} (hG : Good s) (h : IWp s t (itW s cnt t)) : IWp s (t + 1) (itW s cnt (t + 1)) := by
  simp only [itW]
  generalize itW s cnt t = w at *
  obtain ⟨h1, h2, h3, h4⟩ := h
  by_cases c : cnt ≤ w.1
  · rw [if_pos c]
    exact ⟨h1, h2, h3, by omega⟩
  · rw [if_neg c]
    cases hh : hb s w.2.1 12 with
    | none => rw [wvH_n]; exact ⟨h1, h2, h3, by omega⟩
    | some k =>
      obtain ⟨k1, k2, k3⟩ := hb_lt 12 k hh
      obtain ⟨g0, m, b1, b2, b3, b4, b5, b6, b7⟩ := hG.2.1.blk k1 k2.1
      have keep : IWp s (t + 1) (w.1, s (14 + 5 * k), w.2.2) := ⟨h1, fun i hi hm hlt q hq => h2 i hi hm (lt_tr hlt k3) q hq, h3, by simp only; omega⟩
      rw [wvH_s, b2, nI_clamp (by omega)]
      cases hp : plF w.2.2 m with
      | none => rw [wvG_n]; exact keep
      | some g =>
        rw [wvG_s]
        by_cases c2 : nI g < s (14 + 5 * k)
        · rw [if_pos c2]
          have e0 := h2 k k1 k2 k3 0 (by decide)
          have e2 := h2 k k1 k2 k3 2 (by decide)
          rw [Nat.add_zero] at e0
          refine ⟨?_, fun i hi hm hlt q hq => ?_, fun q => by simp only at q; omega, by simp only; omega⟩
          · simp only
            rw [b2]
            exact Good_mv h1 k1 (by rw [e0]; exact k2.1) (by rw [e2]; exact k2.2) b3 b4 (plF_plac h1.2.1 hp)
          · simp only at hlt ⊢
            have hik : i ≠ k := fun e => by rw [e] at hlt; exact lt_irr hlt
            rw [mvM_blk (by omega) (by omega) (by omega)]
            exact h2 i hi hm (lt_tr hlt k3) q hq
        · rw [if_neg c2]
          exact keep
theorem IW_all {s : Nat → Int32} {cnt : Nat} (hG : Good s) : ∀ t, IWp s t (itW s cnt t) := by
  intro t
  induction t with
  | zero => exact ⟨hG, fun _ _ _ _ _ _ => rfl, fun _ => rfl, Nat.le_refl _⟩
  | succ t ih => exact IW_step hG ih
theorem wvG_B {s : Nat → Int32} {k : Nat} {w : Nat × Int32 × (Nat → Int32)} (o : Option Nat) : (wvG s k w o).2.1 = s (14 + 5 * k) := by
  cases o with
  | none => rfl
  | some g =>
    rw [wvG_s]
    by_cases c : nI g < s (14 + 5 * k)
    · rw [if_pos c]
    · rw [if_neg c]
theorem cnW_step {s : Nat → Int32} {cnt t : Nat} (h : cnW s (itW s cnt t).2.1 12 + t ≤ 12) (hs : ¬ stW s cnt (itW s cnt t)) : cnW s (itW s cnt (t + 1)).2.1 12 + (t + 1) ≤ 12 := by
  simp only [itW]
  generalize itW s cnt t = w at *
  have c : ¬ cnt ≤ w.1 := fun q => hs (Or.inl q)
  rw [if_neg c]
  cases hh : hb s w.2.1 12 with
  | none => exact absurd (Or.inr hh) hs
  | some k =>
    obtain ⟨k1, k2, k3⟩ := hb_lt 12 k hh
    rw [wvH_s, wvG_B]
    have := cnW_lt ⟨k2, k3⟩ 12 k1
    omega
