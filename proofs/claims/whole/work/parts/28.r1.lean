/-! the reference: its blocks, and how many addresses of a block are assigned -/
def bix (k : Nat) : Nat := 14 + 5 * (k / 2) + 2 * (k % 2)
def RV (s : Nat → Int32) (us : Nat → Option (Nat × Nat)) : Prop := ∀ k, k < 24 → OB (s (bix k)) (s (bix k + 1)) (us k)
theorem bix_lt {k : Nat} (h : k < 24) : bix k + 1 < 74 := by
  simp only [bix]
  omega
theorem if_le {α : Type} {a b : Nat} {x y : α} (ha : a < 2 ^ 31) (hb : b < 2 ^ 31) : (if nI a ≤ nI b then x else y) = if a ≤ b then x else y := by
  by_cases h : a ≤ b
  · rw [if_pos h, if_pos ((nI_leI ha hb).mpr h)]
  · rw [if_neg h, if_neg (fun q => h ((nI_leI ha hb).mp q))]
theorem if_lt {α : Type} {a b : Nat} {x y : α} (ha : a < 2 ^ 31) (hb : b < 2 ^ 31) : (if nI a < nI b then x else y) = if a < b then x else y := by
  by_cases h : a < b
  · rw [if_pos h, if_pos ((nI_ltI ha hb).mpr h)]
  · rw [if_neg h, if_neg (fun q => h ((nI_ltI ha hb).mp q))]
theorem if_eq {α : Type} {a b : Nat} {x y : α} (ha : a < 2 ^ 31) (hb : b < 2 ^ 31) : (if nI a = nI b then x else y) = if a = b then x else y := by
  by_cases h : a = b
  · rw [if_pos h, if_pos ((nI_eq ha hb).mpr h)]
  · rw [if_neg h, if_neg (fun q => h ((nI_eq ha hb).mp q))]
theorem gd_2 {β : Type} (F : Option β) : gd (decide (¬ (2 : Int32) = 0)) F = F := rfl
theorem blockAt_eq {k : Nat} (h : k < 24) (D : Dt) : f_X10_blockAt (nI k) D = some (D 33 0 (bix k)) := by
  have h1 : nI k / (2 : Int32) = nI (k / 2) := pk_div (d := 2) (by omega) (by decide) (by decide)
  have h2 : nI k - nI (k / 2) * (2 : Int32) = nI (k % 2) := by
    have := pk_rem (a := k) (d := 2) (by omega) (by decide) (by decide)
    rw [show nI 2 = (2 : Int32) from rfl, h1] at this
    exact this
  simp only [f_X10_blockAt, gd_2]
  rw [h1, p_X10_net, Option.bind_some, h2, show (2 : Int32) = nI 2 from rfl, pk_mul, nI_add, rd_at (j := bix k) (i := nI (14 + 5 * (k / 2) + 2 * (k % 2))) rfl (by have := bix_lt h; omega) (by decide)]
theorem lengthAt_eq {k : Nat} (h : k < 24) (D : Dt) : f_X10_lengthAt (nI k) D = some (D 33 0 (bix k + 1)) := by
  have h1 : nI k / (2 : Int32) = nI (k / 2) := pk_div (d := 2) (by omega) (by decide) (by decide)
  have h2 : nI k - nI (k / 2) * (2 : Int32) = nI (k % 2) := by
    have := pk_rem (a := k) (d := 2) (by omega) (by decide) (by decide)
    rw [show nI 2 = (2 : Int32) from rfl, h1] at this
    exact this
  simp only [f_X10_lengthAt, gd_2]
  rw [h1, p_X10_net, Option.bind_some, h2, show (2 : Int32) = nI 2 from rfl, pk_mul, nI_add, nI_1, rd_at (j := bix k + 1) (i := nI (14 + 5 * (k / 2) + 2 * (k % 2) + 1)) rfl (by have := bix_lt h; omega) (by decide)]
def ov (us : Nat → Option (Nat × Nat)) (a e j : Nat) : Nat := match us j with
  | none => 0
  | some q => (if q.1 + zz q.2 < e then q.1 + zz q.2 else e) - (if a < q.1 then q.1 else a)
def sov (us : Nat → Option (Nat × Nat)) (a e : Nat) : Nat → Nat
  | 0 => 0
  | k + 1 => sov us a e k + ov us a e k
theorem ov_le (us : Nat → Option (Nat × Nat)) (a e j : Nat) : ov us a e j ≤ e := by
  simp only [ov]
  cases us j with
  | none => simp
  | some q =>
    simp only
    by_cases h1 : q.1 + zz q.2 < e
    · rw [if_pos h1]; omega
    · rw [if_neg h1]; omega
theorem sov_le (us : Nat → Option (Nat × Nat)) (a e : Nat) : ∀ k, sov us a e k ≤ k * e := by
  intro k
  induction k with
  | zero => simp [sov]
  | succ k ih =>
    simp only [sov]
    have := ov_le us a e k
    rw [Nat.add_mul, Nat.one_mul]
    omega
theorem p_assignedIn {D : Dt} {us : Nat → Option (Nat × Nat)} {a l : Nat} (hV : RV (D 33 0) us) (ha : a ≤ 65536) (hl : l ≤ 16) : f_X10_assignedIn (nI a) (nI l) D = some (nI (sov us a (a + zz l) 24)) := by
  have hzl := zz_le l
  have h : lp (l_X10_assignedIn_5 (nI a) (nI l) D) FU ((0 : Int32), (0 : Int32)) = some (nI (sov us a (a + zz l) 24)) := by
    apply lp_to (fun k => (nI (sov us a (a + zz l) k), nI k)) 24
    · rfl
    · exact FU_big (by decide)
    · intro k hk
      simp only [l_X10_assignedIn_5]
      rw [if_neg (g24 hk), blockAt_eq hk, Option.bind_some]
      have hob := hV k hk
      have hb := sov_le us a (a + zz l) k
      have hb2 : k * (a + zz l) ≤ 24 * 131072 := Nat.mul_le_mul (by omega) (by omega)
      simp only [sov]
      cases hu : us k with
      | none =>
        rw [hu] at hob
        have ho : ov us a (a + zz l) k = 0 := by simp only [ov, hu]
        rw [show D 33 0 (bix k) = -1 from hob, if_pos (by decide), ho, Nat.add_zero, nI_1]
      | some q =>
        obtain ⟨g, m⟩ := q
        rw [hu] at hob
        obtain ⟨o1, o2, o3, o4⟩ := hob
        simp only at o1 o2 o3 o4
        have hzm := zz_le m
        have ho : ov us a (a + zz l) k = (if g + zz m < a + zz l then g + zz m else a + zz l) - (if a < g then g else a) := by simp only [ov, hu]
        have hj : ∀ t : Nat, t ≤ 65536 → j_X10_assignedIn_37_t3 (nI a) (nI l) D (nI (sov us a (a + zz l) k), nI k) (nI g) (nI t) = some (Sum.inl (nI (sov us a (a + zz l) k + ((if g + zz m < a + zz l then g + zz m else a + zz l) - t)), nI (k + 1))) := by
          intro t ht
          simp only [j_X10_assignedIn_37_t3]
          rw [lengthAt_eq hk, Option.bind_some, o2, size_eq o4, Option.bind_some, size_eq hl, Option.bind_some, nI_add, nI_add]
          have h75 : ∀ v : Nat, v < 2 ^ 30 → j_X10_assignedIn_75_t7 (nI (sov us a (a + zz l) k), nI k) (nI t) (nI v) = some (Sum.inl (nI (sov us a (a + zz l) k + (v - t)), nI (k + 1))) := by
            intro v hv
            simp only [j_X10_assignedIn_75_t7]
            rw [if_le (by omega) (by omega)]
            by_cases w : v ≤ t
            · rw [if_pos w, show v - t = 0 by omega, Nat.add_zero, nI_1, show (0 : Int32) = nI 0 from rfl, nI_add, Nat.add_zero]
            · rw [if_neg w, pk_sub (by omega), nI_add, nI_1]
          rw [if_le (by omega) (by omega)]
          by_cases w : a + zz l ≤ g + zz m
          · rw [if_pos w, Option.bind_some, nI_add, h75 _ (by omega), if_neg (show ¬ (g + zz m < a + zz l) by omega)]
          · rw [if_neg w, h75 _ (by omega), if_pos (show g + zz m < a + zz l by omega)]
        rw [o1, if_neg (nI_pos (by omega)), if_le (by omega) (by omega), ho]
        by_cases w : g ≤ a
        · rw [if_pos w, hj a ha, if_neg (show ¬ a < g by omega)]
        · rw [if_neg w, hj g (by omega), if_pos (show a < g by omega)]
    · rfl
  rw [f_X10_assignedIn, h, Option.bind_some]
theorem ov_0 {us : Nat → Option (Nat × Nat)} {a e j : Nat} (hae : a < e) : ov us a e j = 0 ↔ ∀ g l, us j = some (g, l) → e ≤ g ∨ g + zz l ≤ a := by
  simp only [ov]
  cases hu : us j with
  | none => simp
  | some q =>
    obtain ⟨g, m⟩ := q
    have hz := zz_pos m
    simp only [Option.some.injEq, Prod.mk.injEq]
    constructor
    · rintro h g' l' ⟨rfl, rfl⟩
      by_cases w1 : g + zz m < e
      · rw [if_pos w1] at h
        by_cases w2 : a < g
        · rw [if_pos w2] at h; omega
        · rw [if_neg w2] at h; omega
      · rw [if_neg w1] at h
        by_cases w2 : a < g
        · rw [if_pos w2] at h; omega
        · rw [if_neg w2] at h; omega
    · intro h
      have := h g m ⟨rfl, rfl⟩
      by_cases w1 : g + zz m < e
      · rw [if_pos w1]
        by_cases w2 : a < g
        · rw [if_pos w2]; omega
        · rw [if_neg w2]; omega
      · rw [if_neg w1]
        by_cases w2 : a < g
        · rw [if_pos w2]; omega
        · rw [if_neg w2]; omega
theorem sov_ge {us : Nat → Option (Nat × Nat)} {a e : Nat} {j : Nat} : ∀ n, j < n → ov us a e j ≤ sov us a e n := by
  intro n
  induction n with
  | zero => intro h; omega
  | succ n ih =>
    intro h
    simp only [sov]
    by_cases w : j = n
    · rw [w]; omega
    · have := ih (by omega)
      omega
theorem sov_ge2 {us : Nat → Option (Nat × Nat)} {a e i j : Nat} (hij : i ≠ j) : ∀ n, i < n → j < n → ov us a e i + ov us a e j ≤ sov us a e n := by
  intro n
  induction n with
  | zero => intro h _; omega
  | succ n ih =>
    intro h1 h2
    simp only [sov]
    by_cases w : j = n
    · have := sov_ge (us := us) (a := a) (e := e) (j := i) n (by omega)
      rw [w]
      omega
    · by_cases w2 : i = n
      · have := sov_ge (us := us) (a := a) (e := e) (j := j) n (by omega)
        rw [w2]
        omega
      · have := ih (by omega) (by omega)
        omega
theorem sov_all0 {us : Nat → Option (Nat × Nat)} {a e : Nat} : ∀ n, (∀ j, j < n → ov us a e j = 0) → sov us a e n = 0 := by
  intro n
  induction n with
  | zero => intro _; rfl
  | succ n ih =>
    intro h
    simp only [sov]
    rw [ih (fun j hj => h j (by omega)), h n (by omega)]
theorem sov_0 {us : Nat → Option (Nat × Nat)} {a e : Nat} (hae : a < e) : sov us a e 24 = 0 ↔ AllF (Fr us) a e := by
  constructor
  · intro h y h1 h2 hA
    obtain ⟨k, g, l, k1, k2, k3, k4⟩ := hA
    have := sov_ge (us := us) (a := a) (e := e) (j := k) 24 k1
    have := (ov_0 hae).mp (show ov us a e k = 0 by omega) g l k2
    omega
  · intro h
    apply sov_all0
    intro j hj
    rw [ov_0 hae]
    intro g l hu
    have hz := zz_pos l
    apply Classical.byContradiction
    intro w
    by_cases w2 : a ≤ g
    · exact h g w2 (by omega) ⟨j, g, l, hj, hu, by omega, by omega⟩
    · exact h a (by omega) (by omega) ⟨j, g, l, hj, hu, by omega, by omega⟩
def ib (us : Nat → Option (Nat × Nat)) (e j : Nat) : Nat := match us j with
  | none => 0
  | some q => if q.1 ≤ e ∧ e < q.1 + zz q.2 then 1 else 0
def sib (us : Nat → Option (Nat × Nat)) (e : Nat) : Nat → Nat
  | 0 => 0
  | k + 1 => sib us e k + ib us e k
theorem ov_s {us : Nat → Option (Nat × Nat)} {a e j : Nat} (hae : a ≤ e) : ov us a (e + 1) j = ov us a e j + ib us e j := by
  simp only [ov, ib]
  cases us j with
  | none => rfl
  | some q =>
    obtain ⟨g, m⟩ := q
    have hz := zz_pos m
    simp only
    by_cases w1 : g ≤ e ∧ e < g + zz m
    · rw [if_pos w1, if_neg (show ¬ g + zz m < e + 1 by omega), if_neg (show ¬ g + zz m < e by omega)]
      by_cases w2 : a < g
      · rw [if_pos w2]; omega
      · rw [if_neg w2]; omega
    · rw [if_neg w1]
      by_cases w2 : a < g
      · rw [if_pos w2]
        by_cases w3 : g + zz m < e + 1
        · rw [if_pos w3]
          by_cases w4 : g + zz m < e
          · rw [if_pos w4]; omega
          · rw [if_neg w4]; omega
        · rw [if_neg w3, if_neg (show ¬ g + zz m < e by omega)]; omega
      · rw [if_neg w2]
        by_cases w3 : g + zz m < e + 1
        · rw [if_pos w3]
          by_cases w4 : g + zz m < e
          · rw [if_pos w4]; omega
          · rw [if_neg w4]; omega
        · rw [if_neg w3, if_neg (show ¬ g + zz m < e by omega)]; omega
theorem sov_s {us : Nat → Option (Nat × Nat)} {a e : Nat} (hae : a ≤ e) : ∀ n, sov us a (e + 1) n = sov us a e n + sib us e n := by
  intro n
  induction n with
  | zero => rfl
  | succ n ih =>
    simp only [sov, sib]
    rw [ih, ov_s hae]
    omega
theorem sib_0 {us : Nat → Option (Nat × Nat)} {e : Nat} : ∀ n, (∀ j, j < n → ib us e j = 0) → sib us e n = 0 := by
  intro n
  induction n with
  | zero => intro _; rfl
  | succ n ih =>
    intro h
    simp only [sib]
    rw [ih (fun j hj => h j (by omega)), h n (by omega)]
theorem ib_1 {us : Nat → Option (Nat × Nat)} {e j : Nat} : ib us e j = 1 ∨ ib us e j = 0 := by
  simp only [ib]
  cases us j with
  | none => right; rfl
  | some q =>
    simp only
    by_cases w : q.1 ≤ e ∧ e < q.1 + zz q.2
    · rw [if_pos w]; left; rfl
    · rw [if_neg w]; right; rfl
theorem ib_pos {us : Nat → Option (Nat × Nat)} {e j : Nat} (h : ib us e j ≠ 0) : ∃ g l, us j = some (g, l) ∧ g ≤ e ∧ e < g + zz l := by
  simp only [ib] at h
  cases hu : us j with
  | none => rw [hu] at h; exact absurd rfl h
  | some q =>
    rw [hu] at h
    simp only at h
    by_cases w : q.1 ≤ e ∧ e < q.1 + zz q.2
    · exact ⟨q.1, q.2, rfl, w.1, w.2⟩
    · rw [if_neg w] at h; exact absurd rfl h
theorem sib_1 {us : Nat → Option (Nat × Nat)} {e : Nat} (hA : Ap us) : ∀ n, n ≤ 24 → sib us e n ≤ 1 := by
  intro n
  induction n with
  | zero => intro _; simp [sib]
  | succ n ih =>
    intro hn
    simp only [sib]
    rcases ib_1 (us := us) (e := e) (j := n) with w | w
    · rw [sib_0 n (fun j hj => ?_), w]
      · omega
      · apply Classical.byContradiction
        intro w2
        obtain ⟨g, l, a1, a2, a3⟩ := ib_pos w2
        obtain ⟨g', l', b1, b2, b3⟩ := ib_pos (show ib us e n ≠ 0 by omega)
        have := hA j n g l g' l' (by omega) (by omega) (by omega) a1 b1
        omega
    · rw [w]
      exact ih (by omega)
theorem sib_iff {us : Nat → Option (Nat × Nat)} {e : Nat} : ∀ n, (sib us e n = 0 ↔ ∀ j, j < n → ib us e j = 0) := by
  intro n
  refine ⟨?_, sib_0 n⟩
  induction n with
  | zero => intro _ j hj; omega
  | succ n ih =>
    intro h j hj
    simp only [sib] at h
    by_cases w : j = n
    · rw [w]; omega
    · exact ih (by omega) j (by omega)
theorem sov_full {us : Nat → Option (Nat × Nat)} {a : Nat} (hA : Ap us) : ∀ d, sov us a (a + d) 24 ≤ d ∧ (sov us a (a + d) 24 = d ↔ AllF (Au us) a (a + d)) := by
  intro d
  induction d with
  | zero =>
    have h0 : sov us a (a + 0) 24 = 0 := by
      apply sov_all0
      intro j hj
      simp only [ov, Nat.add_zero]
      cases us j with
      | none => rfl
      | some q =>
        simp only
        by_cases w1 : q.1 + zz q.2 < a
        · rw [if_pos w1]
          by_cases w2 : a < q.1
          · rw [if_pos w2]; omega
          · rw [if_neg w2]; omega
        · rw [if_neg w1]
          by_cases w2 : a < q.1
          · rw [if_pos w2]; omega
          · rw [if_neg w2]; omega
    rw [h0]
    exact ⟨Nat.le_refl _, fun _ y h1 h2 => by omega, fun _ => rfl⟩
  | succ d ih =>
    obtain ⟨h1, h2⟩ := ih
    have hs := sov_s (us := us) (show a ≤ a + d by omega) 24
    rw [show a + (d + 1) = a + d + 1 by omega, hs]
    have h3 := sib_1 (e := a + d) hA 24 (Nat.le_refl _)
    have hb : sib us (a + d) 24 = 0 ∨ sib us (a + d) 24 = 1 := by omega
    have hAu : sib us (a + d) 24 ≠ 0 ↔ Au us (a + d) := by
      rw [Ne, sib_iff]
      constructor
      · intro w
        apply Classical.byContradiction
        intro w2
        apply w
        intro j hj
        apply Classical.byContradiction
        intro w3
        obtain ⟨g, l, b1, b2, b3⟩ := ib_pos w3
        exact w2 ⟨j, g, l, hj, b1, b2, b3⟩
      · rintro ⟨k, g, l, k1, k2, k3, k4⟩ w
        have := w k k1
        simp only [ib, k2] at this
        rw [if_pos ⟨k3, k4⟩] at this
        cases this
    refine ⟨by omega, ?_, ?_⟩
    · intro w y w1 w2
      by_cases w3 : y = a + d
      · rw [w3, ← hAu]; omega
      · exact h2.mp (by omega) y w1 (by omega)
    · intro w
      have e1 := h2.mpr (fun y w1 w2 => w y w1 (by omega))
      have e2 := hAu.mpr (w (a + d) (by omega) (by omega))
      omega
