/-! how many blocks there can be -/
theorem pig_1 {α : Type} (P : α → Prop) (dP : ∀ x, Decidable (P x)) : ∀ (l : List α), l.Pairwise (fun q r => P q → P r → False) → l.length ≤ (l.filter (fun x => @decide (¬ P x) (@instDecidableNot _ (dP x)))).length + 1 := by
  intro l
  induction l with
  | nil => intro _; simp
  | cons q r ih =>
    intro h
    rw [List.pairwise_cons] at h
    by_cases hq : P q
    · have e : r.filter (fun x => @decide (¬ P x) (@instDecidableNot _ (dP x))) = r := by
        rw [List.filter_eq_self]
        intro x hx
        exact decide_eq_true (fun hp => h.1 x hx hq hp)
      rw [List.filter_cons_of_neg (by simp [hq]), e]
      simp
    · rw [List.filter_cons_of_pos (by simp [hq])]
      have := ih h.2
      simp only [List.length_cons]
      omega
theorem pig {α : Type} (R : α → Nat → Prop) : ∀ (n : Nat) (l : List α), (∀ q ∈ l, ∃ c, c < n ∧ R q c) → l.Pairwise (fun q r => ∀ c, R q c → R r c → False) → l.length ≤ n := by
  intro n
  induction n with
  | zero =>
    intro l h _
    cases l with
    | nil => simp
    | cons q r =>
      obtain ⟨c, hc, _⟩ := h q (by simp)
      omega
  | succ n ih =>
    intro l h hp
    have dP : ∀ x, Decidable (R x n) := fun x => Classical.propDecidable _
    have h1 := pig_1 (fun x => R x n) dP l (hp.imp (fun w => w n))
    have h2 := ih (l.filter (fun x => @decide (¬ R x n) (@instDecidableNot _ (dP x)))) (fun q hq => by
      rw [List.mem_filter] at hq
      obtain ⟨c, hc, hR⟩ := h q hq.1
      refine ⟨c, ?_, hR⟩
      by_cases w : c = n
      · rw [w] at hR
        exact absurd hR (of_decide_eq_true hq.2)
      · omega) (List.Pairwise.filter _ hp)
    omega
def cat (ls : Nat → List (Nat × Nat)) : Nat → List (Nat × Nat)
  | 0 => []
  | n + 1 => cat ls n ++ ls n
theorem cat_mem {ls : Nat → List (Nat × Nat)} {q : Nat × Nat} : ∀ n, q ∈ cat ls n ↔ ∃ p, p < n ∧ q ∈ ls p := by
  intro n
  induction n with
  | zero => simp [cat]
  | succ n ih =>
    simp only [cat, List.mem_append]
    rw [ih]
    constructor
    · rintro (⟨p, h1, h2⟩ | h)
      · exact ⟨p, by omega, h2⟩
      · exact ⟨n, by omega, h⟩
    · rintro ⟨p, h1, h2⟩
      by_cases w : p = n
      · right; rw [← w]; exact h2
      · left; exact ⟨p, by omega, h2⟩
theorem cat_le {ls : Nat → List (Nat × Nat)} {m : Nat} : ∀ n, m ≤ n → ∃ r, cat ls n = cat ls m ++ r := by
  intro n
  induction n with
  | zero => intro h; rw [show m = 0 by omega]; exact ⟨[], by simp⟩
  | succ n ih =>
    intro h
    by_cases w : m = n + 1
    · rw [w]; exact ⟨[], by simp⟩
    · obtain ⟨r, hr⟩ := ih (by omega)
      exact ⟨r ++ ls n, by simp [cat, hr]⟩
theorem FSeg_mem {F : Nat → Prop} {pl : Nat} : ∀ (l : List (Nat × Nat)) (a b : Nat), FSeg F pl l a b → ∀ q ∈ l, a ≤ q.1 ∧ q.1 + zz q.2 ≤ b ∧ Mx F pl q.1 q.2 := by
  intro l
  induction l with
  | nil => intro a b _ q hq; cases hq
  | cons x r ih =>
    intro a b h q hq
    obtain ⟨g1, g2, g3, g4, g5⟩ := h
    rw [List.mem_cons] at hq
    rcases hq with rfl | hq
    · exact ⟨g1, g2, g4⟩
    · obtain ⟨w1, w2, w3⟩ := ih _ b g5 q hq
      exact ⟨by omega, w2, w3⟩
theorem FSeg_pw {F : Nat → Prop} {pl : Nat} : ∀ (l : List (Nat × Nat)) (a b : Nat), FSeg F pl l a b → l.Pairwise (fun q r => q.1 < r.1) := by
  intro l
  induction l with
  | nil => intro a b _; exact List.Pairwise.nil
  | cons x r ih =>
    intro a b h
    obtain ⟨g1, g2, g3, g4, g5⟩ := h
    rw [List.pairwise_cons]
    refine ⟨fun q hq => ?_, ih _ b g5⟩
    have := (FSeg_mem r _ b g5 q hq).1
    have := zz_pos x.2
    omega
/-- pools and blocks as they lie -/
def Geo (N : Nat) (po : Nat → Nat × Nat) (us : Nat → Option (Nat × Nat)) : Prop := N ≤ 4 ∧ (∀ p, p < N → 4 ≤ (po p).2 ∧ (po p).2 ≤ 14 ∧ (po p).1 % zz (po p).2 = 0 ∧ (po p).1 + zz (po p).2 ≤ 65536) ∧ (∀ p q, p < N → q < N → p ≠ q → (po p).1 + zz (po p).2 ≤ (po q).1 ∨ (po q).1 + zz (po q).2 ≤ (po p).1) ∧ (∀ k g l, k < 24 → us k = some (g, l) → 5 ≤ l ∧ l ≤ 16 ∧ g % zz l = 0 ∧ ∃ p, p < N ∧ (po p).1 ≤ g ∧ g + zz l ≤ (po p).1 + zz (po p).2) ∧ Ap us
theorem Geo.hin {N : Nat} {po : Nat → Nat × Nat} {us : Nat → Option (Nat × Nat)} (h : Geo N po us) {p : Nat} (hp : p < N) : ∀ k g l, k < 24 → us k = some (g, l) → g + zz l ≤ (po p).1 ∨ (po p).1 + zz (po p).2 ≤ g ∨ ((po p).1 ≤ g ∧ g + zz l ≤ (po p).1 + zz (po p).2) := by
  intro k g l hk hu
  obtain ⟨h1, h2, h3, h4, h5⟩ := h
  obtain ⟨_, _, _, p', w1, w2, w3⟩ := h4 k g l hk hu
  by_cases e : p' = p
  · subst e
    exact Or.inr (Or.inr ⟨w2, w3⟩)
  · have := h3 p' p w1 hp e
    omega
/-- the lists of the pools' free blocks -/
def FLs (N : Nat) (po : Nat → Nat × Nat) (us : Nat → Option (Nat × Nat)) (ls : Nat → List (Nat × Nat)) : Prop := ∀ p, p < N → FSeg (Fr us) (po p).2 (ls p) (po p).1 ((po p).1 + zz (po p).2)
theorem cat_pw {N : Nat} {po : Nat → Nat × Nat} {us : Nat → Option (Nat × Nat)} {ls : Nat → List (Nat × Nat)} (hG : Geo N po us) (hL : FLs N po us ls) : ∀ n, n ≤ N → (cat ls n).Pairwise (fun q r => q.1 ≠ r.1) := by
  intro n
  induction n with
  | zero => intro _; exact List.Pairwise.nil
  | succ n ih =>
    intro hn
    simp only [cat]
    rw [List.pairwise_append]
    refine ⟨ih (by omega), (FSeg_pw _ _ _ (hL n (by omega))).imp (fun w => by omega), fun q hq r hr => ?_⟩
    obtain ⟨p, h1, h2⟩ := (cat_mem n).mp hq
    obtain ⟨a1, a2, _⟩ := FSeg_mem _ _ _ (hL p (by omega)) q h2
    obtain ⟨b1, b2, _⟩ := FSeg_mem _ _ _ (hL n (by omega)) r hr
    have := hG.2.2.1 p n (by omega) (by omega) (by omega)
    have := zz_pos q.2
    have := zz_pos r.2
    omega
def Rb (N : Nat) (po : Nat → Nat × Nat) (us : Nat → Option (Nat × Nat)) (q : Nat × Nat) (c : Nat) : Prop := q.1 % zz q.2 = 0 ∧ AllF (Fr us) q.1 (q.1 + zz q.2) ∧ ((∃ p, p < N ∧ q.1 = (po p).1 ∧ c = 288 + p) ∨ (5 ≤ q.2 ∧ q.2 ≤ 16 ∧ ∃ k g l c0, k < 24 ∧ us k = some (g, l) ∧ c = 12 * k + (q.2 - 5) ∧ c0 % zz (q.2 - 1) = 0 ∧ c0 ≤ q.1 ∧ q.1 < c0 + zz (q.2 - 1) ∧ c0 ≤ g ∧ g < c0 + zz (q.2 - 1)))
theorem Rb_inj {N : Nat} {po : Nat → Nat × Nat} {us : Nat → Option (Nat × Nat)} {q r : Nat × Nat} {c : Nat} (hq : Rb N po us q c) (hr : Rb N po us r c) : q.1 = r.1 := by
  obtain ⟨a1, a2, a3⟩ := hq
  obtain ⟨b1, b2, b3⟩ := hr
  rcases a3 with ⟨p, w1, w2, w3⟩ | ⟨w1, w2, k, g, l, c0, w3, w4, w5, w6, w7, w8, w9, w10⟩
  · rcases b3 with ⟨p', v1, v2, v3⟩ | ⟨v1, v2, k', g', l', c0', v3, v4, v5, v6, v7, v8, v9, v10⟩
    · rw [w2, v2, show p = p' by omega]
    · omega
  · rcases b3 with ⟨p', v1, v2, v3⟩ | ⟨v1, v2, k', g', l', c0', v3, v4, v5, v6, v7, v8, v9, v10⟩
    · omega
    · have hk : k = k' := by omega
      have hl : q.2 = r.2 := by omega
      subst hk
      rw [w4] at v4
      injection v4 with v4
      injection v4 with v4 v4'
      subst v4
      rw [← hl] at v6 v8 v10 b1 b2
      have hz := zz_pred (show q.2 - 1 < 16 by omega)
      rw [show q.2 - 1 + 1 = q.2 by omega] at hz
      have hc : c0 = c0' := by
        rcases Nat.lt_trichotomy c0 c0' with h | h | h
        · have := mod_gap w6 v6 h
          omega
        · exact h
        · have := mod_gap v6 w6 h
          omega
      subst hc
      have hp := zz_pos q.2
      have hc2 : c0 % zz q.2 = 0 := zz_mod (by omega) w6
      have half : ∀ x, x % zz q.2 = 0 → c0 ≤ x → x < c0 + zz (q.2 - 1) → x = c0 ∨ x = c0 + zz q.2 := by
        intro x h1 h2 h3
        rcases Nat.lt_or_ge c0 x with h | h
        · have := mod_gap hc2 h1 h
          rcases Nat.lt_or_ge (c0 + zz q.2) x with h' | h'
          · have := mod_gap (mod_addz hc2) h1 h'
            omega
          · omega
        · omega
      have gA : Au us g := ⟨k, g, l, w3, w4, Nat.le_refl _, by have := zz_pos l; omega⟩
      have n1 : ¬ (q.1 ≤ g ∧ g < q.1 + zz q.2) := fun h => a2 g h.1 h.2 gA
      have n2 : ¬ (r.1 ≤ g ∧ g < r.1 + zz q.2) := fun h => b2 g h.1 h.2 gA
      have := half q.1 a1 w7 w8
      have := half r.1 b1 v7 v8
      omega
theorem Rb_ex {N : Nat} {po : Nat → Nat × Nat} {us : Nat → Option (Nat × Nat)} (hG : Geo N po us) {p : Nat} (hp : p < N) {q : Nat × Nat} (h1 : (po p).1 ≤ q.1) (h2 : q.1 + zz q.2 ≤ (po p).1 + zz (po p).2) (hM : Mx (Fr us) (po p).2 q.1 q.2) : ∃ c, c < 292 ∧ Rb N po us q c := by
  obtain ⟨g1, g2, g3, g4, g5⟩ := hG
  obtain ⟨a1, a2, a3, a4⟩ := g2 p hp
  obtain ⟨m1, m2, m3, m4, m5⟩ := hM
  have hz := zz_pos q.2
  by_cases e : q.2 = (po p).2
  · refine ⟨288 + p, by omega, m3, m4, Or.inl ⟨p, hp, ?_, rfl⟩⟩
    rw [e] at h2
    omega
  · have hc0 : (q.1 - q.1 % zz (q.2 - 1)) % zz (q.2 - 1) = 0 := Nat.mod_eq_zero_of_dvd (Nat.dvd_sub_mod _)
    have hm := Nat.mod_lt q.1 (zz_pos (q.2 - 1))
    have hle := Nat.mod_le q.1 (zz (q.2 - 1))
    have hn := m5 (q.2 - 1) (q.1 - q.1 % zz (q.2 - 1)) (by omega) (by omega) hc0 (by omega) (by omega)
    have : ∃ y, q.1 - q.1 % zz (q.2 - 1) ≤ y ∧ y < q.1 - q.1 % zz (q.2 - 1) + zz (q.2 - 1) ∧ Au us y := by
      apply Classical.byContradiction
      intro w
      apply hn
      intro y w1 w2 w3
      exact w ⟨y, w1, w2, w3⟩
    obtain ⟨y, y1, y2, k, g, l, k1, k2, k3, k4⟩ := this
    obtain ⟨b1, b2, b3, _⟩ := g4 k g l k1 k2
    refine ⟨12 * k + (q.2 - 5), by omega, m3, m4, Or.inr ⟨by omega, m2, k, g, l, q.1 - q.1 % zz (q.2 - 1), k1, k2, rfl, hc0, by omega, by omega, ?_, by omega⟩⟩
    rcases Nat.lt_or_ge (q.2 - 1) l with w | w
    · exact nest_le (Nat.le_of_lt w) hc0 b3 (by omega)
    · have n1 := nest_le w b3 hc0 (by omega)
      have n2 := nest_in w b3 hc0 (by omega)
      exact absurd ⟨k, g, l, k1, k2, by omega, by omega⟩ (m4 q.1 (Nat.le_refl _) (by omega))
theorem cat_bound {N : Nat} {po : Nat → Nat × Nat} {us : Nat → Option (Nat × Nat)} {ls : Nat → List (Nat × Nat)} (hG : Geo N po us) (hL : FLs N po us ls) : (cat ls N).length ≤ 292 := by
  apply pig (Rb N po us)
  · intro q hq
    obtain ⟨p, h1, h2⟩ := (cat_mem N).mp hq
    obtain ⟨a1, a2, a3⟩ := FSeg_mem _ _ _ (hL p h1) q h2
    exact Rb_ex hG h1 a1 a2 a3
  · exact (cat_pw hG hL N (Nat.le_refl _)).imp (fun w c h1 h2 => w (Rb_inj h1 h2))
