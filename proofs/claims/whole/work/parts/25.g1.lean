/-! blocks that nest; the greatest blocks of a set of addresses -/
theorem mod_gap {a b d : Nat} (ha : a % d = 0) (hb : b % d = 0) (h : a < b) : a + d ≤ b := by
  have h1 := Nat.div_add_mod a d
  have h2 := Nat.div_add_mod b d
  rw [ha, Nat.add_zero] at h1
  rw [hb, Nat.add_zero] at h2
  have h3 : a / d < b / d := by
    rcases Nat.lt_or_ge (a / d) (b / d) with q | q
    · exact q
    · have := Nat.mul_le_mul_left d q
      omega
  have h4 : d * (a / d + 1) ≤ d * (b / d) := Nat.mul_le_mul_left d h3
  rw [Nat.mul_add, Nat.mul_one] at h4
  omega
theorem mod_addz {a l : Nat} (h : a % zz l = 0) : (a + zz l) % zz l = 0 := by
  rw [Nat.add_mod_right]; exact h
theorem nest_in {c m x l : Nat} (hm : m ≤ l) (hc : c % zz m = 0) (hx : x % zz l = 0) (h2 : x < c + zz m) : x + zz l ≤ c + zz m := mod_gap hx (zz_mod hm (mod_addz hc)) h2
theorem nest_le {c m x l : Nat} (hm : m ≤ l) (hc : c % zz m = 0) (hx : x % zz l = 0) (h1 : c < x + zz l) : c ≤ x := by
  rcases Nat.lt_or_ge x c with q | q
  · have := mod_gap hx (zz_mod hm hc) q
    omega
  · exact q
def AllF (F : Nat → Prop) (a b : Nat) : Prop := ∀ y, a ≤ y → y < b → F y
def Mx (F : Nat → Prop) (pl x l : Nat) : Prop := pl ≤ l ∧ l ≤ 16 ∧ x % zz l = 0 ∧ AllF F x (x + zz l) ∧ ∀ m c, pl ≤ m → m < l → c % zz m = 0 → c ≤ x → x < c + zz m → ¬ AllF F c (c + zz m)
def FSeg (F : Nat → Prop) (pl : Nat) : List (Nat × Nat) → Nat → Nat → Prop
  | [], a, b => ∀ y, a ≤ y → y < b → ¬ F y
  | q :: r, a, b => a ≤ q.1 ∧ q.1 + zz q.2 ≤ b ∧ (∀ y, a ≤ y → y < q.1 → ¬ F y) ∧ Mx F pl q.1 q.2 ∧ FSeg F pl r (q.1 + zz q.2) b
def Bd (F : Nat → Prop) (pl a : Nat) : Prop := ∀ m c, pl ≤ m → m ≤ 16 → c % zz m = 0 → c < a → a < c + zz m → ¬ AllF F c (c + zz m)
theorem FSeg_app {F : Nat → Prop} {pl : Nat} : ∀ (l1 l2 : List (Nat × Nat)) (a b c : Nat), a ≤ b → b ≤ c → FSeg F pl l1 a b → FSeg F pl l2 b c → FSeg F pl (l1 ++ l2) a c := by
  intro l1
  induction l1 with
  | nil =>
    intro l2 a b c hab hbc h1 h2
    cases l2 with
    | nil =>
      intro y h3 h4
      rcases Nat.lt_or_ge y b with q | q
      · exact h1 y h3 q
      · exact h2 y q h4
    | cons q r =>
      obtain ⟨g1, g2, g3, g4, g5⟩ := h2
      refine ⟨by omega, g2, fun y h3 h4 => ?_, g4, g5⟩
      rcases Nat.lt_or_ge y b with q | q
      · exact h1 y h3 q
      · exact g3 y q h4
  | cons q r ih =>
    intro l2 a b c hab hbc h1 h2
    obtain ⟨g1, g2, g3, g4, g5⟩ := h1
    exact ⟨g1, by omega, g3, g4, ih l2 _ b c g2 hbc g5 h2⟩
theorem FSeg_skip {F : Nat → Prop} {pl : Nat} (l : List (Nat × Nat)) {a b e : Nat} (hab : a ≤ b) (hn : ∀ y, a ≤ y → y < b → y < e → ¬ F y) (h : FSeg F pl l a e) : FSeg F pl l b e := by
  cases l with
  | nil => exact fun y h1 h2 => h y (by omega) h2
  | cons q r =>
    obtain ⟨g1, g2, g3, g4, g5⟩ := h
    have hz := zz_pos q.2
    refine ⟨?_, g2, fun y h3 h4 => g3 y (by omega) h4, g4, g5⟩
    rcases Nat.lt_or_ge q.1 b with h6 | h6
    · exact absurd (g4.2.2.2.1 q.1 (Nat.le_refl _) (by omega)) (hn q.1 g1 h6 (by omega))
    · exact h6
theorem GR_seg {F : Nat → Prop} {pl e t : Nat} (hp16 : pl ≤ 16) (he : e % zz pl = 0) (hte : t ≤ e) (ht : t = e ∨ ¬ F t) : ∀ (n a : Nat), t - a ≤ n → a ≤ t → AllF F a t → Bd F pl a → (pl = 0 ∨ t < a + 2 * zz pl) → FSeg F pl (GR a t) a t := by
  intro n
  induction n with
  | zero =>
    intro a h1 h2 _ _ _
    rw [GR_nil (by omega)]
    exact fun y h3 h4 => by omega
  | succ n ih =>
    intro a h1 h2 hF hB hs
    by_cases hat : a < t
    · rw [GR_cons hat]
      have hfit := fitB_iff.mp (bl_fit hat)
      have hz := zz_pos (bl a t)
      have hl := bl_le a t
      have hpl : pl ≤ bl a t := by
        rcases Nat.lt_or_ge (bl a t) pl with q | q
        · rcases hs with hs | hs
          · omega
          · have h5 := zz_mono (show bl a t + 1 ≤ pl by omega)
            have h6 := zz_pred (show bl a t < 16 by omega)
            omega
        · exact q
      have hMx : Mx F pl a (bl a t) := by
        refine ⟨hpl, hl, hfit.1, fun y h3 h4 => hF y h3 (by omega), fun m c h3 h4 h5 h6 h7 h8 => ?_⟩
        rcases Nat.lt_or_ge c a with q | q
        · exact hB m c h3 (by omega) h5 q h7 h8
        · have hca : c = a := by omega
          subst hca
          have h9 := bl_min h4
          have h10 : ¬ (c + zz m ≤ t) := fun w => by
            rw [fitB_iff.mpr ⟨h5, w⟩] at h9
            cases h9
          rcases ht with ht | ht
          · have := mod_gap h5 (zz_mod h3 he) (show c < e by omega)
            omega
          · exact ht (h8 t (by omega) (by omega))
      refine ⟨Nat.le_refl _, hfit.2, fun y h3 h4 => by simp only at h4; omega, hMx, ?_⟩
      apply ih
      · omega
      · exact hfit.2
      · exact fun y h3 h4 => hF y (by omega) h4
      · intro m c h3 h4 h5 h6 h7 h8
        rcases Nat.lt_or_ge m (bl a t) with q | q
        · have hca := nest_le (Nat.le_of_lt q) h5 hfit.1 h6
          exact hMx.2.2.2.2 m c h3 q h5 hca (by omega) h8
        · have := mod_gap h5 (zz_mod q (mod_addz hfit.1)) h6
          omega
      · omega
    · rw [GR_nil (by omega)]
      exact fun y h3 h4 => by omega
def Au (us : Nat → Option (Nat × Nat)) (y : Nat) : Prop := ∃ k g l, k < 24 ∧ us k = some (g, l) ∧ g ≤ y ∧ y < g + zz l
def Fr (us : Nat → Option (Nat × Nat)) (y : Nat) : Prop := ¬ Au us y
theorem Bd_used {F : Nat → Prop} {pl a : Nat} (h : 0 < a → ¬ F (a - 1)) : Bd F pl a := by
  intro m c h1 h2 h3 h4 h5 h6
  exact h (by omega) (h6 (a - 1) (by omega) (by omega))
theorem Bd_al {F : Nat → Prop} {pl a : Nat} (h : a % zz pl = 0) : Bd F pl a := by
  intro m c h1 h2 h3 h4 h5 h6
  have := mod_gap h3 (zz_mod h1 h) h4
  omega
/-- what the class lists of a pool is what is to be listed -/
theorem freeP_seg {us : Nat → Option (Nat × Nat)} {n pb pl : Nat} {wB wE : Nat → Nat} (hU : Used us 24 n wB wE) (hA : Ap us) (hin : ∀ k g l, k < 24 → us k = some (g, l) → g + zz l ≤ pb ∨ pb + zz pl ≤ g ∨ (pb ≤ g ∧ g + zz l ≤ pb + zz pl)) (hpb : pb % zz pl = 0) (hp16 : pl ≤ 16) : FSeg (Fr us) pl (freeP pb (pb + zz pl) n wB wE) pb (pb + zz pl) := by
  obtain ⟨hn, hs, h3, h4⟩ := hU
  have hzp := zz_pos pl
  have gap : ∀ i cur t, i ≤ n → pb ≤ cur → t ≤ pb + zz pl → (∀ j, j < i → pb ≤ wB j → wB j < pb + zz pl → wE j ≤ cur) → (∀ j, i ≤ j → j < n → pb ≤ wB j → wB j < pb + zz pl → t ≤ wB j) → AllF (Fr us) cur t := by
    intro i cur t hi hc ht q1 q2 y hy1 hy2 hAu
    obtain ⟨k, g, l, a1, a2, a3, a4⟩ := hAu
    obtain ⟨j, b1, b2, b3⟩ := h4 k g l a1 a2
    have := hin k g l a1 a2
    rcases Nat.lt_or_ge j i with w | w
    · have := q1 j w (by omega) (by omega)
      omega
    · have := q2 j w b1 (by omega) (by omega)
      omega
  have key : ∀ i, i ≤ n → pb ≤ (flS pb (pb + zz pl) wB wE i).1 ∧ (flS pb (pb + zz pl) wB wE i).1 ≤ pb + zz pl ∧ FSeg (Fr us) pl (flS pb (pb + zz pl) wB wE i).2 pb (flS pb (pb + zz pl) wB wE i).1 ∧ (∀ j, j < i → pb ≤ wB j → wB j < pb + zz pl → wE j ≤ (flS pb (pb + zz pl) wB wE i).1) ∧ (∀ j, i ≤ j → j < n → pb ≤ wB j → wB j < pb + zz pl → (flS pb (pb + zz pl) wB wE i).1 ≤ wB j) ∧ Bd (Fr us) pl (flS pb (pb + zz pl) wB wE i).1 := by
    intro i
    induction i with
    | zero =>
      intro _
      simp only [flS]
      exact ⟨Nat.le_refl _, by omega, fun y h1 h2 => by omega, fun j hj => by omega, fun j _ _ h1 _ => h1, Bd_al hpb⟩
    | succ i ih =>
      intro hi
      obtain ⟨c1, c2, c3, c4, c5, c6⟩ := ih (by omega)
      simp only [flS]
      by_cases q : pb ≤ wB i ∧ wB i < pb + zz pl
      · rw [if_pos q]
        obtain ⟨k, l, a1, a2, a3⟩ := h3 i (by omega)
        have hk := hin k _ l a1 a2
        have hzl := zz_pos l
        have e1 := c5 i (Nat.le_refl _) (by omega) q.1 q.2
        have hAu : ∀ y, wB i ≤ y → y < wE i → Au us y := fun y w1 w2 => ⟨k, wB i, l, a1, a2, w1, by omega⟩
        refine ⟨by simp only; omega, by simp only; omega, ?_, ?_, ?_, ?_⟩
        · simp only
          refine FSeg_app _ _ pb (flS pb (pb + zz pl) wB wE i).1 (wE i) c1 (by omega) c3 ?_
          have e2 : FSeg (Fr us) pl [] (wB i) (wE i) := fun y w1 w2 w3 => w3 (hAu y w1 w2)
          have e3 := FSeg_app (GR (flS pb (pb + zz pl) wB wE i).1 (wB i)) [] (flS pb (pb + zz pl) wB wE i).1 (wB i) (wE i) e1 (by omega) (GR_seg (e := pb + zz pl) hp16 (mod_addz hpb) (by omega) (Or.inr (fun w => w (hAu _ (Nat.le_refl _) (by omega)))) _ _ (Nat.le_refl _) e1 (gap i _ _ (by omega) c1 (by omega) c4 (fun j w1 w2 w3 w4 => by
            by_cases w5 : j = i
            · rw [w5]; exact Nat.le_refl _
            · exact Nat.le_of_lt (hs i j (by omega) w2))) c6 (Or.inr (by omega))) e2
          rw [List.append_nil] at e3
          exact e3
        · intro j w1 w2 w3
          simp only
          by_cases w5 : j = i
          · rw [w5]; exact Nat.le_refl _
          · have := c4 j (by omega) w2 w3
            omega
        · intro j w1 w2 w3 w4
          simp only
          obtain ⟨k', l', b1, b2, b3⟩ := h3 j w2
          have hlt := hs i j (by omega) w2
          have hne : k ≠ k' := by
            intro w
            rw [w, b2] at a2
            injection a2 with a2
            injection a2 with a2 _
            omega
          have := hA k k' _ l _ l' a1 b1 hne a2 b2
          have := zz_pos l'
          omega
        · simp only
          exact Bd_used (fun w1 w2 => w2 (hAu _ (by omega) (by omega)))
      · rw [if_neg q]
        refine ⟨c1, c2, c3, fun j w1 w2 w3 => ?_, fun j w1 w2 w3 w4 => c5 j (by omega) w2 w3 w4, c6⟩
        by_cases w5 : j = i
        · rw [w5] at w2 w3
          exact absurd ⟨w2, w3⟩ q
        · exact c4 j (by omega) w2 w3
  obtain ⟨c1, c2, c3, c4, c5, c6⟩ := key n (Nat.le_refl _)
  rw [freeP]
  exact FSeg_app _ _ pb _ _ c1 c2 c3 (GR_seg (e := pb + zz pl) hp16 (mod_addz hpb) (Nat.le_refl _) (Or.inl rfl) _ _ (Nat.le_refl _) c2 (gap n _ _ (Nat.le_refl _) c1 (Nat.le_refl _) c4 (fun j w1 w2 => by omega)) c6 (Or.inr (by omega)))
