/-! plain facts of the store's words -/
theorem inb_nI {i n : Nat} (h : i < n) (hn : n < 2 ^ 31) : inb (nI i) n = true := by
  simp only [inb, Bool.and_eq_true, decide_eq_true_eq]
  rw [nI_toInt (by omega)]
  omega
theorem inb_out {i : Int32} {n : Nat} (h : ¬ (0 ≤ i.toInt ∧ i.toInt < n)) : inb i n = false := by
  cases hb : inb i n with
  | false => rfl
  | true =>
    simp only [inb, Bool.and_eq_true, decide_eq_true_eq] at hb
    exact absurd hb h
theorem inb_of {i : Int32} {n : Nat} (h : inb i n = true) (hn : n < 2 ^ 31) : ∃ j : Nat, j < n ∧ i = nI j := vp_in_of (inb_in h) hn
theorem gd_some {β : Type} {b : Bool} {F : Option β} {o : β} (h : gd b F = some o) : b = true ∧ F = some o := by
  cases b with
  | false => cases h
  | true => exact ⟨rfl, h⟩
theorem rd_at {β : Type} {D : Dt} {kd b n j : Nat} {i : Int32} {f : Int32 → Option β} (hi : i = nI j) (h : j < n) (hn : n < 2 ^ 31) : rd D kd b n i f = f (D kd b j) := by
  subst hi
  rw [rd, inb_nI h hn, nI_clamp (by omega)]
  rfl
theorem wr_at {β : Type} {D : Dt} {kd b n j : Nat} {i x : Int32} {f : Dt → Option β} (hi : i = nI j) (h : j < n) (hn : n < 2 ^ 31) : wr D kd b n i x f = f (updD D kd b j x) := by
  subst hi
  rw [wr, inb_nI h hn, nI_clamp (by omega)]
  rfl
theorem lp_from {σ ε : Type} (f : σ → Option (σ ⊕ ε)) (s : Nat → σ) (e : ε) (n : Nat) (hs : ∀ i, i < n → f (s i) = some (Sum.inl (s (i + 1)))) (he : f (s n) = some (Sum.inr e)) : ∀ (d i N : Nat), i + d = n → d < N → lp f N (s i) = some e := by
  intro d
  induction d with
  | zero =>
    intro i N hi hN
    cases N with
    | zero => omega
    | succ N =>
      rw [lp, show i = n by omega, he]
  | succ d ih =>
    intro i N hi hN
    cases N with
    | zero => omega
    | succ N =>
      rw [lp, hs i (by omega)]
      exact ih (i + 1) N (by omega) (by omega)
theorem lp_run {σ ε : Type} {f : σ → Option (σ ⊕ ε)} (s : Nat → σ) (n : Nat) {e : ε} (hn : n < FU) (hs : ∀ i, i < n → f (s i) = some (Sum.inl (s (i + 1)))) (he : f (s n) = some (Sum.inr e)) : lp f FU (s 0) = some e := lp_from f s e n hs he n 0 FU (by omega) hn
/-- a loop that may end early: after n turns it answers e -/
theorem lp_to {σ ε : Type} {f : σ → Option (σ ⊕ ε)} (s : Nat → σ) (n : Nat) {e : ε} {z : σ} (hz : s 0 = z) (hn : n < FU) (hs : ∀ i, i < n → f (s i) = some (Sum.inl (s (i + 1)))) (he : f (s n) = some (Sum.inr e)) : lp f FU z = some e := by
  subst hz
  exact lp_run s n hn hs he
theorem FU_big {n : Nat} (h : n < 100000) : n < FU := h
/-- a row filled -/
def fillD (D : Dt) (kd b n : Nat) (x : Int32) : Dt := fun k' b' i => if k' = kd ∧ b' = b ∧ i < n then x else D k' b' i
theorem fillD_0 (D : Dt) (kd b : Nat) (x : Int32) : fillD D kd b 0 x = D := by
  funext k' b' i
  simp [fillD]
theorem fillD_s (D : Dt) (kd b n : Nat) (x : Int32) : updD (fillD D kd b n x) kd b n x = fillD D kd b (n + 1) x := by
  funext k' b' i
  simp only [updD, fillD]
  by_cases h : k' = kd ∧ b' = b
  · obtain ⟨rfl, rfl⟩ := h
    by_cases h1 : i = n
    · subst h1
      simp
    · by_cases h2 : i < n
      · rw [if_neg (fun q => h1 q.2.2), if_pos ⟨rfl, rfl, h2⟩, if_pos ⟨rfl, rfl, by omega⟩]
      · rw [if_neg (fun q => h1 q.2.2), if_neg (fun q => h2 q.2.2), if_neg (fun q => by omega)]
  · rw [if_neg (fun q => h ⟨q.1, q.2.1⟩), if_neg (fun q => h ⟨q.1, q.2.1⟩), if_neg (fun q => h ⟨q.1, q.2.1⟩)]
theorem p_fill (kd b n : Nat) (x : Int32) (D : Dt) (hn : n < 2000) : f_fill kd b n x D = some (fillD D kd b n x) := by
  have h : lp (l_fill kd b n x) FU ((0 : Int32), D) = some (fillD D kd b n x) := by
    apply lp_to (fun i => (nI i, fillD D kd b i x)) n
    · rw [fillD_0]; rfl
    · exact FU_big (by omega)
    · intro i hi
      simp only [l_fill]
      rw [if_neg (show ¬ Int32.ofNat n ≤ nI i from nI_ge hi (by omega)), wr_at rfl hi (by omega), fillD_s, nI_1]
    · simp only [l_fill]
      rw [if_pos (show Int32.ofNat n ≤ nI n from nI_le (Nat.le_refl n) (by omega))]
  rw [f_fill, h]
  rfl
theorem updD_at (D : Dt) (k b i : Nat) (x : Int32) (k' b' i' : Nat) : updD D k b i x k' b' i' = if k' = k ∧ b' = b ∧ i' = i then x else D k' b' i' := rfl
theorem fillD_at (D : Dt) (k b n : Nat) (x : Int32) (k' b' i' : Nat) : fillD D k b n x k' b' i' = if k' = k ∧ b' = b ∧ i' < n then x else D k' b' i' := rfl
theorem cpyD_at (D : Dt) (k b0 b1 n : Nat) (k' b' i' : Nat) : cpyD D k b0 b1 n k' b' i' = if k' = k ∧ b' = b1 ∧ i' < n then D k b0 i' else D k' b' i' := rfl
/-- resets -/
theorem p_X5_reset (b : Nat) (D : Dt) : f_X5_reset b D = some (fillD (fillD (updD (updD D 1 b 0 0) 1 b 1 0) 4 b 12 (-1)) 6 b 12 (-1)) := by
  simp only [f_X5_reset, pu, p_fill _ _ _ _ _ (show (12 : Nat) < 2000 by decide), Option.bind]
theorem p_X2_dismiss {b j : Nat} (D : Dt) (hj : j < 16) : f_X2_dismiss b (nI j) D = some (updD (updD (updD D 10 b j (-1)) 12 b j (-1)) 14 b j (-1)) := by
  simp only [f_X2_dismiss]
  rw [wr_at rfl hj (by decide), wr_at rfl hj (by decide), wr_at rfl hj (by decide)]
def hresD (D : Dt) (b n : Nat) : Dt := fillD (fillD (fillD D 10 b n (-1)) 12 b n (-1)) 14 b n (-1)
theorem hresD_s (D : Dt) (b n : Nat) : updD (updD (updD (hresD D b n) 10 b n (-1)) 12 b n (-1)) 14 b n (-1) = hresD D b (n + 1) := by
  simp only [hresD, ← fillD_s]
  funext k' b' i
  simp only [updD, fillD]
  by_cases h : b' = b
  · subst h
    rcases (show k' = 10 ∨ k' = 12 ∨ k' = 14 ∨ (k' ≠ 10 ∧ k' ≠ 12 ∧ k' ≠ 14) by omega) with rfl | rfl | rfl | ⟨h1, h2, h3⟩
    · simp
    · simp
    · simp
    · simp [h1, h2, h3]
  · simp [h]
theorem p_X2_reset (b : Nat) (D : Dt) : f_X2_reset b D = some (hresD D b 16) := by
  have h : lp (l_X2_reset_2 b) FU ((0 : Int32), D) = some (hresD D b 16) := by
    apply lp_to (fun i => (nI i, hresD D b i)) 16
    · simp only [hresD, fillD_0]; rfl
    · exact FU_big (by omega)
    · intro i hi
      simp only [l_X2_reset_2]
      rw [if_neg (show ¬ (16 : Int32) ≤ nI i from nI_ge (b := 16) hi (by decide)), p_X2_dismiss _ hi]
      simp only [Option.bind]
      rw [hresD_s, nI_1]
    · rfl
  rw [f_X2_reset, h]
  rfl
theorem p_X6_reset (b : Nat) (D : Dt) : f_X6_reset b D = some (updD (updD (updD (updD (hresD (fillD (fillD (updD (updD D 1 b 0 0) 1 b 1 0) 4 b 12 (-1)) 6 b 12 (-1)) b 16) 0 b 2 0) 0 b 3 60) 0 b 4 100) 0 b 5 0) := by
  simp only [f_X6_reset, pu, p_X5_reset, p_X2_reset, Option.bind]
