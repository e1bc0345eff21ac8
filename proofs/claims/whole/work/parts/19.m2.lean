theorem fa_and (a b : Nat) : nI a &&& nI b = nI (a &&& b) := by
  apply Int32.toBitVec_inj.1
  show BitVec.ofNat 32 a &&& BitVec.ofNat 32 b = BitVec.ofNat 32 (a &&& b)
  apply BitVec.eq_of_getLsbD_eq
  intro i hi
  simp [hi]
theorem fa_bit {n j : Nat} (hj : j < 31) : nI n &&& nI (2 ^ j) = 0 ↔ n.testBit j = false := by
  have h2 : (2 : Nat) ^ j < 2 ^ 31 := Nat.pow_lt_pow_right (by decide) hj
  have hle : n &&& 2 ^ j ≤ 2 ^ j := Nat.and_le_right
  have e : n &&& 2 ^ j = 0 ↔ n.testBit j = false := by
    constructor
    · intro h
      have h1 : (n &&& 2 ^ j).testBit j = false := by rw [h]; simp
      rw [Nat.testBit_and] at h1
      first | simpa using h1 | simpa [Nat.testBit_two_pow_self] using h1 | simpa [Nat.testBit_two_pow] using h1
    · intro h
      apply Nat.eq_of_testBit_eq
      intro i
      rw [Nat.testBit_and]
      by_cases hi : j = i
      · subst hi; simp [h]
      · first | (simp [Nat.testBit_two_pow, hi]; done) | (simp [Nat.testBit_two_pow_of_ne hi]; done)
  rw [fa_and]
  constructor
  · intro h
    apply e.mp
    rcases Nat.eq_zero_or_pos (n &&& 2 ^ j) with z | z
    · exact z
    · exact absurd h (nI_ne0 z (Nat.lt_of_le_of_lt hle h2))
  · intro h
    rw [e.mpr h]; exact nI_0
/-! the greatest block at an address within a stretch -/
def blG (c : Nat → Bool) : Nat → Nat → Nat
  | 0, l => l
  | n + 1, l => if c l = true then l else blG c n (l + 1)
theorem blG_spec (c : Nat → Bool) : ∀ (n l : Nat), l ≤ blG c n l ∧ blG c n l ≤ l + n ∧ (∀ m, l ≤ m → m < blG c n l → c m = false) ∧ (blG c n l < l + n → c (blG c n l) = true) := by
  intro n
  induction n with
  | zero =>
    intro l
    simp only [blG]
    exact ⟨Nat.le_refl _, Nat.le_refl _, fun m h1 h2 => by omega, fun h => by omega⟩
  | succ n ih =>
    intro l
    simp only [blG]
    cases hc : c l with
    | true =>
      rw [if_pos rfl]
      exact ⟨Nat.le_refl _, by omega, fun m h1 h2 => by omega, fun _ => hc⟩
    | false =>
      rw [if_neg (by decide)]
      obtain ⟨h1, h2, h3, h4⟩ := ih (l + 1)
      refine ⟨by omega, by omega, fun m q1 q2 => ?_, fun q => h4 (by omega)⟩
      by_cases hm : m = l
      · rw [hm]; exact hc
      · exact h3 m (by omega) q2
theorem blG_uniq {c : Nat → Bool} {n l r : Nat} (h1 : l ≤ r) (h2 : r ≤ l + n) (h3 : ∀ m, l ≤ m → m < r → c m = false) (h4 : r < l + n → c r = true) : blG c n l = r := by
  obtain ⟨a1, a2, a3, a4⟩ := blG_spec c n l
  rcases Nat.lt_trichotomy (blG c n l) r with q | q | q
  · have := h3 _ a1 q
    rw [a4 (by omega)] at this
    cases this
  · exact q
  · have := a3 r h1 q
    rw [h4 (by omega)] at this
    cases this
def fitB (a t l : Nat) : Bool := decide (a % zz l = 0) && decide (a + zz l ≤ t)
theorem fitB_iff {a t l : Nat} : fitB a t l = true ↔ a % zz l = 0 ∧ a + zz l ≤ t := by
  simp [fitB]
theorem fitB_mono {a t l m : Nat} (h : l ≤ m) (hf : fitB a t l = true) : fitB a t m = true := by
  rw [fitB_iff] at hf ⊢
  exact ⟨zz_mod h hf.1, Nat.le_trans (Nat.add_le_add_left (zz_mono h) a) hf.2⟩
theorem fitB_16 {a t : Nat} (h : a < t) : fitB a t 16 = true := by
  rw [fitB_iff, zz_16]
  exact ⟨Nat.mod_one a, h⟩
def bl (a t : Nat) : Nat := blG (fitB a t) 16 0
theorem bl_le (a t : Nat) : bl a t ≤ 16 := by
  have := (blG_spec (fitB a t) 16 0).2.1
  exact Nat.le_trans this (by decide)
theorem bl_fit {a t : Nat} (h : a < t) : fitB a t (bl a t) = true := by
  by_cases q : bl a t < 0 + 16
  · exact (blG_spec (fitB a t) 16 0).2.2.2 q
  · have := bl_le a t
    rw [show bl a t = 16 by omega]
    exact fitB_16 h
theorem bl_min {a t m : Nat} (h : m < bl a t) : fitB a t m = false := (blG_spec (fitB a t) 16 0).2.2.1 m (Nat.zero_le _) h
theorem bl_uniq {a t r : Nat} (hr : r ≤ 16) (h1 : fitB a t r = true) (h2 : r = 0 ∨ fitB a t (r - 1) = false) : bl a t = r := by
  refine blG_uniq (Nat.zero_le _) (by omega) (fun m _ hm => ?_) (fun _ => h1)
  rcases h2 with h2 | h2
  · omega
  · cases hc : fitB a t m with
    | false => rfl
    | true =>
      rw [fitB_mono (show m ≤ r - 1 by omega) hc] at h2
      cases h2
/-- the blocks of a stretch, from the left -/
def gr : Nat → Nat → Nat → List (Nat × Nat)
  | 0, _, _ => []
  | n + 1, a, t => if t ≤ a then [] else (a, bl a t) :: gr n (a + zz (bl a t)) t
theorem gr_fuel : ∀ (n m a t : Nat), t - a ≤ n → t - a ≤ m → gr n a t = gr m a t := by
  intro n
  induction n with
  | zero =>
    intro m a t h1 h2
    cases m with
    | zero => rfl
    | succ m => simp only [gr]; rw [if_pos (by omega)]
  | succ n ih =>
    intro m a t h1 h2
    have hz := zz_pos (bl a t)
    cases m with
    | zero => simp only [gr]; rw [if_pos (by omega)]
    | succ m =>
      simp only [gr]
      by_cases q : t ≤ a
      · rw [if_pos q, if_pos q]
      · rw [if_neg q, if_neg q, ih m _ t (by omega) (by omega)]
def GR (a t : Nat) : List (Nat × Nat) := gr (t - a) a t
theorem GR_nil {a t : Nat} (h : t ≤ a) : GR a t = [] := by
  rw [GR, show t - a = 0 by omega]
  rfl
theorem GR_cons {a t : Nat} (h : a < t) : GR a t = (a, bl a t) :: GR (a + zz (bl a t)) t := by
  have hz := zz_pos (bl a t)
  rw [GR, show t - a = (t - a - 1) + 1 by omega]
  simp only [gr]
  rw [if_neg (by omega), GR, gr_fuel (t - a - 1) (t - (a + zz (bl a t))) _ t (by omega) (Nat.le_refl _)]
theorem and_zz {a l : Nat} (hl : 0 < l) (hl2 : l ≤ 16) (h : a % zz l = 0) : (nI a &&& nI (zz l)) = 0 ↔ a % zz (l - 1) = 0 := by
  rw [show zz l = 2 ^ (16 - l) from rfl, fa_bit (by omega), Nat.testBit_eq_decide_div_mod_eq, decide_eq_false_iff_not]
  have e1 : zz (l - 1) = 2 ^ (16 - l) * 2 := by
    rw [zz_pred (show l - 1 < 16 by omega), show l - 1 + 1 = l by omega, Nat.mul_comm]
    rfl
  rw [e1, Nat.mod_mul]
  have h' : a % 2 ^ (16 - l) = 0 := h
  rw [h']
  have hp : 0 < 2 ^ (16 - l) := Nat.pos_of_ne_zero (by simp)
  rcases Nat.mod_two_eq_zero_or_one (a / 2 ^ (16 - l)) with q | q
  · rw [q]
    simp
  · rw [q]
    simp
