/-! leases: which addresses; request -/
def clN (g m t : Nat) : Bool := decide (g ≤ t) && decide (t < g + zz m) && (decide (zz m < 4) || (decide (g < t) && decide (t < g + zz m - 1)))
def clB (g m : Nat) (x : Int32) : Bool := decide (0 ≤ x) && clN g m x.toNatClampNeg
theorem clB_n {g m t : Nat} (h : t < 2 ^ 31) : clB g m (nI t) = clN g m t := by
  rw [clB, decide_eq_true (nI_pos' h), Bool.true_and, nI_clamp h]
theorem clN_iff {g m t : Nat} : clN g m t = true ↔ g ≤ t ∧ t < g + zz m ∧ (zz m < 4 ∨ (g < t ∧ t < g + zz m - 1)) := by
  simp [clN, and_assoc]
theorem b01_ite {c : Bool} {P : Prop} [Decidable P] (h : c = true ↔ P) : b01 c = if P then 1 else 0 := by
  by_cases w : P
  · rw [if_pos w, h.mpr w]; rfl
  · rw [if_neg w, Bool.eq_false_iff.mpr (fun q => w (h.mp q))]; rfl
theorem p_canLease {g m : Nat} (hg : g < 65536) (hm : m ≤ 16) (x : Int32) (D : Dt) : f_X9_canLease (nI g) (nI m) x D = some (b01 (clB g m x)) := by
  have hz := zz_pos m
  have hzl := zz_le m
  by_cases c0 : x < 0
  · have e : clB g m x = false := by
      rw [clB, decide_eq_false (fun q => ?_), Bool.false_and]
      exact absurd c0 (not_lt_le.mpr q)
    have lt : x < nI g := by
      rw [Int32.lt_iff_toInt_lt] at *
      rw [nI_toInt (by omega)]
      have : (0 : Int32).toInt = 0 := by decide
      omega
    rw [f_X9_canLease, f_X9_covers, if_neg (nI_nm1 (by omega)), if_pos lt, Option.bind_some, if_pos rfl, e]
    rfl
  · obtain ⟨t, ht, rfl⟩ := nI_of c0
    have em : nI (g + zz m) - (1 : Int32) = nI (g + zz m - 1) := pk_sub (b := 1) (by omega)
    have k1 : cov (some (g, m)) t = true ↔ g ≤ t ∧ t < g + zz m := by simp [cov]
    rw [clB_n ht, f_X9_canLease]
    have hc : f_X9_covers (nI g) (nI m) (nI t) D = some (b01 (cov (some (g, m)) t)) := by
      rw [f_X9_covers, if_neg (nI_nm1 (by omega)), if_lt ht (by omega), sizeOf_eq hm, Option.bind_some, nI_add, if_le (by omega) ht, b01_ite k1]
      by_cases w : t < g
      · rw [if_pos w, if_neg (by omega)]
      · rw [if_neg w]
        by_cases w2 : g + zz m ≤ t
        · rw [if_pos w2, if_neg (by omega)]
        · rw [if_neg w2, if_pos (by omega)]
    rw [hc, Option.bind_some, b01_0, sizeOf_eq hm, Option.bind_some, nI_add, em, show (4 : Int32) = nI 4 from rfl, if_lt (by omega) (by decide), if_eq ht (by omega), if_eq ht (by omega), b01_ite clN_iff]
    by_cases w : cov (some (g, m)) t = true
    · have w' := k1.mp w
      rw [if_pos w]
      by_cases w1 : zz m < 4
      · rw [if_pos w1, if_pos (by omega)]
      · rw [if_neg w1]
        by_cases w2 : t = g
        · rw [if_pos w2, if_neg (by omega)]
        · rw [if_neg w2]
          by_cases w3 : t = g + zz m - 1
          · rw [if_pos w3, if_neg (by omega)]
          · rw [if_neg w3, if_pos (by omega)]
    · have w' : ¬ (g ≤ t ∧ t < g + zz m) := fun q => w (k1.mpr q)
      rw [if_neg w, if_neg (by omega)]
theorem p_X10_canLease {g m : Nat} (hg : g < 65536) (hm : m ≤ 16) (x : Int32) (D : Dt) : f_X10_canLease x (nI g) (nI m) D = some (b01 (clB g m x)) := by
  have hz := zz_pos m
  have hzl := zz_le m
  have em : nI (g + zz m) - (1 : Int32) = nI (g + zz m - 1) := pk_sub (b := 1) (by omega)
  rw [f_X10_canLease, size_eq hm, Option.bind_some, nI_add, em, in_eq, Option.bind_some, if_b, Option.bind_some, show (4 : Int32) = nI 4 from rfl, if_lt (by omega) (by decide)]
  by_cases c0 : x < 0
  · have e : clB g m x = false := by
      rw [clB, decide_eq_false (fun q => ?_), Bool.false_and]
      exact absurd c0 (not_lt_le.mpr q)
    have lt : ¬ (nI g ≤ x ∧ x ≤ nI (g + zz m - 1)) := by
      rintro ⟨q, _⟩
      rw [Int32.lt_iff_toInt_lt] at c0
      rw [Int32.le_iff_toInt_le, nI_toInt (by omega)] at q
      have : (0 : Int32).toInt = 0 := by decide
      omega
    rw [if_neg lt, e]
    rfl
  · obtain ⟨t, ht, rfl⟩ := nI_of c0
    rw [clB_n ht, if_le ht (by omega), if_le (by omega) ht, b01_ite clN_iff]
    by_cases w : g ≤ t ∧ t ≤ g + zz m - 1
    · rw [if_pos ⟨nI_le w.1 ht, nI_le w.2 (by omega)⟩]
      by_cases w1 : zz m < 4
      · rw [if_pos w1, if_pos (by omega)]
      · rw [if_neg w1]
        by_cases w2 : t ≤ g
        · rw [if_pos w2, if_neg (by omega)]
        · rw [if_neg w2]
          by_cases w3 : g + zz m - 1 ≤ t
          · rw [if_pos w3, if_neg (by omega)]
          · rw [if_neg w3, if_pos (by omega)]
    · rw [if_neg, if_neg (by omega)]
      rintro ⟨q1, q2⟩
      rw [nI_leI (by omega) ht] at q1
      rw [nI_leI ht (by omega)] at q2
      omega
def sfp (s : Nat → Int32) (g m : Nat) (t : Nat) : Bool := clN g m (g + t) && (hfd s (nI (g + t))).isNone
def sfr (s : Nat → Int32) (g m : Nat) : Option Nat := (ff1 (sfp s g m) (zz m)).map (fun t => g + t)
theorem oI_isN {α : Type} {o : Option Nat} {x y : α} (h : ∀ n, o = some n → n < 2 ^ 31) : (if oI o = -1 then x else y) = if o.isNone = true then x else y := by
  cases o with
  | none => rfl
  | some n => rw [oI_s, if_neg (nI_nm1 (h n rfl))]; rfl
theorem o9_isN {α : Type} {o : Option Nat} {x y : α} (h : ∀ n, o = some n → n < 2 ^ 31) : (if o9 o = -9 then x else y) = if o.isNone = true then x else y := by
  cases o with
  | none => rfl
  | some n =>
    have hne : ¬ nI n = (-9 : Int32) := by
      intro q
      have := congrArg Int32.toInt q
      rw [nI_toInt (h n rfl)] at this
      have e : (-9 : Int32).toInt = -9 := by decide
      rw [e] at this
      omega
    show (if nI n = -9 then x else y) = _
    rw [if_neg hne]
    rfl
theorem p_smallestFree {D : Dt} {b g m : Nat} {s : Nat → Int32} (hR : RelH D b s) (hg : g < 65536) (hm : m ≤ 16) : f_X2_smallestFree b (nI g) (nI m) D = some (oI (sfr s g m)) := by
  have hz := zz_pos m
  have hzl := zz_le m
  have key : ∃ e, lp (l_X2_smallestFree_10 b (nI g) (nI m) D (nI (zz m))) FU (nI g) = some e ∧ e = oI (sfr s g m) := by
    apply lp_n (fun i t => t = nI (g + i) ∧ ff1 (sfp s g m) i = none) _ (zz m)
    · exact ⟨rfl, rfl⟩
    · omega
    · rintro i t hi ⟨rfl, hf⟩
      simp only [l_X2_smallestFree_10]
      rw [nI_add, if_le (by omega) (by omega)]
      by_cases w : i = zz m
      · right
        rw [w] at hf
        rw [if_pos (by omega), sfr, hf]
        exact ⟨_, rfl, rfl⟩
      · have hi2 : i < zz m := by omega
        rw [if_neg (by omega), p_canLease hg hm, Option.bind_some, b01_0, clB_n (by omega), p_holderOf hR, Option.bind_some, oI_isN hfd_lt, nI_1]
        by_cases c1 : clN g m (g + i) = true
        · rw [if_pos c1]
          by_cases c2 : (hfd s (nI (g + i))).isNone = true
          · right
            rw [if_pos c2, sfr, ff1_hit hf (by rw [sfp, c1, c2]; rfl) (zz m) hi2]
            exact ⟨_, rfl, rfl⟩
          · left
            rw [if_neg c2]
            exact ⟨hi2, _, rfl, rfl, ff1_s hf (by rw [sfp, Bool.eq_false_iff.mpr c2, Bool.and_false])⟩
        · left
          rw [if_neg c1]
          exact ⟨hi2, _, rfl, rfl, ff1_s hf (by rw [sfp, Bool.eq_false_iff.mpr c1, Bool.false_and])⟩
  obtain ⟨e, h1, h2⟩ := key
  rw [f_X2_smallestFree, sizeOf_eq hm, Option.bind_some, h1, h2]
theorem p_na96 {D : Dt} {n g m : Nat} {s : Nat → Int32} (hs : D 33 0 = s) (hn : n < 12) (h0 : s (14 + 5 * n) = nI g) (h1 : s (14 + 5 * n + 1) = nI m) (hg : g < 65536) (hm : m ≤ 16) : lp (l_X10_newAddress_96 D (nI (14 + 5 * n))) FU (nI g) = some (oI (sfr s g m)) := by
  have hz := zz_pos m
  have hzl := zz_le m
  have key : ∃ e, lp (l_X10_newAddress_96 D (nI (14 + 5 * n))) FU (nI g) = some e ∧ e = oI (sfr s g m) := by
    apply lp_n (fun i t => t = nI (g + i) ∧ ff1 (sfp s g m) i = none) _ (zz m)
    · exact ⟨rfl, rfl⟩
    · omega
    · rintro i t hi ⟨rfl, hf⟩
      simp only [l_X10_newAddress_96, nI_1, rd_at rfl (show 14 + 5 * n < 170 by omega) (show 170 < 2 ^ 31 by decide), rd_at rfl (show 14 + 5 * n + 1 < 170 by omega) (show 170 < 2 ^ 31 by decide), hs, h0, h1, size_eq hm, Option.bind_some, nI_add, if_le (show g + zz m < 2 ^ 31 by omega) (show g + i < 2 ^ 31 by omega)]
      by_cases w : i = zz m
      · right
        rw [w] at hf
        rw [if_pos (by omega), sfr, hf]
        exact ⟨_, rfl, rfl⟩
      · have hi2 : i < zz m := by omega
        rw [if_neg (by omega), p_X10_canLease hg hm, Option.bind_some, b01_0, clB_n (by omega), p_holder hs, Option.bind_some, o9_isN hfd_lt]
        by_cases c1 : clN g m (g + i) = true
        · rw [if_pos c1]
          by_cases c2 : (hfd s (nI (g + i))).isNone = true
          · right
            rw [if_pos c2, sfr, ff1_hit hf (by rw [sfp, c1, c2]; rfl) (zz m) hi2]
            exact ⟨_, rfl, rfl⟩
          · left
            rw [if_neg c2]
            exact ⟨hi2, _, rfl, rfl, ff1_s hf (by rw [sfp, Bool.eq_false_iff.mpr c2, Bool.and_false])⟩
        · left
          rw [if_neg c1]
          exact ⟨hi2, _, rfl, rfl, ff1_s hf (by rw [sfp, Bool.eq_false_iff.mpr c1, Bool.false_and])⟩
  obtain ⟨e, k1, k2⟩ := key
  rw [k1, k2]
theorem sfr_lt {s : Nat → Int32} {g m a : Nat} (hg : g < 65536) (h : sfr s g m = some a) : a < g + zz m := by
  simp only [sfr] at h
  cases hf : ff1 (sfp s g m) (zz m) with
  | none => rw [hf] at h; cases h
  | some t =>
    rw [hf] at h
    have := (ff1_lt _ _ hf).1
    simp at h
    omega
/-- the new address of a host without one -/
def like (s : Nat → Int32) (i n : Nat) : Int32 := s (14 + 5 * n) + s (74 + 6 * i + 4) - s (14 + 5 * n + 2)
def lkB (s : Nat → Int32) (i n g m : Nat) : Bool := !decide (s (74 + 6 * i + 4) = -1) && (clB g m (like s i n) && (hfd s (like s i n)).isNone)
def naO (s : Nat → Int32) (i n g m : Nat) : Option Nat := if lkB s i n g m = true then some (like s i n).toNatClampNeg else sfr s g m
theorem clB_lt {g m : Nat} {x : Int32} (h : clB g m x = true) : ∃ t, t < g + zz m ∧ x = nI t ∧ t < 2 ^ 31 := by
  simp only [clB, Bool.and_eq_true, decide_eq_true_eq] at h
  obtain ⟨t, ht, rfl⟩ := nI_of (not_lt_le.mpr h.1)
  rw [nI_clamp ht] at h
  exact ⟨t, (clN_iff.mp h.2).2.1, rfl, ht⟩
theorem naO_lt {s : Nat → Int32} {i n g m a : Nat} (hg : g + zz m ≤ 65536) (hg2 : g < 65536) (h : naO s i n g m = some a) : a < 65536 := by
  rw [naO] at h
  by_cases c : lkB s i n g m = true
  · rw [if_pos c] at h
    simp only [lkB, Bool.and_eq_true] at c
    obtain ⟨t, t1, t2, t3⟩ := clB_lt c.2.1
    injection h with h
    rw [t2, nI_clamp t3] at h
    omega
  · rw [if_neg c] at h
    have := sfr_lt hg2 h
    omega
theorem sub_assoc32 (a b c : Int32) : a + (b - c) = a + b - c := by
  rw [Int32.sub_eq_add_neg, Int32.sub_eq_add_neg, Int32.add_assoc]
theorem p_newAddr {D : Dt} {b i n g m : Nat} {s : Nat → Int32} (hR : RelS D b s) (hi : i < 16) (hn : n < 12) (h0 : s (14 + 5 * n) = nI g) (h1 : s (14 + 5 * n + 1) = nI m) (hg : g < 65536) (hm : m ≤ 16) (ho : s (74 + 6 * i + 4) ≠ -1 → s (14 + 5 * n + 2) ≠ -1) : (f_X6_sameDistance b (nI i) (nI n) D).bind (fun o5 => if o5 = (-1 : Int32) then (rd D 4 b 12 (nI n) (fun v6 => rd D 5 b 12 (nI n) (fun v7 => (f_X2_smallestFree b v6 v7 D).bind (fun o8 => some o8)))) else (some o5)) = some (oI (naO s i n g m)) := by
  obtain ⟨w0, w2, w4, w1, w3, w5⟩ := hR.2.2 i hi
  obtain ⟨v0, v2, v1, v3⟩ := hR.2.1.2.2.2 n hn
  have hne : s (14 + 5 * n) ≠ -1 := by rw [h0]; exact nI_nm1 (by omega)
  have e4 : D 4 b n = nI g := v0.trans h0
  have e5 : D 5 b n = nI m := (v1 hne).trans h1
  have sf : rd D 4 b 12 (nI n) (fun v6 => rd D 5 b 12 (nI n) (fun v7 => (f_X2_smallestFree b v6 v7 D).bind (fun o8 => some o8))) = some (oI (sfr s g m)) := by
    rw [rd_at rfl hn (by decide), rd_at rfl hn (by decide), e4, e5, p_smallestFree hR.2.2 hg hm, Option.bind_some]
  rw [sf]
  have sd : f_X6_sameDistance b (nI i) (nI n) D = some (if lkB s i n g m = true then like s i n else -1) := by
    rw [f_X6_sameDistance, rd_at rfl hi (by decide), rd_at rfl hi (by decide), rd_at rfl hn (by decide), rd_at rfl hn (by decide), rd_at rfl hn (by decide), rd_at rfl hn (by decide), hasOld_s hR.2.1 hn, Option.bind_some, if_b', e4, e5, w4, v2]
    have el : nI g + (s (74 + 6 * i + 4) - s (14 + 5 * n + 2)) = like s i n := by rw [like, h0, sub_assoc32]
    rw [el, p_canLease hg hm, Option.bind_some, b01_0, p_holderOf hR.2.2, Option.bind_some, oI_isN hfd_lt]
    simp only [lkB]
    by_cases c1 : s (74 + 6 * i + 4) = -1
    · simp [c1]
    · have c1' := ho c1
      rw [if_neg c1, if_neg c1']
      by_cases c2 : clB g m (like s i n) = true
      · by_cases c3 : (hfd s (like s i n)).isNone = true
        · simp [c1, c2, c3]
        · simp [c1, c2, c3]
      · simp [c1, c2]
  rw [sd, Option.bind_some]
  by_cases c : lkB s i n g m = true
  · have c' := c
    simp only [lkB, Bool.and_eq_true] at c'
    obtain ⟨t, t1, t2, t3⟩ := clB_lt c'.2.1
    rw [if_pos c, t2, if_neg (nI_nm1 t3), naO, if_pos c, t2, nI_clamp t3, oI_s]
  · rw [if_neg c, if_pos rfl, naO, if_neg c]
theorem p_X10_newAddr {D : Dt} {i n g m : Nat} {s : Nat → Int32} (hs : D 33 0 = s) (hi : i < 16) (hn : n < 12) (hnet : s (74 + 6 * i) = nI n) (h0 : s (14 + 5 * n) = nI g) (h1 : s (14 + 5 * n + 1) = nI m) (hg : g < 65536) (hm : m ≤ 16) (hn4 : nn (s (74 + 6 * i + 4))) : f_X10_newAddress (nI i) D = some (oI (naO s i n g m)) := by
  have l2 : l_X10_newAddress_96_20 D (nI (14 + 5 * n)) = l_X10_newAddress_96 D (nI (14 + 5 * n)) := rfl
  have l3 : l_X10_newAddress_96_30 D (nI (14 + 5 * n)) = l_X10_newAddress_96 D (nI (14 + 5 * n)) := rfl
  have na := p_na96 hs hn h0 h1 hg hm
  rw [f_X10_newAddress, p_X10_hostAt, Option.bind_some, rd_at rfl (show 74 + 6 * i < 170 by omega) (by decide), hs, hnet, p_X10_net, Option.bind_some, l2, l3]
  simp only [show (4 : Int32) = nI 4 from rfl, show (2 : Int32) = nI 2 from rfl, nI_add, nI_1]
  rw [rd_at rfl (show 74 + 6 * i + 4 < 170 by omega) (by decide), hs, nn_lt hn4]
  simp only [rd_at rfl (show 14 + 5 * n < 170 by omega) (show 170 < 2 ^ 31 by decide), rd_at rfl (show 14 + 5 * n + 1 < 170 by omega) (show 170 < 2 ^ 31 by decide), rd_at rfl (show 14 + 5 * n + 2 < 170 by omega) (show 170 < 2 ^ 31 by decide), rd_at rfl (show 74 + 6 * i + 4 < 170 by omega) (show 170 < 2 ^ 31 by decide), hs, h1, na]
  have el : s (14 + 5 * n) + s (74 + 6 * i + 4) - s (14 + 5 * n + 2) = like s i n := rfl
  rw [el, h0, p_X10_canLease hg hm, Option.bind_some, b01_0, p_holder hs, Option.bind_some, o9_isN hfd_lt, na, naO]
  by_cases c1 : s (74 + 6 * i + 4) = -1
  · simp [lkB, c1]
  · rw [if_neg c1]
    by_cases c2 : clB g m (like s i n) = true
    · rw [if_pos c2]
      obtain ⟨t, t1, t2, t3⟩ := clB_lt c2
      by_cases c3 : (hfd s (like s i n)).isNone = true
      · have e : lkB s i n g m = true := by simp [lkB, c1, c2, c3]
        rw [if_pos c3, if_pos e, t2, nI_clamp t3, oI_s]
      · have e : ¬ lkB s i n g m = true := by simp [lkB, c3]
        rw [if_neg c3, if_neg e]
    · have e : ¬ lkB s i n g m = true := by simp [lkB, c2]
      rw [if_neg c2, if_neg e]
