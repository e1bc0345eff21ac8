/-! pools -/
theorem isPool_eq {D : Dt} {b N : Nat} (hN : N ≤ 4) (h : D 1 b 1 = nI N) (x : Int32) : f_X5_isPool b x D = some (if 0 ≤ x ∧ x < nI N then 1 else 0) := by
  rw [f_X5_isPool, h]
  by_cases c0 : x < 0
  · rw [if_pos c0, if_neg]
    intro q
    have a1 := Int32.lt_iff_toInt_lt.mp c0
    have a2 := Int32.le_iff_toInt_le.mp q.1
    omega
  · obtain ⟨t, ht, rfl⟩ := nI_of c0
    rw [if_neg c0, if_le (by omega) ht]
    by_cases c1 : N ≤ t
    · rw [if_pos c1, if_neg]
      intro q
      have := (nI_ltI ht (by omega)).mp q.2
      omega
    · rw [if_neg c1, if_neg (g4 (by omega)), if_pos ⟨nI_pos' ht, nI_lt (by omega) (by omega)⟩]
theorem X10_isPool {D : Dt} {N : Nat} (hN : N ≤ 4) (h : D 33 0 5 = nI N) (x : Int32) : f_X10_isPool x D = some (if 0 ≤ x ∧ x < nI N then 1 else 0) := by
  rw [f_X10_isPool, rd_at (i := (5 : Int32)) (j := 5) rfl (by decide) (by decide), h, in_eq, Option.bind_some, isb_ite]
  have e : x ≤ nI N - (1 : Int32) ↔ x < nI N := by
    have h1 := pk_sub_toInt (a := N) (b := 1) (by omega) (by decide)
    rw [Int32.le_iff_toInt_le, Int32.lt_iff_toInt_lt, show (1 : Int32) = nI 1 from rfl, h1, nI_toInt (by omega)]
    omega
  simp only [e]
  rfl
theorem isAligned_eq {a l : Nat} (ha : a < 65536) (hl : l ≤ 16) (D : Dt) : f_X9_isAligned (nI a) (nI l) D = some (if a % zz l = 0 then 1 else 0) := by
  have hz := zz_pos l
  have hz2 := zz_le l
  have e1 : nI (zz l) - (1 : Int32) = nI (zz l - 1) := pk_sub (b := 1) (by omega)
  have e2 : nI a &&& nI (zz l - 1) = nI (a % 2 ^ (16 - l)) := pk_andN (by omega) (16 - l) (pk_tn (by omega))
  rw [f_X9_isAligned, sizeOf_eq hl, Option.bind_some, e1, e2, if_z (by have := Nat.mod_le a (2 ^ (16 - l)); omega)]
  by_cases w : a % zz l = 0
  · rw [if_pos w, if_pos (show a % 2 ^ (16 - l) = 0 from w)]
  · rw [if_neg w, if_neg (show ¬ a % 2 ^ (16 - l) = 0 from w)]
def anyB (p : Nat → Bool) : Nat → Bool
  | 0 => false
  | n + 1 => anyB p n || p n
theorem anyB_iff {p : Nat → Bool} : ∀ n, anyB p n = true ↔ ∃ i, i < n ∧ p i = true := by
  intro n
  induction n with
  | zero => simp [anyB]
  | succ n ih =>
    simp only [anyB, Bool.or_eq_true]
    rw [ih]
    constructor
    · rintro (⟨i, h1, h2⟩ | h)
      · exact ⟨i, by omega, h2⟩
      · exact ⟨n, by omega, h⟩
    · rintro ⟨i, h1, h2⟩
      by_cases w : i = n
      · right; rw [← w]; exact h2
      · left; exact ⟨i, by omega, h2⟩
theorem anyB_mono {p : Nat → Bool} {i n : Nat} (h : i < n) (hp : p i = true) : anyB p n = true := (anyB_iff n).mpr ⟨i, h, hp⟩
def ovl (q : Nat × Nat) (g l : Nat) : Bool := decide (q.1 < g + zz l) && decide (g < q.1 + zz q.2)
theorem meet_eq {pb pl g l : Nat} (h1 : pb < 65536) (h2 : pl ≤ 16) (h3 : g < 65536) (h4 : l ≤ 16) (D : Dt) : f_X9_meet (nI pb) (nI pl) (nI g) (nI l) D = some (b01 (ovl (pb, pl) g l)) := by
  have z1 := zz_pos pl
  have z2 := zz_pos l
  have o1 : OB (nI pb) (nI pl) (some (pb, pl)) := ⟨rfl, rfl, h1, h2⟩
  have o2 : OB (nI g) (nI l) (some (g, l)) := ⟨rfl, rfl, h3, h4⟩
  rw [f_X9_meet, covers_ob o1 (by omega), Option.bind_some, b01_0, covers_ob o2 (by omega), Option.bind_some, b01_0]
  have k1 : cov (some (pb, pl)) g = true ↔ pb ≤ g ∧ g < pb + zz pl := by simp [cov]
  have k2 : cov (some (g, l)) pb = true ↔ g ≤ pb ∧ pb < g + zz l := by simp [cov]
  have k3 : ovl (pb, pl) g l = true ↔ pb < g + zz l ∧ g < pb + zz pl := by simp [ovl]
  by_cases w1 : cov (some (pb, pl)) g = true
  · rw [if_pos w1, k3.mpr (by have := k1.mp w1; omega)]
    rfl
  · rw [if_neg w1]
    by_cases w2 : cov (some (g, l)) pb = true
    · rw [if_pos w2, k3.mpr (by have := k2.mp w2; omega)]
      rfl
    · have e : ovl (pb, pl) g l = false := Bool.eq_false_iff.mpr (fun q => by
        have h5 := k3.mp q
        rw [k1] at w1
        rw [k2] at w2
        omega)
      rw [if_neg w2, e]
      rfl
theorem p_meetsPool {D : Dt} {b N g l : Nat} {po : Nat → Nat × Nat} (hP : PoV D b N po) (hN : N ≤ 4) (hpo : ∀ p, p < N → (po p).1 < 65536 ∧ (po p).2 ≤ 16) (hg : g < 65536) (hl : l ≤ 16) : f_X5_meetsPool b (nI g) (nI l) D = some (b01 (anyB (fun p => ovl (po p) g l) N)) := by
  have key : ∃ e, lp (l_X5_meetsPool_2 b (nI g) (nI l) D) FU (0 : Int32) = some e ∧ e = b01 (anyB (fun p => ovl (po p) g l) N) := by
    apply lp_n (fun i s => s = nI i ∧ anyB (fun p => ovl (po p) g l) i = false) _ N
    · exact ⟨rfl, rfl⟩
    · omega
    · rintro i s hi ⟨rfl, hf⟩
      simp only [l_X5_meetsPool_2, hP.1]
      by_cases w : i = N
      · right
        subst w
        rw [hf]
        by_cases w2 : i = 4
        · rw [w2, if_pos (by decide)]
          exact ⟨_, rfl, rfl⟩
        · rw [if_neg (g4 (by omega)), if_pos (nI_le (Nat.le_refl _) (by omega))]
          exact ⟨_, rfl, rfl⟩
      · have hi2 : i < N := by omega
        rw [if_neg (g4 (by omega)), if_neg (nI_ge hi2 (by omega)), rd_at rfl (show i < 4 by omega) (by decide), rd_at rfl (show i < 4 by omega) (by decide), (hP.2 i hi2).1, (hP.2 i hi2).2, meet_eq (hpo i hi2).1 (hpo i hi2).2 hg hl, Option.bind_some, b01_0]
        by_cases c : ovl ((po i).1, (po i).2) g l = true
        · right
          rw [if_pos c, anyB_mono (p := fun p => ovl (po p) g l) hi2 c]
          exact ⟨_, rfl, rfl⟩
        · left
          rw [if_neg c, nI_1]
          refine ⟨hi2, _, rfl, rfl, ?_⟩
          simp only [anyB, hf, Bool.false_or]
          exact Bool.eq_false_iff.mpr c
  obtain ⟨e, h1, h2⟩ := key
  rw [f_X5_meetsPool, h1, h2]
theorem isb_b01 (c : Bool) : isb (b01 c) = true := by
  cases c <;> rfl
theorem p_touchesPool {D : Dt} {N g l : Nat} {po : Nat → Nat × Nat} (hP : PoR (D 33 0) N po) (hN : N ≤ 4) (hpo : ∀ p, p < N → (po p).1 < 65536 ∧ (po p).2 ≤ 16) (hg : g < 65536) (hl : l ≤ 16) : f_X10_touchesPool (nI g) (nI l) D = some (b01 (anyB (fun p => ovl (po p) g l) N)) := by
  have hz := zz_le l
  have h : lp (l_X10_touchesPool_5 (nI g) (nI l) D) FU ((0 : Int32), (0 : Int32)) = some (b01 (anyB (fun p => ovl (po p) g l) N)) := by
    apply lp_to (fun i => (b01 (anyB (fun p => ovl (po p) g l) i), nI i)) N
    · rfl
    · exact FU_big (by omega)
    · intro i hi
      obtain ⟨b1, b2⟩ := hpo i hi
      have hzi := zz_le (po i).2
      simp only [l_X10_touchesPool_5]
      rw [rd_at (i := (5 : Int32)) (j := 5) rfl (by decide) (by decide), hP.1, if_neg (nI_ge hi (by omega)), show (6 : Int32) = nI 6 from rfl, show (2 : Int32) = nI 2 from rfl, pk_mul, nI_add, rd_at rfl (show 6 + 2 * i < 170 by omega) (by decide), nI_1 (6 + 2 * i), rd_at rfl (show 6 + 2 * i + 1 < 170 by omega) (by decide), (hP.2 i hi).1, (hP.2 i hi).2, b01_0, size_eq hl, Option.bind_some, nI_add, size_eq b2, Option.bind_some, nI_add, if_le (by omega) (by omega), if_le (by omega) (by omega), nI_1]
      simp only [anyB]
      by_cases c : anyB (fun p => ovl (po p) g l) i = true
      · rw [if_pos c, c]; rfl
      · rw [if_neg c, Bool.eq_false_iff.mpr c, Bool.false_or]
        simp only [ovl]
        by_cases w1 : g + zz l ≤ (po i).1
        · rw [if_pos w1, decide_eq_false (show ¬ (po i).1 < g + zz l by omega)]; rfl
        · rw [if_neg w1, decide_eq_true (show (po i).1 < g + zz l by omega)]
          by_cases w2 : (po i).1 + zz (po i).2 ≤ g
          · rw [if_pos w2, decide_eq_false (show ¬ g < (po i).1 + zz (po i).2 by omega)]; rfl
          · rw [if_neg w2, decide_eq_true (show g < (po i).1 + zz (po i).2 by omega)]; rfl
    · simp only [l_X10_touchesPool_5]
      rw [rd_at (i := (5 : Int32)) (j := 5) rfl (by decide) (by decide), hP.1, if_pos (nI_le (Nat.le_refl _) (by omega))]
  rw [f_X10_touchesPool, h, Option.bind_some, isb_b01]
  rfl
/-- a pool more -/
def apM (s : Nat → Int32) (N g l : Nat) : Nat → Int32 := upd (upd (upd s (6 + 2 * N) (nI g)) (6 + 2 * N + 1) (nI l)) 5 (nI (N + 1))
theorem apM_ne {s : Nat → Int32} {N g l j : Nat} (h1 : j ≠ 6 + 2 * N) (h2 : j ≠ 6 + 2 * N + 1) (h3 : j ≠ 5) : apM s N g l j = s j := by
  rw [apM, pk_un h3, pk_un h2, pk_un h1]
theorem p_putPool {D : Dt} {b N g l : Nat} (hN : N < 4) (h : D 1 b 1 = nI N) : f_X5_putPool b (nI g) (nI l) D = some (updD (updD (updD D 2 b N (nI g)) 3 b N (nI l)) 1 b 1 (nI (N + 1))) := by
  rw [f_X5_putPool, h, if_neg (nI_pos (by omega)), if_neg (g4 hN), wr_at rfl hN (by decide)]
  have e1 : updD D 2 b N (nI g) 1 b 1 = nI N := by rw [updD_other _ _ _ (by omega)]; exact h
  rw [e1, wr_at rfl hN (by decide)]
  simp only [pu]
  have e2 : updD (updD D 2 b N (nI g)) 3 b N (nI l) 1 b 1 = nI N := by rw [updD_other _ _ _ (by omega)]; exact e1
  rw [e2, nI_1]
theorem RelP_ap {D : Dt} {b N g l : Nat} {s : Nat → Int32} (hN : N < 4) (h5 : s 5 = nI N) (h : RelP D b s) : RelP (updD (updD (updD D 2 b N (nI g)) 3 b N (nI l)) 1 b 1 (nI (N + 1))) b (apM s N g l) := by
  obtain ⟨h1, h2, h3, h4⟩ := h
  refine ⟨?_, ?_, fun p hp hp2 => ?_, fun n hn => ?_⟩
  · rw [apM_ne (by omega) (by omega) (by omega), updD_at, if_neg (by omega), updD_at, if_neg (by omega), updD_at, if_neg (by omega)]
    exact h1
  · rw [apM, pk_us]
    simp [updD_at]
  · have hp3 : p < N + 1 := by
      rw [apM, pk_us] at hp2
      exact (nI_ltI (by omega) (by omega)).mp hp2
    by_cases w : p = N
    · subst w
      refine ⟨?_, ?_⟩
      · rw [apM, pk_un (by omega), pk_un (by omega), pk_us, updD_at, if_neg (by omega), updD_at, if_neg (by omega), updD_at, if_pos ⟨rfl, rfl, rfl⟩]
      · rw [apM, pk_un (by omega), pk_us, updD_at, if_neg (by omega), updD_at, if_pos ⟨rfl, rfl, rfl⟩]
    · obtain ⟨q1, q2⟩ := h3 p hp (by rw [h5]; exact nI_lt (by omega) (by omega))
      rw [apM_ne (by omega) (by omega) (by omega), apM_ne (by omega) (by omega) (by omega), updD_at, if_neg (by omega), updD_at, if_neg (by omega), updD_at, if_neg (by omega), updD_at, if_neg (by omega), updD_at, if_neg (by omega), updD_at, if_neg (by omega)]
      exact ⟨q1, q2⟩
  · rw [apM_ne (by omega) (by omega) (by omega), apM_ne (by omega) (by omega) (by omega), apM_ne (by omega) (by omega) (by omega), apM_ne (by omega) (by omega) (by omega), apM_ne (by omega) (by omega) (by omega)]
    simp only [updD_at]
    simp
    exact h4 n hn
theorem GeoS_ap {s : Nat → Int32} {N : Nat} {po : Nat → Nat × Nat} {us : Nat → Option (Nat × Nat)} (hV : RV s us) (hP : PoR s N po) (hG : Geo N po us) {g l : Nat} (hN : N < 4) (hl4 : 4 ≤ l) (hl : l ≤ 14) (hg : g + zz l ≤ 65536) (ha : g % zz l = 0) (hno : anyB (fun p => ovl (po p) g l) N = false) : GeoS (apM s N g l) := by
  have hno' : ∀ p, p < N → (po p).1 + zz (po p).2 ≤ g ∨ g + zz l ≤ (po p).1 := by
    intro p hp
    have h1 : ¬ ovl (po p) g l = true := fun q => by
      rw [anyB_mono (p := fun p => ovl (po p) g l) hp q] at hno
      cases hno
    simp only [ovl, Bool.and_eq_true, decide_eq_true_eq] at h1
    omega
  obtain ⟨g1, g2, g3, g4', g5⟩ := hG
  refine ⟨N + 1, fun p => if p = N then (g, l) else po p, us, RV_ext hV (fun j j1 j2 => apM_ne (by omega) (by omega) (by omega)), ⟨by rw [apM, pk_us], fun p hp => ?_⟩, by omega, fun p hp => ?_, fun p q hp hq hpq => ?_, fun k g' l' hk hu => ?_, g5⟩
  · by_cases w : p = N
    · subst w
      simp only [if_true]
      exact ⟨by rw [apM, pk_un (by omega), pk_un (by omega), pk_us], by rw [apM, pk_un (by omega), pk_us]⟩
    · simp only [if_neg w]
      rw [apM_ne (by omega) (by omega) (by omega), apM_ne (by omega) (by omega) (by omega)]
      exact hP.2 p (by omega)
  · by_cases w : p = N
    · simp only [if_pos w]
      exact ⟨hl4, hl, ha, hg⟩
    · simp only [if_neg w]
      exact g2 p (by omega)
  · by_cases w : p = N
    · have w2 : ¬ q = N := by omega
      simp only [if_pos w, if_neg w2]
      have := hno' q (by omega)
      omega
    · by_cases w2 : q = N
      · simp only [if_neg w, if_pos w2]
        have := hno' p (by omega)
        omega
      · simp only [if_neg w, if_neg w2]
        exact g3 p q (by omega) (by omega) hpq
  · obtain ⟨a1, a2, a3, p, b1, b2, b3⟩ := g4' k g' l' hk hu
    refine ⟨a1, a2, a3, p, by omega, ?_⟩
    simp only [if_neg (show ¬ p = N by omega)]
    exact ⟨b2, b3⟩
theorem zz_al {g l : Nat} (hg : g < 65536) (ha : g % zz l = 0) : g + zz l ≤ 65536 := mod_gap ha (by
  have h := zz_dvd (Nat.zero_le l)
  exact Nat.mod_eq_zero_of_dvd h) hg
theorem Geo.pob {N : Nat} {po : Nat → Nat × Nat} {us : Nat → Option (Nat × Nat)} (h : Geo N po us) : ∀ p, p < N → (po p).1 < 65536 ∧ (po p).2 ≤ 16 := fun p hp => by
  have := h.2.1 p hp
  have := zz_pos (po p).2
  omega
theorem ok_addPool : ∀ (x1 x2 : Int32) (D : Dt), Inv D → ∃ (r : Int32) (D1 D2 : Dt), f_X9_addPool x1 x2 D = some (r, D1) ∧ f_X10_addPool x1 x2 D1 = some (r, D2) ∧ Inv D2 := by
  intro x y D h
  simp only [f_X9_addPool, f_X10_addPool, isIn_eq, in_eq, Option.bind_some, if_b]
  by_cases c : (0 : Int32) ≤ x ∧ x ≤ 65535
  · obtain ⟨g, hg, rfl⟩ := ixL 65535 (by decide) c.1 c.2
    simp only [if_pos c]
    by_cases c2 : (4 : Int32) ≤ y ∧ y ≤ 14
    · obtain ⟨l, hl, rfl⟩ := ixL 14 (by decide) (by
        have := Int32.le_iff_toInt_le.mp c2.1
        rw [Int32.le_iff_toInt_le]
        have e0 : (0 : Int32).toInt = 0 := by decide
        have e1 : (4 : Int32).toInt = 4 := by decide
        omega) c2.2
      have hl4 : 4 ≤ l := (nI_leI (a := 4) (by decide) (by omega)).mp c2.1
      simp only [if_pos c2, isAligned_eq (show g < 65536 by omega) (show l ≤ 16 by omega), size_eq (show l ≤ 16 by omega), Option.bind_some, if_b, gd_z, pk_rem (show g < 2 ^ 31 by omega) (zz_pos l) (show zz l < 2 ^ 31 by have := zz_le l; omega), if_z (show g % zz l < 2 ^ 31 by have := Nat.mod_le g (zz l); omega)]
      by_cases c3 : g % zz l = 0
      · simp only [if_pos c3]
        obtain ⟨N, po, us, hV, hP, hGe⟩ := h.1.2.1
        have hN := hGe.1
        have e5 : D 1 0 1 = nI N := h.2.1.2.1.2.1.trans hP.1
        have m1 := p_meetsPool (h.2.1.2.1.pov hP hN) hN hGe.pob (show g < 65536 by omega) (show l ≤ 16 by omega)
        have m2 : ∀ D', D' 33 0 = D 33 0 → f_X10_touchesPool (nI g) (nI l) D' = some (b01 (anyB (fun p => ovl (po p) g l) N)) := fun D' e => p_touchesPool (by rw [e]; exact hP) hN hGe.pob (show g < 65536 by omega) (show l ≤ 16 by omega)
        by_cases c4 : anyB (fun p => ovl (po p) g l) N = true
        · refine ⟨-2, D, D, ?_, ?_, h⟩
          · rw [m1, Option.bind_some, b01_0, if_pos c4]
          · rw [m2 D rfl, Option.bind_some, b01_0, if_pos c4]
        · by_cases c5 : N = 4
          · refine ⟨-3, D, D, ?_, ?_, h⟩
            · rw [m1, Option.bind_some, b01_0, if_neg c4, e5, c5, if_neg (by decide)]
            · rw [m2 D rfl, Option.bind_some, b01_0, if_neg c4, rd_at (i := (5 : Int32)) (j := 5) rfl (by decide) (by decide), hP.1, c5, if_pos (by decide)]
          · obtain ⟨Dk, a1, a2, a3, a4, a5, a6⟩ := cls_keep h
            have e5k : Dk 1 0 1 = nI N := a5.2.1.2.1.trans hP.1
            have hE : Eqx ZC Dk (updD (updD (updD Dk 2 0 N (nI g)) 3 0 N (nI l)) 1 0 1 (nI (N + 1))) := ((Eqx.upd (by simp [ZC])).tr (Eqx.upd (by simp [ZC]))).tr (Eqx.upd (by simp [ZC]))
            have e33 : updD (updD (updD Dk 2 0 N (nI g)) 3 0 N (nI l)) 1 0 1 (nI (N + 1)) 33 0 = D 33 0 := by rw [updD_other _ _ _ (by omega), updD_other _ _ _ (by omega), updD_other _ _ _ (by omega)]; exact a6
            obtain ⟨Dn, b1, b2, b3, b4⟩ := ref_note a2 hE EqR.rf e33
            have i1 : (6 : Int32) + (2 : Int32) * nI N = nI (6 + 2 * N) := by
              rw [show (6 : Int32) = nI 6 from rfl, show (2 : Int32) = nI 2 from rfl, pk_mul, nI_add]
            refine ⟨nI N, updD (updD (updD Dk 2 0 N (nI g)) 3 0 N (nI l)) 1 0 1 (nI (N + 1)), rowD Dn 33 0 (apM (D 33 0) N g l), ?_, ?_, fin_m h a3 a4 hE EqR.rf b3 b2 E33.row ?_ ?_⟩
            · rw [m1, Option.bind_some, b01_0, if_neg c4, e5, if_pos (show nI N < (4 : Int32) from nI_lt (b := 4) (by omega) (by decide)), a1, Option.bind_some, p_putPool (by omega) e5k, Option.bind_some]
              have e6 : updD (updD (updD Dk 2 0 N (nI g)) 3 0 N (nI l)) 1 0 1 (nI (N + 1)) 1 0 1 = nI (N + 1) := by simp [updD_at]
              rw [e6, nI_pred]
            · have n4 : ¬ nI N = (4 : Int32) := fun q => c5 ((nI_eq (b := 4) (by omega) (by decide)).mp q)
              rw [m2 _ e33, Option.bind_some, b01_0, if_neg c4, rd_at (i := (5 : Int32)) (j := 5) rfl (by decide) (by decide), e33, hP.1, if_neg n4, b1, Option.bind_some]
              rw [rd_at (i := (5 : Int32)) (j := 5) rfl (by decide) (by decide), b4, hP.1, i1, wr_at rfl (show 6 + 2 * N < 170 by omega) (by decide), rd_at (i := (5 : Int32)) (j := 5) rfl (by decide) (by decide)]
              have f1 : updD Dn 33 0 (6 + 2 * N) (nI g) 33 0 5 = nI N := by rw [updD_at, if_neg (by omega), b4]; exact hP.1
              rw [f1, i1, nI_1, wr_at rfl (show 6 + 2 * N + 1 < 170 by omega) (by decide), rd_at (i := (5 : Int32)) (j := 5) rfl (by decide) (by decide)]
              have f2 : updD (updD Dn 33 0 (6 + 2 * N) (nI g)) 33 0 (6 + 2 * N + 1) (nI l) 33 0 5 = nI N := by rw [updD_at, if_neg (by omega)]; exact f1
              rw [f2, nI_1, wr_at (i := (5 : Int32)) (j := 5) rfl (by decide) (by decide), rd_at (i := (5 : Int32)) (j := 5) rfl (by decide) (by decide), updD_row Dn 33 0, rowD_upd, rowD_upd, b4, rowD_at, pk_us, nI_pred]
              rfl
            · rw [rowD_at]
              obtain ⟨t1, t2, t3⟩ := h.1
              exact ⟨t1.fx (apM_ne (by omega) (by omega) (by omega)) (apM_ne (by omega) (by omega) (by omega)) (apM_ne (by omega) (by omega) (by omega)) (apM_ne (by omega) (by omega) (by omega)) (fun j j1 j2 => apM_ne (by omega) (by omega) (by omega)), GeoS_ap hV hP hGe (by omega) hl4 hl (zz_al (by omega) c3) c3 (Bool.eq_false_iff.mpr c4), HoS_ext t3 (fun j j1 j2 => apM_ne (by omega) (by omega) (by omega))⟩
            · rw [rowD_at]
              obtain ⟨r1, r2, r3⟩ := a5
              exact ⟨r1.fx (by rw [updD_other _ _ _ (by omega), updD_other _ _ _ (by omega), updD_other _ _ _ (by omega)]) (apM_ne (by omega) (by omega) (by omega)) (apM_ne (by omega) (by omega) (by omega)) (apM_ne (by omega) (by omega) (by omega)) (apM_ne (by omega) (by omega) (by omega)), RelP_ap (by omega) hP.1 r2, r3.fx (fun k k1 k2 => by rw [updD_other _ _ _ (by omega), updD_other _ _ _ (by omega), updD_other _ _ _ (by omega)]) (fun j j1 j2 => apM_ne (by omega) (by omega) (by omega))⟩
      · simp only [if_neg c3]
        exact ⟨-1, D, D, rfl, rfl, h⟩
    · simp only [if_neg c2]
      exact ⟨-1, D, D, rfl, rfl, h⟩
  · simp only [if_neg c]
    exact ⟨-1, D, D, rfl, rfl, h⟩
