/-! loops over the hosts of a network; release -/
def hL (st : (Nat → Int32) → Nat → Nat → Int32) (x : Int32) (s : Nat → Int32) : Nat → Nat → Int32
  | 0 => s
  | k + 1 => if hL st x s k (74 + 6 * k) = x then st (hL st x s k) k else hL st x s k
def Loc (st : (Nat → Int32) → Nat → Nat → Int32) : Prop := ∀ s i j, (j < 74 + 6 * i ∨ 74 + 6 * i + 6 ≤ j) → st s i j = s j
theorem hL_out {st : (Nat → Int32) → Nat → Nat → Int32} {x : Int32} {s : Nat → Int32} (hs : Loc st) : ∀ k j, (j < 74 ∨ 74 + 6 * k ≤ j) → hL st x s k j = s j := by
  intro k
  induction k with
  | zero => intro j _; rfl
  | succ k ih =>
    intro j hj
    simp only [hL]
    by_cases w : hL st x s k (74 + 6 * k) = x
    · rw [if_pos w, hs _ _ _ (by omega)]
      exact ih j (by omega)
    · rw [if_neg w]
      exact ih j (by omega)
theorem hL_s {st : (Nat → Int32) → Nat → Nat → Int32} {x : Int32} {s : Nat → Int32} (hs : Loc st) (k : Nat) : hL st x s (k + 1) = if s (74 + 6 * k) = x then st (hL st x s k) k else hL st x s k := by
  simp only [hL]
  rw [hL_out hs k (74 + 6 * k) (by omega)]
theorem lv_Loc : Loc lvM := fun s i j h => lvM_ne (by omega) (by omega) (by omega)
theorem p_dismissMembers {D : Dt} {b : Nat} {s : Nat → Int32} (x : Int32) (hR : RelS D b s) : ∃ D', f_X2_dismissMembers b x D = some (mofI s x, D') ∧ RelS D' b (hL lvM x s 16) ∧ Eqx (St b) D D' := by
  have key : ∃ e, lp (l_X2_dismissMembers_4 b x) FU ((0 : Int32), (0 : Int32), D) = some e ∧ (e.1 = mofI s x ∧ RelS e.2 b (hL lvM x s 16) ∧ Eqx (St b) D e.2) := by
    apply lp_n (fun i t => t.1 = itN (fun h a => if s (74 + 6 * h) = x then a + 1 else a + 0) i 0 ∧ t.2.1 = nI i ∧ RelS t.2.2 b (hL lvM x s i) ∧ Eqx (St b) D t.2.2) _ 16
    · exact ⟨rfl, rfl, hR, Eqx.rf⟩
    · decide
    · rintro i ⟨c, y, E⟩ hi ⟨h1, h2, h3, h4⟩
      simp only at h1 h2 h3 h4
      subst h2
      simp only [l_X2_dismissMembers_4]
      by_cases w : i = 16
      · right
        subst w
        rw [if_pos (by decide)]
        exact ⟨_, rfl, h1, h3, h4⟩
      · left
        have hi2 : i < 16 := by omega
        refine ⟨hi2, ?_⟩
        have e0 : E 10 b i = s (74 + 6 * i) := by
          rw [(h3.2.2 i hi2).1]
          exact hL_out lv_Loc i _ (by omega)
        rw [if_neg (g16 hi2), rd_at rfl hi2 (by decide), e0, nI_1, h1]
        by_cases c1 : s (74 + 6 * i) = x
        · rw [if_pos c1, p_X2_dismiss _ hi2, Option.bind_some]
          refine ⟨_, rfl, ?_, rfl, ?_, ((h4.tr (Eqx.upd ⟨by decide, rfl⟩)).tr (Eqx.upd ⟨by decide, rfl⟩)).tr (Eqx.upd ⟨by decide, rfl⟩)⟩
          · simp only [itN]
            rw [if_pos c1]
          · rw [hL_s lv_Loc, if_pos c1]
            exact RelS_lv h3
        · rw [if_neg c1]
          refine ⟨_, rfl, ?_, rfl, ?_, h4⟩
          · simp only [itN]
            rw [if_neg c1, Int32.add_zero]
          · rw [hL_s lv_Loc, if_neg c1]
            exact h3
  obtain ⟨⟨c, E⟩, h1, h2, h3, h4⟩ := key
  refine ⟨E, ?_, h3, h4⟩
  rw [f_X2_dismissMembers, h1, Option.bind_some]
  simp only at h2
  rw [h2]
theorem p_rl126 {E : Dt} {s : Nat → Int32} (x : Int32) : lp (l_X10_release_126 x) FU ((0 : Int32), rowD E 33 0 s) = some (rowD E 33 0 (hL lvM x s 16)) := by
  apply lp_to (fun i => (nI i, rowD E 33 0 (hL lvM x s i))) 16
  · rfl
  · exact FU_big (by decide)
  · intro i hi
    simp only [l_X10_release_126]
    rw [if_neg (g16 hi), p_X10_hostAt, Option.bind_some, rd_at rfl (show 74 + 6 * i < 170 by omega) (by decide), rowD_at, hL_out lv_Loc i _ (by omega), hL_s lv_Loc, nI_1]
    by_cases c1 : s (74 + 6 * i) = x
    · rw [if_pos c1, if_pos c1, p_leaves hi, Option.bind_some]
    · rw [if_neg c1, if_neg c1]
  · rfl
def hLN (s : Nat → Int32) (h : Nat) : Nat := (if s (74 + 6 * h + 2) = -1 then 0 else 1) + (if s (74 + 6 * h + 4) = -1 then 0 else 1)
theorem lhI_N (s : Nat → Int32) (h : Nat) : lhI s h = nI (hLN s h) := by
  simp only [lhI, hLN]
  by_cases w : s (74 + 6 * h + 2) = -1
  · rw [if_pos w, if_pos w]
    by_cases w2 : s (74 + 6 * h + 4) = -1
    · rw [if_pos w2, if_pos w2]; rfl
    · rw [if_neg w2, if_neg w2]; rfl
  · rw [if_neg w, if_neg w]
    by_cases w2 : s (74 + 6 * h + 4) = -1
    · rw [if_pos w2, if_pos w2]; rfl
    · rw [if_neg w2, if_neg w2]; rfl
theorem hLN_le (s : Nat → Int32) (h : Nat) : hLN s h ≤ 2 := by
  simp only [hLN]
  by_cases w : s (74 + 6 * h + 2) = -1
  · rw [if_pos w]
    by_cases w2 : s (74 + 6 * h + 4) = -1
    · rw [if_pos w2]; omega
    · rw [if_neg w2]; omega
  · rw [if_neg w]
    by_cases w2 : s (74 + 6 * h + 4) = -1
    · rw [if_pos w2]; omega
    · rw [if_neg w2]; omega
def lsN (s : Nat → Int32) (x : Int32) : Nat → Nat
  | 0 => 0
  | h + 1 => lsN s x h + (if s (74 + 6 * h) = x then hLN s h else 0)
theorem lsN_le (s : Nat → Int32) (x : Int32) : ∀ n, lsN s x n ≤ 2 * n := by
  intro n
  induction n with
  | zero => simp [lsN]
  | succ n ih =>
    simp only [lsN]
    have := hLN_le s n
    by_cases w : s (74 + 6 * n) = x
    · rw [if_pos w]; omega
    · rw [if_neg w]; omega
theorem p_leasesOf {D : Dt} {b : Nat} {s : Nat → Int32} (x : Int32) (hR : RelH D b s) : f_X2_leasesOf b x D = some (nI (lsN s x 16)) := by
  have h : lp (l_X2_leasesOf_4 b x D) FU ((0 : Int32), (0 : Int32)) = some (nI (lsN s x 16)) := by
    apply lp_to (fun i => (nI (lsN s x i), nI i)) 16
    · rfl
    · exact FU_big (by decide)
    · intro i hi
      simp only [l_X2_leasesOf_4, lsN]
      rw [if_neg (g16 hi), rd_at rfl hi (by decide), (hR i hi).1, nI_1]
      by_cases w : s (74 + 6 * i) = x
      · rw [if_pos w, if_pos w, p_leasesHeld hR hi, Option.bind_some, lhI_N, nI_add]
      · rw [if_neg w, if_neg w, show (0 : Int32) = nI 0 from rfl, nI_add]
    · rfl
  rw [f_X2_leasesOf, h, Option.bind_some]
def hel (s : Nat → Int32) (x : Int32) (h : Nat) : Bool := decide (s (74 + 6 * h) = x) && (!decide (s (74 + 6 * h + 2) = -1) || !decide (s (74 + 6 * h + 4) = -1))
theorem lsN_0 (s : Nat → Int32) (x : Int32) : ∀ n, (lsN s x n = 0 ↔ anyB (hel s x) n = false) := by
  intro n
  induction n with
  | zero => simp [lsN, anyB]
  | succ n ih =>
    simp only [lsN, anyB, Bool.or_eq_false_iff]
    rw [← ih]
    have e : (if s (74 + 6 * n) = x then hLN s n else 0) = 0 ↔ hel s x n = false := by
      simp only [hel, hLN]
      by_cases w : s (74 + 6 * n) = x
      · by_cases w1 : s (74 + 6 * n + 2) = -1
        · by_cases w2 : s (74 + 6 * n + 4) = -1
          · simp [w, w1, w2]
          · simp [w, w1, w2]
        · simp [w, w1]
      · simp [w]
    rw [← e]
    omega
theorem p_rl13 {D : Dt} {s : Nat → Int32} (hs : D 33 0 = s) (hH : HoS s) (x : Int32) : lp (l_X10_release_13 x D) FU ((0 : Int32), (0 : Int32)) = some (b01 (anyB (hel s x) 16)) := by
  apply lp_to (fun i => (b01 (anyB (hel s x) i), nI i)) 16
  · rfl
  · exact FU_big (by decide)
  · intro i hi
    simp only [l_X10_release_13, p_X10_hostAt, Option.bind_some, show (2 : Int32) = nI 2 from rfl, show (4 : Int32) = nI 4 from rfl, nI_add, rd_at rfl (show 74 + 6 * i < 170 by omega) (show 170 < 2 ^ 31 by decide), rd_at rfl (show 74 + 6 * i + 2 < 170 by omega) (show 170 < 2 ^ 31 by decide), rd_at rfl (show 74 + 6 * i + 4 < 170 by omega) (show 170 < 2 ^ 31 by decide), hs, nn_ge (hH.nn2 hi), nn_lt (hH.nn4 hi), b01_0, nI_1, anyB]
    rw [if_neg (g16 hi)]
    by_cases c : anyB (hel s x) i = true
    · rw [if_pos c, c]; rfl
    · rw [if_neg c, Bool.eq_false_iff.mpr c, Bool.false_or]
      simp only [hel]
      by_cases w : s (74 + 6 * i) = x
      · by_cases w1 : s (74 + 6 * i + 2) = -1
        · by_cases w2 : s (74 + 6 * i + 4) = -1
          · simp [w, w1, w2, b01]
          · simp [w, w1, w2, b01]
        · simp [w, w1, b01]
      · simp [w, b01]
  · rfl
def rbM (s : Nat → Int32) (n : Nat) : Nat → Int32 := upd (upd s (14 + 5 * n) (-1)) (14 + 5 * n + 2) (-1)
theorem rbM_ne {s : Nat → Int32} {n j : Nat} (h0 : j ≠ 14 + 5 * n) (h2 : j ≠ 14 + 5 * n + 2) : rbM s n j = s j := by
  rw [rbM, pk_un h2, pk_un h0]
theorem RelS_rb {D : Dt} {b n : Nat} {s : Nat → Int32} (h : RelS D b s) (hn : n < 12) : RelS (updD (updD D 4 b n (-1)) 6 b n (-1)) b (rbM s n) := by
  obtain ⟨r1, r2, r3⟩ := h
  refine ⟨r1.fx (by rw [updD_other _ _ _ (by omega), updD_other _ _ _ (by omega)]) (rbM_ne (by omega) (by omega)) (rbM_ne (by omega) (by omega)) (rbM_ne (by omega) (by omega)) (rbM_ne (by omega) (by omega)), ?_, r3.fx (fun k k1 k2 => by rw [updD_other _ _ _ (by omega), updD_other _ _ _ (by omega)]) (fun j j1 j2 => rbM_ne (by omega) (by omega))⟩
  unfold RelP at *
  simp only [updD, upd, rbM]
  refine ⟨by grind, by grind, by grind, fun m hm => ?_⟩
  obtain ⟨h1, h2, h3, h4⟩ := r2.2.2.2 m hm
  grind (splits := 30)
theorem RV_none {s : Nat → Int32} {us : Nat → Option (Nat × Nat)} {K : Nat} (hV : RV s us) (hK : K < 24) : RV (upd s (bix K) (-1)) (usX us K none) := by
  intro k hk
  by_cases w : k = K
  · subst w
    rw [usX_eq, pk_us]
    rfl
  · obtain ⟨w1, w2, w3, w4⟩ := bix_inj hk hK w
    rw [usX_ne w, pk_un w1, pk_un w2]
    exact hV k hk
theorem GeoS_drop {s : Nat → Int32} {K : Nat} (h : GeoS s) (hK : K < 24) : GeoS (upd s (bix K) (-1)) := by
  obtain ⟨N, po, us, h1, h2, h3⟩ := h
  have : 14 ≤ bix K := by simp only [bix]; omega
  exact ⟨N, po, usX us K none, RV_none h1 hK, PoR_ext h2 h3.1 (fun j j1 j2 => pk_un (by omega)), Geo_none h3⟩
theorem nI_inj {a b : Nat} (ha : a < 2 ^ 31) (hb : b < 2 ^ 31) (h : nI a = nI b) : a = b := (nI_eq ha hb).mp h
theorem Good_rel {s : Nat → Int32} {n : Nat} (h : Good s) (hn : n < 12) : Good (hL lvM (nI n) (rbM s n) 16) := by
  obtain ⟨g1, g2, g3⟩ := h
  have hlow : ∀ j, j < 74 → hL lvM (nI n) (rbM s n) 16 j = rbM s n j := fun j hj => hL_out lv_Loc 16 j (by omega)
  have hT : TimS (rbM s n) := by
    refine ⟨?_, fun m hm => ?_⟩
    · rw [rbM_ne (by omega) (by omega), rbM_ne (by omega) (by omega), rbM_ne (by omega) (by omega), rbM_ne (by omega) (by omega)]
      exact g1.1
    · by_cases w : m = n
      · subst w
        intro q
        rw [rbM, pk_us] at q
        exact absurd rfl q
      · rw [rbM_ne (by omega) (by omega), rbM_ne (by omega) (by omega)]
        exact g1.2 m hm
  have hGe : GeoS (rbM s n) := by
    have a1 := GeoS_drop g2 (show 2 * n < 24 by omega)
    rw [bix_e] at a1
    have a2 := GeoS_drop a1 (show 2 * n + 1 < 24 by omega)
    rw [bix_o] at a2
    exact a2
  refine ⟨TimS_ext hT hlow, GeoS_ext hGe (fun j _ hj => hlow j hj), ?_⟩
  have key : ∀ k, k ≤ 16 → ∀ i, i < k → hoC (hL lvM (nI n) (rbM s n) k) i := by
    intro k
    induction k with
    | zero => intro _ i hi; omega
    | succ k ih =>
      intro hk i hi
      rw [hL_s lv_Loc]
      have eb : ∀ j, 14 ≤ j → j < 74 → (if rbM s n (74 + 6 * k) = nI n then lvM (hL lvM (nI n) (rbM s n) k) k else hL lvM (nI n) (rbM s n) k) j = rbM s n j := by
        intro j j1 j2
        by_cases c : rbM s n (74 + 6 * k) = nI n
        · rw [if_pos c, lvM_ne (by omega) (by omega) (by omega)]
          exact hL_out lv_Loc k j (by omega)
        · rw [if_neg c]
          exact hL_out lv_Loc k j (by omega)
      by_cases w : i = k
      · subst w
        by_cases c : rbM s n (74 + 6 * i) = nI n
        · rw [if_pos c]
          exact lvM_C _ _
        · rw [if_neg c]
          have e : ∀ q, q < 6 → hL lvM (nI n) (rbM s n) i (74 + 6 * i + q) = s (74 + 6 * i + q) := by
            intro q hq
            rw [hL_out lv_Loc i _ (by omega), rbM_ne (by omega) (by omega)]
          rw [rbM_ne (by omega) (by omega)] at c
          obtain ⟨k1, k2, k3⟩ := g3 i (by omega)
          have e0 := e 0 (by decide)
          rw [Nat.add_zero] at e0
          unfold hoC
          rw [e0, e 1 (by decide), e 2 (by decide), e 3 (by decide), e 4 (by decide), e 5 (by decide)]
          refine ⟨?_, k2, ?_⟩
          · rcases k1 with v | ⟨m, v1, v2, v3, v4⟩
            · exact Or.inl v
            · refine Or.inr ⟨m, v1, v2, ?_, v4⟩
              have hmn : m ≠ n := fun q => c (by rw [v2, q])
              rw [hL_out lv_Loc i _ (by omega), rbM_ne (by omega) (by omega)]
              exact v3
          · rcases k3 with v | ⟨v0, m, v1, v2, v3⟩
            · exact Or.inl v
            · refine Or.inr ⟨v0, m, v1, v2, ?_⟩
              have hmn : m ≠ n := fun q => c (by rw [v2, q])
              rw [hL_out lv_Loc i _ (by omega), rbM_ne (by omega) (by omega)]
              exact v3
      · have hprev := ih (by omega) i (by omega)
        refine hoC_ext hprev (fun j j1 j2 => ?_) (fun q hq => ?_)
        · rw [eb j j1 j2, hL_out lv_Loc k j (by omega)]
        · by_cases c : rbM s n (74 + 6 * k) = nI n
          · rw [if_pos c, lvM_ne (by omega) (by omega) (by omega)]
          · rw [if_neg c]
  exact fun i hi => key 16 (Nat.le_refl _) i hi
theorem ok_release : ∀ (x1 : Int32) (D : Dt), Inv D → ∃ (r : Int32) (D1 D2 : Dt), f_X9_release x1 D = some (r, D1) ∧ f_X10_release x1 D1 = some (r, D2) ∧ Inv D2 := by
  intro x D h
  simp only [f_X9_release, f_X10_release, isNetwork_eq, X10_isNet, Option.bind_some, if_b]
  by_cases c : (0 : Int32) ≤ x ∧ x < 12
  · obtain ⟨n, hn, rfl⟩ := ixN 12 (by decide) c.1 c.2
    simp only [if_pos c]
    have hls := lsN_le (D 33 0) (nI n) 16
    by_cases c3 : D 33 0 (14 + 5 * n) = -1
    · refine ⟨-2, D, D, ?_, ?_, h⟩
      · rw [hasBlock_s h.2.1.2.1 hn, Option.bind_some, if_b', if_pos c3]
      · rw [p_rl13 rfl h.1.2.2, Option.bind_some, X10_hasBlock rfl h.1.2.1 hn, Option.bind_some, if_b', if_pos c3]
    · by_cases c4 : anyB (hel (D 33 0) (nI n)) 16 = true
      · have n0 : ¬ lsN (D 33 0) (nI n) 16 = 0 := fun q => by
          rw [(lsN_0 _ _ 16).mp q] at c4
          cases c4
        refine ⟨-2, D, D, ?_, ?_, h⟩
        · rw [hasBlock_s h.2.1.2.1 hn, Option.bind_some, if_b', if_neg c3, p_leasesOf _ h.2.1.2.2, Option.bind_some, if_le0 (by omega), if_neg n0]
        · rw [p_rl13 rfl h.1.2.2, Option.bind_some, X10_hasBlock rfl h.1.2.1 hn, Option.bind_some, if_b', if_neg c3, b01_0, if_pos c4]
      · have n0 : lsN (D 33 0) (nI n) 16 = 0 := (lsN_0 _ _ 16).mpr (Bool.eq_false_iff.mpr c4)
        obtain ⟨Dk, a1, a2, a3, a4, a5, a6⟩ := cls_keep h
        have hRb := RelS_rb a5 hn
        obtain ⟨D3, d1, d2, d3⟩ := p_dismissMembers (nI n) hRb
        have hE : Eqx ZC Dk D3 := ((Eqx.upd (by simp [ZC])).tr (Eqx.upd (by simp [ZC]))).tr (d3.mono (fun k b w => by
          have := w.1
          have := w.2
          simp only [ZC]
          omega))
        have e33 : D3 33 0 = D 33 0 := (hE 33 0 (by simp [ZC])).trans a6
        obtain ⟨Dn, b1, b2, b3, b4⟩ := ref_note a2 hE EqR.rf e33
        have em : mofI (rbM (D 33 0) n) (nI n) = mofI (D 33 0) (nI n) := itN_congr _ _ (fun i y hi => by rw [rbM_ne (by omega) (by omega)])
        refine ⟨mofI (D 33 0) (nI n), D3, rowD Dn 33 0 (hL lvM (nI n) (rbM (D 33 0) n) 16), ?_, ?_, fin_m h a3 a4 hE EqR.rf b3 b2 E33.row ?_ ?_⟩
        · rw [hasBlock_s h.2.1.2.1 hn, Option.bind_some, if_b', if_neg c3, p_leasesOf _ h.2.1.2.2, Option.bind_some, if_le0 (by omega), if_pos n0, a1, Option.bind_some, f_X5_dropCurrent, wr_at rfl hn (by decide), Option.bind_some, f_X5_dropOld, wr_at rfl hn (by decide), Option.bind_some, d1, Option.bind_some, em]
        · rw [p_rl13 e33 h.1.2.2, Option.bind_some, X10_hasBlock e33 h.1.2.1 hn, Option.bind_some, if_b', if_neg c3, b01_0, if_neg c4, b1, Option.bind_some, p_hostsOf b4, Option.bind_some, p_X10_net, Option.bind_some, wr_at rfl (show 14 + 5 * n < 170 by omega) (by decide), p_X10_net, Option.bind_some, show (2 : Int32) = nI 2 from rfl, nI_add, wr_at rfl (show 14 + 5 * n + 2 < 170 by omega) (by decide), updD_row Dn 33 0, rowD_upd, b4]
          show (lp (l_X10_release_126 (nI n)) FU ((0 : Int32), rowD Dn 33 0 (rbM (D 33 0) n))).bind _ = _
          rw [p_rl126, Option.bind_some]
        · rw [rowD_at]
          exact Good_rel h.1 hn
        · rw [rowD_at]
          exact d2
  · simp only [if_neg c]
    exact ⟨-1, D, D, rfl, rfl, h⟩
