/-! pass -/
def de1 (T : Int32) (s : Nat → Int32) (j : Nat) : Nat → Int32 := if s j ≠ -1 ∧ s (j + 1) ≤ T then upd s j (-1) else s
def dc1 (T : Int32) (s : Nat → Int32) (j : Nat) (a : Int32) : Int32 := if s j ≠ -1 ∧ s (j + 1) ≤ T then a + 1 else a
def deS (T : Int32) (s : Nat → Int32) : Nat → Nat → Int32
  | 0 => s
  | i + 1 => de1 T (de1 T (deS T s i) (74 + 6 * i + 2)) (74 + 6 * i + 4)
def deC (T : Int32) (s : Nat → Int32) : Nat → Int32
  | 0 => 0
  | i + 1 => dc1 T (de1 T (deS T s i) (74 + 6 * i + 2)) (74 + 6 * i + 4) (dc1 T (deS T s i) (74 + 6 * i + 2) (deC T s i))
theorem de1_ne {T : Int32} {s : Nat → Int32} {i j : Nat} (h : j ≠ i) : de1 T s i j = s j := by
  rw [de1]
  by_cases c : s i ≠ -1 ∧ s (i + 1) ≤ T
  · rw [if_pos c, pk_un h]
  · rw [if_neg c]
theorem deS_out {T : Int32} {s : Nat → Int32} : ∀ i j, (j < 74 ∨ 74 + 6 * i ≤ j) → deS T s i j = s j := by
  intro i
  induction i with
  | zero => intro j _; rfl
  | succ i ih =>
    intro j hj
    simp only [deS]
    rw [de1_ne (by omega), de1_ne (by omega)]
    exact ih j (by omega)
theorem not_lt_le {a b : Int32} : ¬ a < b ↔ b ≤ a := by
  rw [Int32.lt_iff_toInt_lt, Int32.le_iff_toInt_le]
  omega
theorem RelS_d12 {D : Dt} {b i : Nat} {s : Nat → Int32} (h : RelS D b s) (hi : i < 16) : RelS (updD D 12 b i (-1)) b (upd s (74 + 6 * i + 2) (-1)) := by
  obtain ⟨r1, r2, r3⟩ := h
  refine ⟨r1.fx (updD_other _ _ _ (by omega)) (pk_un (by omega)) (pk_un (by omega)) (pk_un (by omega)) (pk_un (by omega)), r2.fx (fun k k1 k2 => updD_other _ _ _ (by omega)) (fun j j1 j2 _ => pk_un (by omega)), ?_⟩
  intro m hm
  obtain ⟨w0, w2, w4, w1, w3, w5⟩ := r3 m hm
  simp only [updD, upd]
  grind (splits := 20)
theorem p_dropEnded {D : Dt} {b : Nat} {s : Nat → Int32} (T : Int32) (hR : RelS D b s) : ∃ D', f_X2_dropEnded b T D = some (deC T s 16, D') ∧ RelS D' b (deS T s 16) ∧ Eqx (St b) D D' := by
  have key : ∃ e, lp (l_X2_dropEnded_4 b T) FU ((0 : Int32), (0 : Int32), D) = some e ∧ (e.1 = deC T s 16 ∧ RelS e.2 b (deS T s 16) ∧ Eqx (St b) D e.2) := by
    apply lp_n (fun i t => t.1 = deC T s i ∧ t.2.1 = nI i ∧ RelS t.2.2 b (deS T s i) ∧ Eqx (St b) D t.2.2) _ 16
    · exact ⟨rfl, rfl, hR, Eqx.rf⟩
    · decide
    · rintro i ⟨c, y, E⟩ hi ⟨h1, h2, h3, h4⟩
      simp only at h1 h2 h3 h4
      subst h2
      simp only [l_X2_dropEnded_4]
      by_cases w : i = 16
      · right
        subst w
        rw [if_pos (by decide)]
        exact ⟨_, rfl, h1, h3, h4⟩
      · left
        have hi2 : i < 16 := by omega
        refine ⟨hi2, ?_⟩
        have hj : ∀ (c' : Int32) (E' : Dt) (u : Nat → Int32), RelS E' b u → Eqx (St b) D E' → ∃ t, j_X2_dropEnded_40_t3 b T (c, nI i, E) (c', E') = some (Sum.inl t) ∧ t.1 = dc1 T u (74 + 6 * i + 4) c' ∧ t.2.1 = nI (i + 1) ∧ RelS t.2.2 b (de1 T u (74 + 6 * i + 4)) ∧ Eqx (St b) D t.2.2 := by
          intro c' E' u hu hE'
          obtain ⟨w0, w2, w4, w1, w3, w5⟩ := hu.2.2 i hi2
          simp only [j_X2_dropEnded_40_t3, dc1, de1]
          rw [rd_at rfl hi2 (by decide), rd_at rfl hi2 (by decide), w4, nI_1, wr_at rfl hi2 (by decide)]
          by_cases c1 : u (74 + 6 * i + 4) = -1
          · rw [if_pos c1, if_neg (fun q => q.1 c1), if_neg (fun q => q.1 c1)]
            exact ⟨_, rfl, rfl, rfl, hu, hE'⟩
          · rw [if_neg c1, w5 c1]
            by_cases c2 : T < u (74 + 6 * i + 5)
            · have n : ¬ (u (74 + 6 * i + 4) ≠ -1 ∧ u (74 + 6 * i + 4 + 1) ≤ T) := fun q => not_lt_le.mpr q.2 c2
              rw [if_pos c2, if_neg n, if_neg n]
              exact ⟨_, rfl, rfl, rfl, hu, hE'⟩
            · have n : u (74 + 6 * i + 4) ≠ -1 ∧ u (74 + 6 * i + 4 + 1) ≤ T := ⟨c1, not_lt_le.mp c2⟩
              rw [if_neg c2, if_pos n, if_pos n]
              exact ⟨_, rfl, rfl, rfl, RelS_gS hu hi2, hE'.tr (Eqx.upd ⟨by decide, rfl⟩)⟩
        obtain ⟨w0, w2, w4, w1, w3, w5⟩ := h3.2.2 i hi2
        rw [if_neg (g16 hi2), rd_at rfl hi2 (by decide), rd_at rfl hi2 (by decide), w2, wr_at rfl hi2 (by decide)]
        simp only [deC, deS]
        rw [← h1]
        by_cases c1 : deS T s i (74 + 6 * i + 2) = -1
        · rw [if_pos c1]
          have e1 : de1 T (deS T s i) (74 + 6 * i + 2) = deS T s i := if_neg (fun q => q.1 c1)
          have e2 : dc1 T (deS T s i) (74 + 6 * i + 2) c = c := if_neg (fun q => q.1 c1)
          rw [e1, e2]
          exact hj c E _ h3 h4
        · rw [if_neg c1, w3 c1]
          by_cases c2 : T < deS T s i (74 + 6 * i + 3)
          · have n : ¬ (deS T s i (74 + 6 * i + 2) ≠ -1 ∧ deS T s i (74 + 6 * i + 2 + 1) ≤ T) := fun q => not_lt_le.mpr q.2 c2
            have e1 : de1 T (deS T s i) (74 + 6 * i + 2) = deS T s i := if_neg n
            have e2 : dc1 T (deS T s i) (74 + 6 * i + 2) c = c := if_neg n
            rw [if_pos c2, e1, e2]
            exact hj c E _ h3 h4
          · have n : deS T s i (74 + 6 * i + 2) ≠ -1 ∧ deS T s i (74 + 6 * i + 2 + 1) ≤ T := ⟨c1, not_lt_le.mp c2⟩
            have e1 : de1 T (deS T s i) (74 + 6 * i + 2) = upd (deS T s i) (74 + 6 * i + 2) (-1) := if_pos n
            have e2 : dc1 T (deS T s i) (74 + 6 * i + 2) c = c + 1 := if_pos n
            rw [if_neg c2, e1, e2]
            exact hj (c + 1) _ _ (RelS_d12 h3 hi2) (h4.tr (Eqx.upd ⟨by decide, rfl⟩))
  obtain ⟨⟨c, E⟩, h1, h2, h3, h4⟩ := key
  refine ⟨E, ?_, h3, h4⟩
  rw [f_X2_dropEnded, h1, Option.bind_some]
  simp only at h2
  rw [h2]
theorem p_ps62 {E : Dt} {u : Nat → Int32} {i : Nat} (hi : i < 16) (c c0 : Int32) (E0 : Dt) (h2 : nn (u (74 + 6 * i + 2))) (h4 : nn (u (74 + 6 * i + 4))) : lp (l_X10_pass_62 (c0, nI i, E0)) FU (c, nI (74 + 6 * i + 2), rowD E 33 0 u) = some (dc1 (u 0) (de1 (u 0) u (74 + 6 * i + 2)) (74 + 6 * i + 4) (dc1 (u 0) u (74 + 6 * i + 2) c), rowD E 33 0 (de1 (u 0) (de1 (u 0) u (74 + 6 * i + 2)) (74 + 6 * i + 4))) := by
  have st : ∀ L (v : Nat → Int32) (a : Int32), nn (v L) → L ≤ 74 + 6 * i + 4 → 74 ≤ L → l_X10_pass_62 (c0, nI i, E0) (a, nI L, rowD E 33 0 v) = some (Sum.inl (dc1 (v 0) v L a, nI (L + 2), rowD E 33 0 (de1 (v 0) v L))) := by
    intro L v a hv hL hL2
    simp only [l_X10_pass_62, p_X10_hostAt, Option.bind_some, show (4 : Int32) = nI 4 from rfl, show (2 : Int32) = nI 2 from rfl, nI_add, nI_1, rd_at rfl (show L < 170 by omega) (show 170 < 2 ^ 31 by decide), rd_at rfl (show L + 1 < 170 by omega) (show 170 < 2 ^ 31 by decide), rd_at (i := (0 : Int32)) (j := 0) rfl (show 0 < 170 by decide) (show 170 < 2 ^ 31 by decide), wr_at rfl (show L < 170 by omega) (show 170 < 2 ^ 31 by decide), rowD_at, rowD_upd, nn_lt hv, dc1, de1]
    rw [if_neg (nI_nlt hL (by omega))]
    by_cases c1 : v L = -1
    · rw [if_pos c1, if_neg (fun q => q.1 c1), if_neg (fun q => q.1 c1)]
    · rw [if_neg c1]
      by_cases c2 : v 0 < v (L + 1)
      · have n : ¬ (v L ≠ -1 ∧ v (L + 1) ≤ v 0) := fun q => not_lt_le.mpr q.2 c2
        rw [if_pos c2, if_neg n, if_neg n]
      · have n : v L ≠ -1 ∧ v (L + 1) ≤ v 0 := ⟨c1, not_lt_le.mp c2⟩
        rw [if_neg c2, if_pos n, if_pos n]
  have e0 : de1 (u 0) u (74 + 6 * i + 2) 0 = u 0 := de1_ne (by omega)
  have e4 : de1 (u 0) u (74 + 6 * i + 2) (74 + 6 * i + 4) = u (74 + 6 * i + 4) := de1_ne (by omega)
  apply lp_to (fun k => if k = 0 then (c, nI (74 + 6 * i + 2), rowD E 33 0 u) else if k = 1 then (dc1 (u 0) u (74 + 6 * i + 2) c, nI (74 + 6 * i + 4), rowD E 33 0 (de1 (u 0) u (74 + 6 * i + 2))) else (dc1 (u 0) (de1 (u 0) u (74 + 6 * i + 2)) (74 + 6 * i + 4) (dc1 (u 0) u (74 + 6 * i + 2) c), nI (74 + 6 * i + 6), rowD E 33 0 (de1 (u 0) (de1 (u 0) u (74 + 6 * i + 2)) (74 + 6 * i + 4)))) 2
  · rfl
  · exact FU_big (by decide)
  · intro k hk
    rcases (show k = 0 ∨ k = 1 by omega) with rfl | rfl
    · exact st (74 + 6 * i + 2) u c h2 (by omega) (by omega)
    · have := st (74 + 6 * i + 4) (de1 (u 0) u (74 + 6 * i + 2)) (dc1 (u 0) u (74 + 6 * i + 2) c) (by rw [e4]; exact h4) (by omega) (by omega)
      rw [e0] at this
      exact this
  · show l_X10_pass_62 (c0, nI i, E0) (dc1 (u 0) (de1 (u 0) u (74 + 6 * i + 2)) (74 + 6 * i + 4) (dc1 (u 0) u (74 + 6 * i + 2) c), nI (74 + 6 * i + 6), rowD E 33 0 (de1 (u 0) (de1 (u 0) u (74 + 6 * i + 2)) (74 + 6 * i + 4))) = _
    simp only [l_X10_pass_62]
    rw [p_X10_hostAt, Option.bind_some, show (4 : Int32) = nI 4 from rfl, nI_add, if_pos (nI_lt (by omega) (by omega))]
theorem p_ps48 {E : Dt} {s : Nat → Int32} (hH : HoS s) : lp l_X10_pass_48 FU ((0 : Int32), (0 : Int32), rowD E 33 0 s) = some (deC (s 0) s 16, rowD E 33 0 (deS (s 0) s 16)) := by
  apply lp_to (fun i => (deC (s 0) s i, nI i, rowD E 33 0 (deS (s 0) s i))) 16
  · rfl
  · exact FU_big (by decide)
  · intro i hi
    have e0 : deS (s 0) s i 0 = s 0 := deS_out i 0 (by omega)
    have hp := p_ps62 (E := E) (u := deS (s 0) s i) hi (deC (s 0) s i) (deC (s 0) s i) (rowD E 33 0 (deS (s 0) s i)) (by rw [deS_out i _ (by omega)]; exact hH.nn2 hi) (by rw [deS_out i _ (by omega)]; exact hH.nn4 hi)
    rw [e0] at hp
    simp only [l_X10_pass_48]
    rw [if_neg (g16 hi), p_X10_hostAt, Option.bind_some, show (2 : Int32) = nI 2 from rfl, nI_add, hp, Option.bind_some, nI_1]
    rfl
  · simp only [l_X10_pass_48]
    rw [if_pos (show (16 : Int32) ≤ nI 16 by decide)]
theorem Good_de {s : Nat → Int32} {T : Int32} {i : Nat} (h : Good s) (hi : i < 16) : Good (de1 T s (74 + 6 * i + 2)) ∧ Good (de1 T s (74 + 6 * i + 4)) := by
  obtain ⟨g1, g2, g3⟩ := h
  obtain ⟨k1, k2, k3⟩ := g3 i hi
  constructor
  · rw [de1]
    by_cases c : s (74 + 6 * i + 2) ≠ -1 ∧ s (74 + 6 * i + 2 + 1) ≤ T
    · rw [if_pos c]
      refine ⟨TimS_ext g1 (fun j hj => pk_un (by omega)), GeoS_ext g2 (fun j j1 j2 => pk_un (by omega)), HoS_upd (k := i) g3 (fun j j1 j2 => pk_un (by omega)) (fun m p m1 m2 m3 => pk_un (by omega)) ⟨?_, Or.inl pk_us, ?_⟩⟩
      · rw [pk_un (by omega), pk_un (by omega)]
        rcases k1 with v | ⟨m, v1, v2, v3, v4⟩
        · exact Or.inl v
        · exact Or.inr ⟨m, v1, v2, by rw [pk_un (by omega)]; exact v3, v4⟩
      · rw [pk_un (by omega), pk_un (by omega), pk_un (by omega)]
        rcases k3 with v | ⟨v0, m, v1, v2, v3⟩
        · exact Or.inl v
        · exact Or.inr ⟨v0, m, v1, v2, by rw [pk_un (by omega)]; exact v3⟩
    · rw [if_neg c]
      exact ⟨g1, g2, g3⟩
  · rw [de1]
    by_cases c : s (74 + 6 * i + 4) ≠ -1 ∧ s (74 + 6 * i + 4 + 1) ≤ T
    · rw [if_pos c]
      refine ⟨TimS_ext g1 (fun j hj => pk_un (by omega)), GeoS_ext g2 (fun j j1 j2 => pk_un (by omega)), HoS_upd (k := i) g3 (fun j j1 j2 => pk_un (by omega)) (fun m p m1 m2 m3 => pk_un (by omega)) ⟨?_, ?_, Or.inl pk_us⟩⟩
      · rw [pk_un (by omega), pk_un (by omega)]
        rcases k1 with v | ⟨m, v1, v2, v3, v4⟩
        · exact Or.inl v
        · exact Or.inr ⟨m, v1, v2, by rw [pk_un (by omega)]; exact v3, v4⟩
      · rw [pk_un (by omega), pk_un (by omega)]
        exact k2
    · rw [if_neg c]
      exact ⟨g1, g2, g3⟩
theorem Good_deS {s : Nat → Int32} {T : Int32} (h : Good s) : ∀ i, i ≤ 16 → Good (deS T s i) := by
  intro i
  induction i with
  | zero => intro _; exact h
  | succ i ih =>
    intro hi
    exact (Good_de (Good_de (ih (by omega)) (by omega)).1 (by omega)).2
def pvS (T : Int32) (s : Nat → Int32) : Nat → Nat → Int32
  | 0 => s
  | n + 1 => if pvS T s n (14 + 5 * n + 2) ≠ -1 ∧ pvS T s n (14 + 5 * n + 4) ≤ T then guM (pvS T s n) n else pvS T s n
def pvC (T : Int32) (s : Nat → Int32) (c : Int32) : Nat → Int32
  | 0 => c
  | n + 1 => if pvS T s n (14 + 5 * n + 2) ≠ -1 ∧ pvS T s n (14 + 5 * n + 4) ≤ T then pvC T s c n + guC (pvS T s n) (nI n) 16 else pvC T s c n
theorem Good_pv {s : Nat → Int32} {T : Int32} (h : Good s) : ∀ n, n ≤ 12 → Good (pvS T s n) ∧ pvS T s n 0 = s 0 := by
  intro n
  induction n with
  | zero => intro _; exact ⟨h, rfl⟩
  | succ n ih =>
    intro hn
    obtain ⟨i1, i2⟩ := ih (by omega)
    simp only [pvS]
    by_cases c : pvS T s n (14 + 5 * n + 2) ≠ -1 ∧ pvS T s n (14 + 5 * n + 4) ≤ T
    · rw [if_pos c]
      exact ⟨Good_gu i1 (by omega), by rw [guM_lo (by omega) (by omega) (by omega)]; exact i2⟩
    · rw [if_neg c]
      exact ⟨i1, i2⟩
theorem p_ad24 {D : Dt} {b : Nat} {s : Nat → Int32} (c0 : Int32) (hR : RelS D b s) (hG : Good s) : ∃ e, lp (l_X6_advance_24 b) FU (c0, (0 : Int32), D) = some e ∧ (e.1 = pvC (s 0) s c0 12 ∧ RelS e.2 b (pvS (s 0) s 12) ∧ Eqx (St b) D e.2) := by
  apply lp_n (fun i t => t.1 = pvC (s 0) s c0 i ∧ t.2.1 = nI i ∧ RelS t.2.2 b (pvS (s 0) s i) ∧ Eqx (St b) D t.2.2) _ 12
  · exact ⟨rfl, rfl, hR, Eqx.rf⟩
  · decide
  · rintro i ⟨c, y, E⟩ hi ⟨h1, h2, h3, h4⟩
    simp only at h1 h2 h3 h4
    subst h2
    simp only [l_X6_advance_24]
    by_cases w : i = 12
    · right
      subst w
      rw [if_pos (by decide)]
      exact ⟨_, rfl, h1, h3, h4⟩
    · left
      have hi2 : i < 12 := by omega
      refine ⟨hi2, ?_⟩
      obtain ⟨q1, q2⟩ := Good_pv (T := s 0) hG i hi
      obtain ⟨w0, w2, w1, w3⟩ := h3.2.1.2.2.2 i hi2
      rw [if_neg (g12 hi2), hasOld_s h3.2.1 hi2, Option.bind_some, if_b', rd_at rfl hi2 (by decide), h3.1.1, q2, nI_1]
      simp only [pvC, pvS]
      by_cases c1 : pvS (s 0) s i (14 + 5 * i + 2) = -1
      · rw [if_pos c1, if_neg (fun q => q.1 c1), if_neg (fun q => q.1 c1)]
        exact ⟨_, rfl, h1, rfl, h3, h4⟩
      · rw [if_neg c1, (w3 c1).2]
        by_cases c2 : s 0 < pvS (s 0) s i (14 + 5 * i + 4)
        · have n : ¬ (pvS (s 0) s i (14 + 5 * i + 2) ≠ -1 ∧ pvS (s 0) s i (14 + 5 * i + 4) ≤ s 0) := fun q => not_lt_le.mpr q.2 c2
          rw [if_pos c2, if_neg n, if_neg n]
          exact ⟨_, rfl, h1, rfl, h3, h4⟩
        · have n : pvS (s 0) s i (14 + 5 * i + 2) ≠ -1 ∧ pvS (s 0) s i (14 + 5 * i + 4) ≤ s 0 := ⟨c1, not_lt_le.mp c2⟩
          obtain ⟨D', d1, d2, d3⟩ := p_giveUpOld h3 hi2
          rw [if_neg c2, if_pos n, if_pos n, d1, Option.bind_some, h1]
          exact ⟨_, rfl, rfl, rfl, d2, h4.tr d3⟩
theorem p_ps126 {E : Dt} {s : Nat → Int32} (c0 : Int32) (hG : Good s) : lp l_X10_pass_126 FU (c0, (0 : Int32), rowD E 33 0 s) = some (pvC (s 0) s c0 12, rowD E 33 0 (pvS (s 0) s 12)) := by
  apply lp_to (fun i => (pvC (s 0) s c0 i, nI i, rowD E 33 0 (pvS (s 0) s i))) 12
  · rfl
  · exact FU_big (by decide)
  · intro i hi
    obtain ⟨q1, q2⟩ := Good_pv (T := s 0) hG i (by omega)
    simp only [l_X10_pass_126]
    rw [if_neg (g12 hi), X10_hasOld (rowD_at _ _ _ _) q1.2.1 hi, Option.bind_some, if_b', p_X10_net, Option.bind_some, show (4 : Int32) = nI 4 from rfl, nI_add, rd_at rfl (show 14 + 5 * i + 4 < 170 by omega) (by decide), rd_at (i := (0 : Int32)) (j := 0) rfl (by decide) (by decide), rowD_at, q2, nI_1, Int32.add_zero]
    simp only [pvC, pvS]
    by_cases c1 : pvS (s 0) s i (14 + 5 * i + 2) = -1
    · rw [if_pos c1, if_neg (fun q => q.1 c1), if_neg (fun q => q.1 c1)]
    · rw [if_neg c1]
      by_cases c2 : s 0 < pvS (s 0) s i (14 + 5 * i + 4)
      · have n : ¬ (pvS (s 0) s i (14 + 5 * i + 2) ≠ -1 ∧ pvS (s 0) s i (14 + 5 * i + 4) ≤ s 0) := fun q => not_lt_le.mpr q.2 c2
        rw [if_pos c2, if_neg n, if_neg n]
      · have n : pvS (s 0) s i (14 + 5 * i + 2) ≠ -1 ∧ pvS (s 0) s i (14 + 5 * i + 4) ≤ s 0 := ⟨c1, not_lt_le.mp c2⟩
        rw [if_neg c2, if_pos n, if_pos n, p_givesUp hi (fun k hk => q1.2.2.nn4 hk), Option.bind_some]
  · simp only [l_X10_pass_126]
    rw [if_pos (show (12 : Int32) ≤ nI 12 by decide)]
theorem ok_pass : ∀ (x1 : Int32) (D : Dt), Inv D → ∃ (r : Int32) (D1 D2 : Dt), f_X9_pass x1 D = some (r, D1) ∧ f_X10_pass x1 D1 = some (r, D2) ∧ Inv D2 := by
  intro x D h
  simp only [f_X9_pass, f_X10_pass, isIn_eq, in_eq, Option.bind_some, if_b]
  by_cases c : (1 : Int32) ≤ x ∧ x ≤ 1000
  · obtain ⟨d, hd, rfl⟩ := ixL 1000 (by decide) (by
      have := Int32.le_iff_toInt_le.mp c.1
      rw [Int32.le_iff_toInt_le]
      have e0 : (0 : Int32).toInt = 0 := by decide
      have e1 : (1 : Int32).toInt = 1 := by decide
      omega) c.2
    simp only [if_pos c]
    obtain ⟨T, L, O, P, t1, t2, t3, t4, t5, t6, t7, t8⟩ := h.1.1.1
    by_cases c2 : D 33 0 0 + nI d ≤ 9999
    · have hTd : T + d ≤ 9999 := by
        rw [t1, nI_add] at c2
        exact (nI_leI (b := 9999) (by omega) (by decide)).mp c2
      obtain ⟨Dk, a1, a2, a3, a4, a5, a6⟩ := cls_keep h
      have hG1 : Good (upd (D 33 0) 0 (D 33 0 0 + nI d)) := by
        obtain ⟨g1, g2, g3⟩ := h.1
        refine ⟨⟨⟨T + d, L, O, P, ?_, hTd, ?_, t4, ?_, t6, ?_, t8⟩, fun n hn => ?_⟩, GeoS_ext g2 (fun j j1 j2 => pk_un (by omega)), HoS_ext g3 (fun j j1 j2 => pk_un (by omega))⟩
        · rw [pk_us, t1, nI_add]
        · rw [pk_un (by decide)]; exact t3
        · rw [pk_un (by decide)]; exact t5
        · rw [pk_un (by decide)]; exact t7
        · rw [pk_un (by omega), pk_un (by omega)]
          exact g1.2 n hn
      have hR1 : RelS (updD Dk 0 0 2 (D 33 0 0 + nI d)) 0 (upd (D 33 0) 0 (D 33 0 0 + nI d)) := by
        obtain ⟨r1, r2, r3⟩ := a5
        refine ⟨?_, r2.fx (fun k k1 k2 => updD_other _ _ _ (by omega)) (fun j j1 j2 _ => pk_un (by omega)), r3.fx (fun k k1 k2 => updD_other _ _ _ (by omega)) (fun j j1 j2 => pk_un (by omega))⟩
        unfold RelT at *
        simp only [updD, upd]
        grind
      obtain ⟨D2, b1, b2, b3⟩ := p_dropEnded (upd (D 33 0) 0 (D 33 0 0 + nI d) 0) hR1
      have hG2 := Good_deS (T := upd (D 33 0) 0 (D 33 0 0 + nI d) 0) hG1 16 (Nat.le_refl _)
      obtain ⟨⟨cc, D3⟩, e1, e2, e3, e4⟩ := p_ad24 (deC (upd (D 33 0) 0 (D 33 0 0 + nI d) 0) (upd (D 33 0) 0 (D 33 0 0 + nI d)) 16) b2 hG2
      simp only at e2 e3 e4
      have hE : Eqx ZC Dk D3 := ((Eqx.upd (by simp [ZC])).tr (b3.mono (St_ZC (Or.inl rfl)))).tr (e4.mono (St_ZC (Or.inl rfl)))
      have e33 : D3 33 0 = D 33 0 := (hE 33 0 (by simp [ZC])).trans a6
      obtain ⟨Dn, n1, n2, n3, n4⟩ := ref_note a2 hE EqR.rf e33
      have e00 : updD Dk 0 0 2 (D 33 0 0 + nI d) 0 0 2 = upd (D 33 0) 0 (D 33 0 0 + nI d) 0 := by
        rw [pk_us]
        simp [updD_at]
      refine ⟨cc, D3, rowD Dn 33 0 (pvS (deS (upd (D 33 0) 0 (D 33 0 0 + nI d) 0) (upd (D 33 0) 0 (D 33 0 0 + nI d)) 16 0) (deS (upd (D 33 0) 0 (D 33 0 0 + nI d) 0) (upd (D 33 0) 0 (D 33 0 0 + nI d)) 16) 12), ?_, ?_, fin_m h a3 a4 hE EqR.rf n3 n2 E33.row ?_ ?_⟩
      · rw [h.2.1.1.1, if_pos c2, a1, Option.bind_some, f_X6_advance]
        simp only [pu]
        rw [a5.1.1, e00, b1, Option.bind_some]
        simp only
        rw [e1, Option.bind_some, Option.bind_some]
      · rw [rd_at (i := (0 : Int32)) (j := 0) rfl (by decide) (by decide), e33, if_pos c2, n1, Option.bind_some, rd_at (i := (0 : Int32)) (j := 0) rfl (by decide) (by decide), n4, wr_at (i := (0 : Int32)) (j := 0) rfl (by decide) (by decide), updD_row Dn 33 0, n4, p_ps48 hG1.2.2, Option.bind_some]
        simp only
        rw [p_ps126 _ hG2, Option.bind_some, e2]
      · rw [rowD_at]
        exact (Good_pv hG2 12 (Nat.le_refl _)).1
      · rw [rowD_at]
        exact e3
    · refine ⟨-3, D, D, ?_, ?_, h⟩
      · rw [h.2.1.1.1, if_neg c2]
      · rw [rd_at (i := (0 : Int32)) (j := 0) rfl (by decide) (by decide), if_neg c2]
  · simp only [if_neg c]
    exact ⟨-1, D, D, rfl, rfl, h⟩
