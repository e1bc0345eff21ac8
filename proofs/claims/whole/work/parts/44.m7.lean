/-! giving up an old block; moving a network; renumber -/
theorem upd_id {s : Nat → Int32} {j : Nat} {v : Int32} (h : s j = v) : upd s j v = s := by
  funext i
  by_cases w : i = j
  · rw [w, pk_us, h]
  · rw [pk_un w]
def gSM (s : Nat → Int32) (i : Nat) : Nat → Int32 := upd s (74 + 6 * i + 4) (-1)
theorem gS_Loc : Loc gSM := fun s i j h => pk_un (by omega)
def guC (s : Nat → Int32) (x : Int32) (n : Nat) : Int32 := itN (fun h a => if s (74 + 6 * h) = x ∧ s (74 + 6 * h + 4) ≠ -1 then a + 1 else a) n 0
def guM (s : Nat → Int32) (n : Nat) : Nat → Int32 := upd (upd (hL gSM (nI n) s 16) (14 + 5 * n + 2) (-1)) 4 (s 4 + guC s (nI n) 16)
theorem RelS_gS {D : Dt} {b i : Nat} {s : Nat → Int32} (h : RelS D b s) (hi : i < 16) : RelS (updD D 14 b i (-1)) b (gSM s i) := by
  obtain ⟨r1, r2, r3⟩ := h
  refine ⟨r1.fx (updD_other _ _ _ (by omega)) (pk_un (by omega)) (pk_un (by omega)) (pk_un (by omega)) (pk_un (by omega)), r2.fx (fun k k1 k2 => updD_other _ _ _ (by omega)) (fun j j1 j2 _ => pk_un (by omega)), ?_⟩
  intro m hm
  obtain ⟨w0, w2, w4, w1, w3, w5⟩ := r3 m hm
  simp only [updD, upd, gSM]
  grind (splits := 20)
theorem p_dropOldLeases {D : Dt} {b : Nat} {s : Nat → Int32} (x : Int32) (hR : RelS D b s) : ∃ D', f_X2_dropOldLeases b x D = some (guC s x 16, D') ∧ RelS D' b (hL gSM x s 16) ∧ Eqx (St b) D D' := by
  have key : ∃ e, lp (l_X2_dropOldLeases_4 b x) FU ((0 : Int32), (0 : Int32), D) = some e ∧ (e.1 = guC s x 16 ∧ RelS e.2 b (hL gSM x s 16) ∧ Eqx (St b) D e.2) := by
    apply lp_n (fun i t => t.1 = guC s x i ∧ t.2.1 = nI i ∧ RelS t.2.2 b (hL gSM x s i) ∧ Eqx (St b) D t.2.2) _ 16
    · exact ⟨rfl, rfl, hR, Eqx.rf⟩
    · decide
    · rintro i ⟨c, y, E⟩ hi ⟨h1, h2, h3, h4⟩
      simp only at h1 h2 h3 h4
      subst h2
      simp only [l_X2_dropOldLeases_4]
      by_cases w : i = 16
      · right
        subst w
        rw [if_pos (by decide)]
        exact ⟨_, rfl, h1, h3, h4⟩
      · left
        have hi2 : i < 16 := by omega
        refine ⟨hi2, ?_⟩
        have e0 : E 10 b i = s (74 + 6 * i) := by
          rw [(h3.2.2 i hi2).1]
          exact hL_out gS_Loc i _ (by omega)
        have e4 : E 14 b i = s (74 + 6 * i + 4) := by
          rw [(h3.2.2 i hi2).2.2.1]
          exact hL_out gS_Loc i _ (by omega)
        rw [if_neg (g16 hi2), rd_at rfl hi2 (by decide), rd_at rfl hi2 (by decide), e0, e4, nI_1, h1, wr_at rfl hi2 (by decide)]
        have hc : guC s x (i + 1) = if s (74 + 6 * i) = x ∧ s (74 + 6 * i + 4) ≠ -1 then guC s x i + 1 else guC s x i := rfl
        by_cases c1 : s (74 + 6 * i) = x
        · rw [if_pos c1]
          by_cases c2 : s (74 + 6 * i + 4) = -1
          · rw [if_pos c2]
            refine ⟨_, rfl, ?_, rfl, ?_, h4⟩
            · rw [hc, if_neg (fun q => q.2 c2)]
            · rw [hL_s gS_Loc, if_pos c1, gSM, upd_id]
              · exact h3
              · rw [hL_out gS_Loc i _ (by omega)]; exact c2
          · rw [if_neg c2]
            refine ⟨_, rfl, ?_, rfl, ?_, h4.tr (Eqx.upd ⟨by decide, rfl⟩)⟩
            · rw [hc, if_pos ⟨c1, c2⟩]
            · rw [hL_s gS_Loc, if_pos c1]
              exact RelS_gS h3 hi2
        · rw [if_neg c1]
          refine ⟨_, rfl, ?_, rfl, ?_, h4⟩
          · rw [hc, if_neg (fun q => c1 q.1)]
          · rw [hL_s gS_Loc, if_neg c1]
            exact h3
  obtain ⟨⟨c, E⟩, h1, h2, h3, h4⟩ := key
  refine ⟨E, ?_, h3, h4⟩
  rw [f_X2_dropOldLeases, h1, Option.bind_some]
  simp only at h2
  rw [h2]
theorem RelS_do {D : Dt} {b n : Nat} {s : Nat → Int32} {v : Int32} (h : RelS D b s) (hn : n < 12) : RelS (updD (updD D 6 b n (-1)) 0 b 5 v) b (upd (upd s (14 + 5 * n + 2) (-1)) 4 v) := by
  obtain ⟨r1, r2, r3⟩ := h
  refine ⟨?_, ?_, r3.fx (fun k k1 k2 => by rw [updD_other _ _ _ (by omega), updD_other _ _ _ (by omega)]) (fun j j1 j2 => by rw [pk_un (by omega), pk_un (by omega)])⟩
  · unfold RelT at *
    simp only [updD, upd]
    grind
  · unfold RelP at *
    simp only [updD, upd]
    refine ⟨by grind, by grind, by grind, fun m hm => ?_⟩
    obtain ⟨h1, h2, h3, h4⟩ := r2.2.2.2 m hm
    grind (splits := 30)
theorem p_giveUpOld {D : Dt} {b n : Nat} {s : Nat → Int32} (hR : RelS D b s) (hn : n < 12) : ∃ D', f_X6_giveUpOld b (nI n) D = some (guC s (nI n) 16, D') ∧ RelS D' b (guM s n) ∧ Eqx (St b) D D' := by
  obtain ⟨D1, a1, a2, a3⟩ := p_dropOldLeases (nI n) hR
  have e5 : updD D1 6 b n (-1) 0 b 5 = s 4 := by
    rw [updD_other _ _ _ (by omega), a2.1.2.2.2]
    exact hL_out gS_Loc 16 4 (by omega)
  refine ⟨updD (updD D1 6 b n (-1)) 0 b 5 (s 4 + guC s (nI n) 16), ?_, RelS_do a2 hn, (a3.tr (Eqx.upd ⟨by decide, rfl⟩)).tr (Eqx.upd ⟨by decide, rfl⟩)⟩
  rw [f_X6_giveUpOld, a1, Option.bind_some, f_X5_dropOld, wr_at rfl hn (by decide), Option.bind_some]
  simp only [pu]
  rw [e5]
theorem p_givesUp {E : Dt} {n : Nat} {s : Nat → Int32} (hn : n < 12) (hH : ∀ i, i < 16 → nn (s (74 + 6 * i + 4))) : f_X10_givesUp (nI n) (rowD E 33 0 s) = some (guC s (nI n) 16, rowD E 33 0 (guM s n)) := by
  have h : lp (l_X10_givesUp_4 (nI n)) FU ((0 : Int32), (0 : Int32), rowD E 33 0 s) = some (guC s (nI n) 16, rowD E 33 0 (hL gSM (nI n) s 16)) := by
    apply lp_to (fun i => (guC s (nI n) i, nI i, rowD E 33 0 (hL gSM (nI n) s i))) 16
    · rfl
    · exact FU_big (by decide)
    · intro i hi
      have hc : guC s (nI n) (i + 1) = if s (74 + 6 * i) = nI n ∧ s (74 + 6 * i + 4) ≠ -1 then guC s (nI n) i + 1 else guC s (nI n) i := rfl
      simp only [l_X10_givesUp_4, p_X10_hostAt, Option.bind_some, show (4 : Int32) = nI 4 from rfl, nI_add, rd_at rfl (show 74 + 6 * i < 170 by omega) (show 170 < 2 ^ 31 by decide), rd_at rfl (show 74 + 6 * i + 4 < 170 by omega) (show 170 < 2 ^ 31 by decide), wr_at rfl (show 74 + 6 * i + 4 < 170 by omega) (show 170 < 2 ^ 31 by decide), rowD_at, rowD_upd, hL_out gS_Loc i (74 + 6 * i) (by omega), hL_out gS_Loc i (74 + 6 * i + 4) (by omega), nn_lt (hH i hi), nI_1]
      rw [if_neg (g16 hi), hc, hL_s gS_Loc]
      by_cases c1 : s (74 + 6 * i) = nI n
      · rw [if_pos c1, if_pos c1]
        by_cases c2 : s (74 + 6 * i + 4) = -1
        · rw [if_pos c2, if_neg (fun q => q.2 c2), gSM, upd_id]
          rw [hL_out gS_Loc i _ (by omega)]; exact c2
        · rw [if_neg c2, if_pos ⟨c1, c2⟩]
          rfl
      · rw [if_neg c1, if_neg c1, if_neg (fun q => c1 q.1)]
    · rfl
  rw [f_X10_givesUp, h, Option.bind_some, p_X10_net, Option.bind_some, show (2 : Int32) = nI 2 from rfl, nI_add, wr_at rfl (show 14 + 5 * n + 2 < 170 by omega) (by decide), rowD_upd, rd_at (i := (4 : Int32)) (j := 4) rfl (by decide) (by decide), wr_at (i := (4 : Int32)) (j := 4) rfl (by decide) (by decide), rowD_at, rowD_upd, pk_un (by omega), hL_out gS_Loc 16 4 (by omega)]
  rfl
theorem guM_lo {s : Nat → Int32} {n j : Nat} (h : j < 74) (h4 : j ≠ 4) (h2 : j ≠ 14 + 5 * n + 2) : guM s n j = s j := by
  rw [guM, pk_un h4, pk_un h2]
  exact hL_out gS_Loc 16 j (by omega)
theorem gu_host {s : Nat → Int32} {x : Int32} : ∀ k i q, i < 16 → q < 6 → hL gSM x s k (74 + 6 * i + q) = if i < k ∧ s (74 + 6 * i) = x ∧ q = 4 then -1 else s (74 + 6 * i + q) := by
  intro k
  induction k with
  | zero => intro i q hi hq; rw [if_neg (by omega)]; rfl
  | succ k ih =>
    intro i q hi hq
    rw [hL_s gS_Loc]
    by_cases c : s (74 + 6 * k) = x
    · rw [if_pos c, gSM]
      by_cases w : i = k ∧ q = 4
      · obtain ⟨rfl, rfl⟩ := w
        rw [pk_us, if_pos ⟨by omega, c, rfl⟩]
      · rw [pk_un (by omega), ih i q hi hq]
        by_cases v : i < k ∧ s (74 + 6 * i) = x ∧ q = 4
        · rw [if_pos v, if_pos ⟨by omega, v.2⟩]
        · rw [if_neg v, if_neg]
          intro u
          by_cases u2 : i = k
          · exact w ⟨u2, u.2.2⟩
          · exact v ⟨by omega, u.2⟩
    · rw [if_neg c, ih i q hi hq]
      by_cases v : i < k ∧ s (74 + 6 * i) = x ∧ q = 4
      · rw [if_pos v, if_pos ⟨by omega, v.2⟩]
      · rw [if_neg v, if_neg]
        intro u
        by_cases u2 : i = k
        · exact c (u2 ▸ u.2.1)
        · exact v ⟨by omega, u.2⟩
theorem Good_gu {s : Nat → Int32} {n : Nat} (h : Good s) (hn : n < 12) : Good (guM s n) := by
  obtain ⟨g1, g2, g3⟩ := h
  have hh : ∀ i q, i < 16 → q < 6 → guM s n (74 + 6 * i + q) = if s (74 + 6 * i) = nI n ∧ q = 4 then -1 else s (74 + 6 * i + q) := by
    intro i q hi hq
    rw [guM, pk_un (by omega), pk_un (by omega), gu_host 16 i q hi hq]
    by_cases v : s (74 + 6 * i) = nI n ∧ q = 4
    · rw [if_pos v, if_pos ⟨hi, v⟩]
    · rw [if_neg v, if_neg (fun u => v u.2)]
  refine ⟨⟨?_, fun m hm => ?_⟩, ?_, fun i hi => ?_⟩
  · rw [guM_lo (by omega) (by omega) (by omega), guM_lo (by omega) (by omega) (by omega), guM_lo (by omega) (by omega) (by omega), guM_lo (by omega) (by omega) (by omega)]
    exact g1.1
  · by_cases w : m = n
    · subst w
      intro q
      rw [guM, pk_un (by omega), pk_us] at q
      exact absurd rfl q
    · rw [guM_lo (by omega) (by omega) (by omega), guM_lo (by omega) (by omega) (by omega)]
      exact g1.2 m hm
  · have a2 := GeoS_drop g2 (show 2 * n + 1 < 24 by omega)
    rw [bix_o] at a2
    refine GeoS_ext a2 (fun j j1 j2 => ?_)
    by_cases w : j = 14 + 5 * n + 2
    · rw [w, pk_us, guM, pk_un (by omega), pk_us]
    · rw [pk_un w, guM_lo (by omega) (by omega) w]
  · obtain ⟨k1, k2, k3⟩ := g3 i hi
    have e0 := hh i 0 hi (by decide)
    have e1 := hh i 1 hi (by decide)
    have e2 := hh i 2 hi (by decide)
    have e3 := hh i 3 hi (by decide)
    have e4 := hh i 4 hi (by decide)
    have e5 := hh i 5 hi (by decide)
    rw [if_neg (by omega)] at e0 e1 e2 e3 e5
    rw [Nat.add_zero] at e0
    rw [e0, e1, e2, e3, e4, e5]
    refine ⟨?_, k2, ?_⟩
    · rcases k1 with v | ⟨m, v1, v2, v3, v4⟩
      · exact Or.inl v
      · exact Or.inr ⟨m, v1, v2, by rw [guM_lo (by omega) (by omega) (by omega)]; exact v3, v4⟩
    · by_cases c : s (74 + 6 * i) = nI n
      · exact Or.inl (by rw [if_pos ⟨c, rfl⟩])
      · rw [if_neg (fun u => c u.1)]
        rcases k3 with v | ⟨v0, m, v1, v2, v3⟩
        · exact Or.inl v
        · have hmn : m ≠ n := fun q => c (by rw [v2, q])
          exact Or.inr ⟨v0, m, v1, v2, by rw [guM_lo (by omega) (by omega) (by omega)]; exact v3⟩
/-! moving -/
def loM (s : Nat → Int32) (i : Nat) : Nat → Int32 := upd (upd (upd s (74 + 6 * i + 4) (s (74 + 6 * i + 2))) (74 + 6 * i + 5) (s (74 + 6 * i + 3))) (74 + 6 * i + 2) (-1)
theorem lo_Loc : Loc loM := fun s i j h => by rw [loM, pk_un (by omega), pk_un (by omega), pk_un (by omega)]
def mvB (s : Nat → Int32) (n : Nat) (x y : Int32) : Nat → Int32 := upd (upd (upd (upd (upd s (14 + 5 * n + 2) (s (14 + 5 * n))) (14 + 5 * n + 3) (s (14 + 5 * n + 1))) (14 + 5 * n + 4) (s 0 + s 2)) (14 + 5 * n) x) (14 + 5 * n + 1) y
def mvM (s : Nat → Int32) (n : Nat) (x y : Int32) : Nat → Int32 := if s 2 = 0 then guM (hL loM (nI n) (mvB s n x y) 16) n else hL loM (nI n) (mvB s n x y) 16
theorem mvB_ne {s : Nat → Int32} {n j : Nat} {x y : Int32} (h : j < 14 + 5 * n ∨ 14 + 5 * n + 5 ≤ j) : mvB s n x y j = s j := by
  rw [mvB, pk_un (by omega), pk_un (by omega), pk_un (by omega), pk_un (by omega), pk_un (by omega)]
theorem RelH_lo {D : Dt} {b i : Nat} {s : Nat → Int32} (h : RelH D b s) (hi : i < 16) : RelH (updD (updD (updD D 14 b i (D 12 b i)) 15 b i (D 13 b i)) 12 b i (-1)) b (loM s i) := by
  have hi' := h i hi
  intro m hm
  obtain ⟨w0, w2, w4, w1, w3, w5⟩ := h m hm
  obtain ⟨v0, v2, v4, v1, v3, v5⟩ := hi'
  simp only [updD, upd, loM]
  grind (splits := 30)
theorem RelS_lo {D : Dt} {b i : Nat} {s : Nat → Int32} (h : RelS D b s) (hi : i < 16) : RelS (updD (updD (updD D 14 b i (D 12 b i)) 15 b i (D 13 b i)) 12 b i (-1)) b (loM s i) := by
  obtain ⟨r1, r2, r3⟩ := h
  exact ⟨r1.fx (by rw [updD_other _ _ _ (by omega), updD_other _ _ _ (by omega), updD_other _ _ _ (by omega)]) (lo_Loc _ _ _ (by omega)) (lo_Loc _ _ _ (by omega)) (lo_Loc _ _ _ (by omega)) (lo_Loc _ _ _ (by omega)), r2.fx (fun k k1 k2 => by rw [updD_other _ _ _ (by omega), updD_other _ _ _ (by omega), updD_other _ _ _ (by omega)]) (fun j j1 j2 _ => lo_Loc _ _ _ (by omega)), RelH_lo r3 hi⟩
theorem p_makeLeasesOld {D : Dt} {b : Nat} {s : Nat → Int32} (x : Int32) (hR : RelS D b s) : ∃ D', f_X2_makeLeasesOld b x D = some D' ∧ RelS D' b (hL loM x s 16) ∧ Eqx (St b) D D' := by
  have key : ∃ e, lp (l_X2_makeLeasesOld_2 b x) FU ((0 : Int32), D) = some e ∧ (RelS e b (hL loM x s 16) ∧ Eqx (St b) D e) := by
    apply lp_n (fun i t => t.1 = nI i ∧ RelS t.2 b (hL loM x s i) ∧ Eqx (St b) D t.2) _ 16
    · exact ⟨rfl, hR, Eqx.rf⟩
    · decide
    · rintro i ⟨y, E⟩ hi ⟨h2, h3, h4⟩
      simp only at h2 h3 h4
      subst h2
      simp only [l_X2_makeLeasesOld_2]
      by_cases w : i = 16
      · right
        subst w
        rw [if_pos (by decide)]
        exact ⟨_, rfl, h3, h4⟩
      · left
        have hi2 : i < 16 := by omega
        refine ⟨hi2, ?_⟩
        have e0 : E 10 b i = s (74 + 6 * i) := by
          rw [(h3.2.2 i hi2).1]
          exact hL_out lo_Loc i _ (by omega)
        rw [if_neg (g16 hi2), rd_at rfl hi2 (by decide), e0, nI_1]
        by_cases c1 : s (74 + 6 * i) = x
        · rw [if_pos c1, rd_at rfl hi2 (by decide), wr_at rfl hi2 (by decide), rd_at rfl hi2 (by decide), wr_at rfl hi2 (by decide), wr_at rfl hi2 (by decide)]
          have e13 : updD E 14 b i (E 12 b i) 13 b i = E 13 b i := by rw [updD_other _ _ _ (by omega)]
          rw [e13]
          refine ⟨_, rfl, rfl, ?_, ((h4.tr (Eqx.upd ⟨by decide, rfl⟩)).tr (Eqx.upd ⟨by decide, rfl⟩)).tr (Eqx.upd ⟨by decide, rfl⟩)⟩
          rw [hL_s lo_Loc, if_pos c1]
          exact RelS_lo h3 hi2
        · rw [if_neg c1]
          refine ⟨_, rfl, rfl, ?_, h4⟩
          rw [hL_s lo_Loc, if_neg c1]
          exact h3
  obtain ⟨E, h1, h2, h3⟩ := key
  exact ⟨E, by rw [f_X2_makeLeasesOld, h1, Option.bind_some], h2, h3⟩
theorem p_mv85 {E : Dt} {s : Nat → Int32} (x : Int32) : lp (l_X10_moves_85 x) FU ((0 : Int32), rowD E 33 0 s) = some (rowD E 33 0 (hL loM x s 16)) := by
  apply lp_to (fun i => (nI i, rowD E 33 0 (hL loM x s i))) 16
  · rfl
  · exact FU_big (by decide)
  · intro i hi
    simp only [l_X10_moves_85, p_X10_hostAt, Option.bind_some, show (2 : Int32) = nI 2 from rfl, show (4 : Int32) = nI 4 from rfl, nI_add, nI_1, rd_at rfl (show 74 + 6 * i < 170 by omega) (show 170 < 2 ^ 31 by decide), rd_at rfl (show 74 + 6 * i + 2 < 170 by omega) (show 170 < 2 ^ 31 by decide), rd_at rfl (show 74 + 6 * i + 2 + 1 < 170 by omega) (show 170 < 2 ^ 31 by decide), wr_at rfl (show 74 + 6 * i + 4 < 170 by omega) (show 170 < 2 ^ 31 by decide), wr_at rfl (show 74 + 6 * i + 4 + 1 < 170 by omega) (show 170 < 2 ^ 31 by decide), wr_at rfl (show 74 + 6 * i + 2 < 170 by omega) (show 170 < 2 ^ 31 by decide), rowD_at, rowD_upd]
    rw [if_neg (g16 hi), hL_s lo_Loc, hL_out lo_Loc i (74 + 6 * i) (by omega), pk_un (show 74 + 6 * i + 2 + 1 ≠ 74 + 6 * i + 4 by omega)]
    by_cases c1 : s (74 + 6 * i) = x
    · rw [if_pos c1, if_pos c1]
      rfl
    · rw [if_neg c1, if_neg c1]
  · rfl
theorem RelP_mv {D : Dt} {b n : Nat} {x y : Int32} {s : Nat → Int32} (h : RelP D b s) (hn : n < 12) (h0 : s (14 + 5 * n) ≠ -1) : RelP (updD (updD (updD (updD (updD D 6 b n (D 4 b n)) 7 b n (D 5 b n)) 8 b n (s 0 + s 2)) 4 b n x) 5 b n y) b (mvB s n x y) := by
  have hn' := h.2.2.2 n hn
  obtain ⟨v1, v2, v3, v4⟩ := hn'
  have v3' := v3 h0
  refine ⟨?_, ?_, fun p hp hp2 => ?_, fun m hm => ?_⟩
  · rw [mvB_ne (by omega)]
    simp only [updD_at]
    simp
    exact h.1
  · rw [mvB_ne (by omega)]
    simp only [updD_at]
    simp
    exact h.2.1
  · rw [mvB_ne (by omega)] at hp2
    rw [mvB_ne (by omega), mvB_ne (by omega)]
    simp only [updD_at]
    simp
    exact h.2.2.1 p hp hp2
  · by_cases w : m = n
    · subst w
      have e0 : mvB s m x y (14 + 5 * m) = x := by rw [mvB, pk_un (by omega), pk_us]
      have e1 : mvB s m x y (14 + 5 * m + 1) = y := by rw [mvB, pk_us]
      have e2 : mvB s m x y (14 + 5 * m + 2) = s (14 + 5 * m) := by rw [mvB, pk_un (by omega), pk_un (by omega), pk_un (by omega), pk_un (by omega), pk_us]
      have e3 : mvB s m x y (14 + 5 * m + 3) = s (14 + 5 * m + 1) := by rw [mvB, pk_un (by omega), pk_un (by omega), pk_un (by omega), pk_us]
      have e4 : mvB s m x y (14 + 5 * m + 4) = s 0 + s 2 := by rw [mvB, pk_un (by omega), pk_un (by omega), pk_us]
      rw [e0, e1, e2, e3, e4]
      refine ⟨by simp [updD_at], by simp [updD_at, v1], fun _ => by simp [updD_at], fun _ => ⟨by simp [updD_at, v3'], by simp [updD_at]⟩⟩
    · rw [mvB_ne (by omega), mvB_ne (by omega), mvB_ne (by omega), mvB_ne (by omega), mvB_ne (by omega)]
      simp only [updD_at]
      simp [w]
      exact h.2.2.2 m hm
theorem p_moveNetwork {D : Dt} {b n : Nat} {x y : Int32} {s : Nat → Int32} (hR : RelS D b s) (hn : n < 12) (h0 : s (14 + 5 * n) ≠ -1) : ∃ D', f_X6_moveNetwork b (nI n) x y D = some D' ∧ RelS D' b (mvM s n x y) ∧ Eqx (St b) D D' := by
  have hR1 : RelS (updD (updD (updD (updD (updD D 6 b n (D 4 b n)) 7 b n (D 5 b n)) 8 b n (s 0 + s 2)) 4 b n x) 5 b n y) b (mvB s n x y) := by
    obtain ⟨r1, r2, r3⟩ := hR
    exact ⟨r1.fx (by rw [updD_other _ _ _ (by omega), updD_other _ _ _ (by omega), updD_other _ _ _ (by omega), updD_other _ _ _ (by omega), updD_other _ _ _ (by omega)]) (mvB_ne (by omega)) (mvB_ne (by omega)) (mvB_ne (by omega)) (mvB_ne (by omega)), RelP_mv r2 hn h0, r3.fx (fun k k1 k2 => by rw [updD_other _ _ _ (by omega), updD_other _ _ _ (by omega), updD_other _ _ _ (by omega), updD_other _ _ _ (by omega), updD_other _ _ _ (by omega)]) (fun j j1 j2 => mvB_ne (by omega))⟩
  have hE1 : Eqx (St b) D (updD (updD (updD (updD (updD D 6 b n (D 4 b n)) 7 b n (D 5 b n)) 8 b n (s 0 + s 2)) 4 b n x) 5 b n y) := ((((Eqx.upd ⟨by decide, rfl⟩).tr (Eqx.upd ⟨by decide, rfl⟩)).tr (Eqx.upd ⟨by decide, rfl⟩)).tr (Eqx.upd ⟨by decide, rfl⟩)).tr (Eqx.upd ⟨by decide, rfl⟩)
  obtain ⟨D2, a1, a2, a3⟩ := p_makeLeasesOld (nI n) hR1
  have e4 : D2 0 b 4 = s 2 := by
    rw [a2.1.2.2.1, hL_out lo_Loc 16 2 (by omega)]
    exact mvB_ne (by omega)
  have st : f_X6_moveNetwork b (nI n) x y D = if s 2 = 0 then (f_X6_giveUpOld b (nI n) D2).bind (fun o4 => some o4.2) else some D2 := by
    rw [f_X6_moveNetwork, hR.1.1, hR.1.2.2.1, f_X5_makeOld, rd_at rfl hn (by decide), wr_at rfl hn (by decide), rd_at rfl hn (by decide), wr_at rfl hn (by decide), wr_at rfl hn (by decide), Option.bind_some, p_putCurrent hn, Option.bind_some]
    have e5 : updD D 6 b n (D 4 b n) 5 b n = D 5 b n := by rw [updD_other _ _ _ (by omega)]
    rw [e5, a1, Option.bind_some, e4]
  by_cases c : s 2 = 0
  · obtain ⟨D3, b1, b2, b3⟩ := p_giveUpOld a2 hn
    refine ⟨D3, ?_, ?_, (hE1.tr a3).tr b3⟩
    · rw [st, if_pos c, b1, Option.bind_some]
    · rw [mvM, if_pos c]
      exact b2
  · refine ⟨D2, ?_, ?_, hE1.tr a3⟩
    · rw [st, if_neg c]
    · rw [mvM, if_neg c]
      exact a2
theorem p_moves {E : Dt} {n : Nat} {x y : Int32} {s : Nat → Int32} (hn : n < 12) (hH : ∀ i, i < 16 → nn (hL loM (nI n) (mvB s n x y) 16 (74 + 6 * i + 4))) : f_X10_moves (nI n) x y (rowD E 33 0 s) = some (rowD E 33 0 (mvM s n x y)) := by
  rw [f_X10_moves, p_X10_net, Option.bind_some, show (2 : Int32) = nI 2 from rfl, show (4 : Int32) = nI 4 from rfl]
  simp only [nI_add, nI_1]
  rw [rd_at rfl (show 14 + 5 * n < 170 by omega) (by decide), wr_at rfl (show 14 + 5 * n + 2 < 170 by omega) (by decide), rd_at rfl (show 14 + 5 * n + 1 < 170 by omega) (by decide), wr_at rfl (show 14 + 5 * n + 2 + 1 < 170 by omega) (by decide), rd_at (i := (0 : Int32)) (j := 0) rfl (by decide) (by decide), rd_at (i := nI 2) (j := 2) rfl (by decide) (by decide), wr_at rfl (show 14 + 5 * n + 4 < 170 by omega) (by decide), wr_at rfl (show 14 + 5 * n < 170 by omega) (by decide), wr_at rfl (show 14 + 5 * n + 1 < 170 by omega) (by decide)]
  simp only [rowD_at, rowD_upd]
  rw [pk_un (show 14 + 5 * n + 1 ≠ 14 + 5 * n + 2 by omega), pk_un (show 0 ≠ 14 + 5 * n + 2 + 1 by omega), pk_un (show 0 ≠ 14 + 5 * n + 2 by omega), pk_un (show 2 ≠ 14 + 5 * n + 2 + 1 by omega), pk_un (show 2 ≠ 14 + 5 * n + 2 by omega)]
  show (lp (l_X10_moves_85 (nI n)) FU ((0 : Int32), rowD E 33 0 (mvB s n x y))).bind _ = _
  rw [p_mv85, Option.bind_some, rd_at (i := nI 2) (j := 2) rfl (by decide) (by decide), rowD_at, hL_out lo_Loc 16 2 (by omega), mvB_ne (by omega)]
  by_cases c : s 2 = 0
  · rw [if_pos c, p_givesUp hn hH, Option.bind_some, mvM, if_pos c]
  · rw [if_neg c, mvM, if_neg c]
