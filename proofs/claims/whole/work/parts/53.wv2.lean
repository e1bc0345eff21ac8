/-! wave, the call -/
def QCm (m : Nat) (u s : Nat → Int32) (e : Int32 × Dt) : Prop := (m = 0 ∧ e.1 = -2 ∧ Inv e.2 ∧ e.2 33 0 = s) ∨ (m ≠ 0 ∧ e.1 = nI m ∧ ∃ E Dk, Inv E ∧ FT E Dk ∧ FP E Dk ∧ HisM Dk s ∧ Eqx ZC Dk e.2 ∧ RelS e.2 0 u ∧ e.2 33 0 = s)
theorem p_adopt {E : Dt} {u s : Nat → Int32} (hI : Inv E) (hs : E 33 0 = s) (hR1 : RelS E 1 u) : ∃ D1, f_X9_adoptDraft E = some D1 ∧ ∃ Dk, FT E Dk ∧ FP E Dk ∧ HisM Dk s ∧ Eqx ZC Dk D1 ∧ RelS D1 0 u ∧ D1 33 0 = s := by
  obtain ⟨Dk, a1, a2, a3⟩ := p_keep hI.2.2.1 hI.2.1 hI.1
  have hR1k : RelS Dk 1 u := hR1.fr (fun k hk => a3 k 1 (by simp only [KF]; omega))
  obtain ⟨D1, b1, b2, b3⟩ := p_copyState (D := Dk) (b := 0) (b1 := 1) (by decide)
  have hE : Eqx ZC Dk D1 := b3.mono (St_ZC (Or.inl rfl))
  rw [hs] at a2
  refine ⟨D1, ?_, Dk, kfT a3, kfP a3, a2, hE, b2 u hR1k, ?_⟩
  · rw [f_X9_adoptDraft, a1, Option.bind_some, b1, Option.bind_some]
  · rw [hE 33 0 (by simp [ZC]), a3 33 0 (by simp [KF])]
    exact hs
theorem wv_end {E : Dt} {m : Nat} {u s : Nat → Int32} (hm : m ≤ 12) (hI : Inv E) (hs : E 33 0 = s) (hR1 : RelS E 1 u) : ∃ e, (if nI m = 0 then (some (Sum.inr ((-2 : Int32), E)) : Option ((Int32 × Int32 × Int32 × Dt) ⊕ (Int32 × Dt))) else ((f_X9_adoptDraft E).bind (fun D3 => some (Sum.inr (nI m, D3))))) = some (Sum.inr e) ∧ QCm m u s e := by
  rw [if_z (by omega)]
  by_cases c : m = 0
  · rw [if_pos c]
    exact ⟨_, rfl, Or.inl ⟨c, rfl, hI, hs⟩⟩
  · rw [if_neg c]
    obtain ⟨D1, a1, Dk, a2, a3, a4, a5, a6, a7⟩ := p_adopt hI hs hR1
    rw [a1, Option.bind_some]
    exact ⟨_, rfl, Or.inr ⟨c, rfl, E, Dk, hI, a2, a3, a4, a5, a6, a7⟩⟩
theorem itW_go {s : Nat → Int32} {cnt t k : Nat} (c : ¬ cnt ≤ (itW s cnt t).1) (hh : hb s (itW s cnt t).2.1 12 = some k) : itW s cnt (t + 1) = wvG s k (itW s cnt t) (plF (itW s cnt t).2.2 (s (14 + 5 * k + 1)).toNatClampNeg) := by
  simp only [itW]
  rw [if_neg c, hh, wvH_s]
theorem itW_12 {s : Nat → Int32} {cnt t : Nat} (ht : t ≤ 12) (h : stW s cnt (itW s cnt t)) : itW s cnt 12 = itW s cnt t := by
  have := itW_fix h (12 - t)
  rw [show t + (12 - t) = 12 by omega] at this
  exact this
theorem itW_0 (s : Nat → Int32) (cnt : Nat) : itW s cnt 0 = (0, 65536, s) := by
  simp only [itW]
theorem cnW_0 (s : Nat → Int32) (B : Int32) : cnW s B 12 + 0 ≤ 12 := by
  have := cnW_le (s := s) (B := B) 12
  omega
theorem p_wvC {D2 : Dt} {s : Nat → Int32} {cnt : Nat} (hI : Inv D2) (hs : D2 33 0 = s) (hR1 : RelS D2 1 s) (hc : cnt ≤ 12) : ∃ e, lp (l_X9_wave_31 (nI cnt)) FU ((0 : Int32), (65536 : Int32), (0 : Int32), D2) = some e ∧ QCm (itW s cnt 12).1 (itW s cnt 12).2.2 s e := by
  have hGs : Good s := by rw [← hs]; exact hI.1
  apply lp_n (fun t x => x.1 = nI (itW s cnt t).1 ∧ x.2.1 = (itW s cnt t).2.1 ∧ x.2.2.1 = nI t ∧ Eqx ZQ D2 x.2.2.2 ∧ RelS x.2.2.2 1 (itW s cnt t).2.2 ∧ cnW s (itW s cnt t).2.1 12 + t ≤ 12) _ 12
  · rw [itW_0]
    exact ⟨rfl, rfl, rfl, Eqx.rf, hR1, cnW_0 _ _⟩
  · decide
  · rintro t ⟨m, B, y, E⟩ ht ⟨x1, x2, x3, x4, x5, x6⟩
    simp only at x1 x2 x3 x4 x5 x6
    subst x1
    subst x2
    subst x3
    have hIE : Inv E := Inv_q hI x4 EqR.rf
    have e33 : E 33 0 = s := (x4 33 0 (by simp [ZQ])).trans hs
    obtain ⟨w1, w2, w3, w4⟩ := IW_all (cnt := cnt) hGs t
    have hR0 : RelS E 0 s := by rw [← e33]; exact hIE.2.1
    have fin : stW s cnt (itW s cnt t) → ∃ e, (if nI (itW s cnt t).1 = 0 then (some (Sum.inr ((-2 : Int32), E)) : Option ((Int32 × Int32 × Int32 × Dt) ⊕ (Int32 × Dt))) else ((f_X9_adoptDraft E).bind (fun D3 => some (Sum.inr (nI (itW s cnt t).1, D3))))) = some (Sum.inr e) ∧ QCm (itW s cnt 12).1 (itW s cnt 12).2.2 s e := by
      intro q
      rw [itW_12 ht q]
      exact wv_end (by omega) hIE e33 x5
    simp only [l_X9_wave_31]
    by_cases c12 : t = 12
    · right
      subst c12
      rw [if_pos (by decide)]
      exact wv_end (by omega) hIE e33 x5
    · rw [if_neg (g12 (by omega)), if_le (by omega) (by omega)]
      by_cases c1 : cnt ≤ (itW s cnt t).1
      · right
        rw [if_pos c1]
        exact fin (Or.inl c1)
      · rw [if_neg c1, p_movableBelow hR0.2.1, Option.bind_some]
        cases hh : hb s (itW s cnt t).2.1 12 with
        | none =>
          right
          rw [oI_n, isNetwork_eq, Option.bind_some, if_b, if_neg (by decide)]
          exact fin (Or.inr hh)
        | some k =>
          left
          refine ⟨by omega, ?_⟩
          obtain ⟨k1, k2, k3⟩ := hb_lt 12 k hh
          obtain ⟨g0, m, b1, b2, b3, b4, b5, b6, b7⟩ := hGs.2.1.blk k1 k2.1
          obtain ⟨v0, v2, v1, v3⟩ := hR0.2.1.2.2.2 k k1
          have cn := cnW_step x6 (fun q => by
            rcases q with q | q
            · exact c1 q
            · rw [hh] at q; cases q)
          have hgo := itW_go c1 hh
          rw [oI_s, isNetwork_nI k1, Option.bind_some, if_neg (by decide), rd_at rfl k1 (by decide), rd_at rfl k1 (by decide), v0, v1 k2.1, b2]
          obtain ⟨D3, d1, d2⟩ := plF_cls (b := 0) (m := m) x5.2.1 w1.2.1 w1.pol b4
          have hZ : Eqx ZQ D2 D3 := x4.tr (d2.mono SV_ZQ)
          have hR3 : RelS D3 1 (itW s cnt t).2.2 := x5.fr (fun k hk => d2 k 1 (fun w => by have := w.1; omega))
          rw [d1, Option.bind_some, oI_m1 (plF_lt w1.2.1), nI_1]
          rw [b2, nI_clamp (by omega)] at hgo
          cases hp : plF (itW s cnt t).2.2 m with
          | none =>
            rw [hp, wvG_n] at hgo
            rw [if_pos rfl]
            rw [hgo] at cn ⊢
            exact ⟨_, rfl, rfl, rfl, rfl, hZ, hR3, cn⟩
          | some g =>
            rw [hp, wvG_s] at hgo
            rw [if_neg (by simp), oI_s]
            by_cases c2 : s (14 + 5 * k) ≤ nI g
            · rw [if_neg (not_lt_le.mpr c2)] at hgo
              rw [if_pos c2]
              rw [hgo] at cn ⊢
              exact ⟨_, rfl, rfl, rfl, rfl, hZ, hR3, cn⟩
            · have c2' : nI g < s (14 + 5 * k) := by
                apply Classical.byContradiction
                intro q
                exact c2 (not_lt_le.mp q)
              have e0 := w2 k k1 k2 k3 0 (by decide)
              rw [Nat.add_zero] at e0
              obtain ⟨D4, f1, f2, f3⟩ := p_moveNetwork (x := nI g) (y := nI m) hR3 k1 (by rw [e0]; exact k2.1)
              rw [if_pos c2'] at hgo
              rw [if_neg c2, f1, Option.bind_some, nI_1]
              rw [hgo] at cn ⊢
              refine ⟨_, rfl, rfl, rfl, rfl, hZ.tr (f3.mono (fun k b w => Or.inr ⟨w.1, Or.inl w.2⟩)), ?_, cn⟩
              simp only
              rw [b2]
              exact f2
theorem p_wvR {E1 : Dt} {s : Nat → Int32} {cnt : Nat} (hGs : Good s) (hs : E1 33 0 = s) (h36 : ∀ j, j < 170 → E1 36 0 j = s j) (hc : cnt ≤ 12) : ∃ e, lp (l_X10_wave_25 (nI cnt)) FU ((0 : Int32), oI (hb s 65536 12), E1) = some e ∧ (e.1 = nI (itW s cnt 12).1 ∧ e.2 33 0 = (itW s cnt 12).2.2 ∧ (∀ j, j < 170 → e.2 36 0 j = s j) ∧ EqW JR E1 e.2) := by
  apply lp_n (fun t x => x.1 = nI (itW s cnt t).1 ∧ x.2.1 = oI (hb s (itW s cnt t).2.1 12) ∧ x.2.2 33 0 = (itW s cnt t).2.2 ∧ (∀ j, j < 170 → x.2.2 36 0 j = s j) ∧ EqW JR E1 x.2.2 ∧ cnW s (itW s cnt t).2.1 12 + t ≤ 12) _ 12
  · rw [itW_0]
    exact ⟨rfl, rfl, hs, h36, EqW.rf, cnW_0 _ _⟩
  · decide
  · rintro t ⟨m, y, E⟩ ht ⟨x1, x2, x3, x4, x5, x6⟩
    simp only at x1 x2 x3 x4 x5 x6
    subst x1
    subst x2
    obtain ⟨w1, w2, w3, w4⟩ := IW_all (cnt := cnt) hGs t
    simp only [l_X10_wave_25]
    cases hh : hb s (itW s cnt t).2.1 12 with
    | none =>
      right
      rw [oI_n, if_pos (by decide), itW_12 ht (Or.inr hh)]
      exact ⟨_, rfl, rfl, x3, x4, x5⟩
    | some k =>
      obtain ⟨k1, k2, k3⟩ := hb_lt 12 k hh
      rw [oI_s, if_neg (nI_pos (by omega)), if_le (by omega) (by omega)]
      by_cases c1 : cnt ≤ (itW s cnt t).1
      · right
        rw [if_pos c1, itW_12 ht (Or.inl c1)]
        exact ⟨_, rfl, rfl, x3, x4, x5⟩
      · left
        have hlt : t < 12 := by
          have := cnW_pos (s := s) (B := (itW s cnt t).2.1) (by rw [hh]; simp)
          omega
        refine ⟨hlt, ?_⟩
        obtain ⟨g0, m, b1, b2, b3, b4, b5, b6, b7⟩ := hGs.2.1.blk k1 k2.1
        have e0 := w2 k k1 k2 k3 0 (by decide)
        have e1 := w2 k k1 k2 k3 1 (by decide)
        have e2 := w2 k k1 k2 k3 2 (by decide)
        rw [Nat.add_zero] at e0
        have cn := cnW_step x6 (fun q => by
          rcases q with q | q
          · exact c1 q
          · rw [hh] at q; cases q)
        have hgo := itW_go c1 hh
        rw [b2, nI_clamp (by omega)] at hgo
        obtain ⟨E2, d1, d2⟩ := plF_ref (m := m) x3 w1.2.1 w1.pol b4
        have f33 : E2 33 0 = (itW s cnt t).2.2 := (d2.1 33 0 (by decide) (by decide) (by decide)).trans x3
        have f36 : ∀ j, j < 170 → E2 36 0 j = s j := fun j hj => by rw [d2.1 36 0 (by decide) (by decide) (by decide)]; exact x4 j hj
        have hW : EqW JR E1 E2 := x5.tr (d2.mono J89_JR).W
        have hi : ∀ F : Dt, (∀ j, j < 170 → F 36 0 j = s j) → f_X10_highest (s (14 + 5 * k)) F = some (oI (hb s (s (14 + 5 * k)) 12)) := fun F hF => p_highest hF hGs.2.1 _
        rw [if_neg c1, p_X10_net, Option.bind_some, nI_1, rd_at rfl (show 14 + 5 * k + 1 < 170 by omega) (by decide), x3, e1, b2, d1, Option.bind_some]
        simp only [p_X10_net, Option.bind_some, nI_1 (14 + 5 * k), rd_at rfl (show 14 + 5 * k < 170 by omega) (show 170 < 2 ^ 31 by decide), rd_at rfl (show 14 + 5 * k + 1 < 170 by omega) (show 170 < 2 ^ 31 by decide), f33, f36 (14 + 5 * k) (by omega), e0, e1, b2, hi E2 f36]
        cases hp : plF (itW s cnt t).2.2 m with
        | none =>
          rw [hp, wvG_n] at hgo
          rw [oI_n, if_pos (by decide)]
          rw [hgo] at cn ⊢
          exact ⟨_, rfl, rfl, rfl, f33, f36, hW, cn⟩
        | some g =>
          have hpl := plF_plac w1.2.1 hp
          have hg := hpl.lt
          rw [hp, wvG_s] at hgo
          rw [oI_s, if_neg (nI_pos (by omega))]
          by_cases c2 : s (14 + 5 * k) ≤ nI g
          · rw [if_neg (not_lt_le.mpr c2)] at hgo
            rw [if_pos c2]
            rw [hgo] at cn ⊢
            exact ⟨_, rfl, rfl, rfl, f33, f36, hW, cn⟩
          · have c2' : nI g < s (14 + 5 * k) := by
              apply Classical.byContradiction
              intro q
              exact c2 (not_lt_le.mp q)
            have hu0 : (itW s cnt t).2.2 (14 + 5 * k) ≠ -1 := by rw [e0]; exact k2.1
            have hu2 : (itW s cnt t).2.2 (14 + 5 * k + 2) = -1 := by rw [e2]; exact k2.2
            have hmv := p_moves (E := E2) (n := k) (x := nI g) (y := nI m) (s := (itW s cnt t).2.2) k1 (fun i hi => (Good_mvL w1 k1 hu0 hu2 b3 b4 hpl).2.2.nn4 hi)
            rw [← f33, rowD_self, f33] at hmv
            have f36' : ∀ j, j < 170 → rowD E2 33 0 (mvM (itW s cnt t).2.2 k (nI g) (nI m)) 36 0 j = s j := fun j hj => by rw [rowD_ne _ _ (by omega)]; exact f36 j hj
            rw [if_pos c2'] at hgo
            rw [if_neg c2, hmv, Option.bind_some, f36' (14 + 5 * k) (by omega), hi _ f36', Option.bind_some, nI_1]
            rw [hgo] at cn ⊢
            refine ⟨_, rfl, rfl, rfl, ?_, f36', hW.tr (EqW.row (Or.inl rfl)), cn⟩
            simp only
            rw [rowD_at, b2]
theorem HisM_ext {D : Dt} {s s' : Nat → Int32} (h : HisM D s) (e : ∀ j, j < 170 → s' j = s j) : HisM D s' := by
  obtain ⟨c, nx, h1, h2, h3, h4, h5, h6, h7, h8⟩ := h
  exact ⟨c, nx, h1, h2, h3, h4, h5, h6, Good_ext h7 e, RelS_ext h8 e⟩
theorem cpM_lt {s p : Nat → Int32} {j : Nat} (h : j < 170) : cpM s p 170 j = p j := if_pos h
/-- the reference's end: exchanged, noted, exchanged back -/
theorem ex_note {E Dk D1 E2 : Dt} {u s : Nat → Int32} (hI : Inv E) (hT : FT E Dk) (hP : FP E Dk) (hM : HisM Dk s) (hE : Eqx ZC Dk D1) (hR : RelS D1 0 u) (hW : EqW JR D1 E2) (h33 : E2 33 0 = u) (h36 : ∀ j, j < 170 → E2 36 0 j = s j) (hG : Good u) : ∃ D2, (f_X10_exchanges E2).bind (fun D22 => (f_X10_note D22).bind (fun D23 => (f_X10_exchanges D23).bind (fun D24 => some D24))) = some D2 ∧ Inv D2 ∧ ∃ D22 D23, f_X10_exchanges E2 = some D22 ∧ f_X10_note D22 = some D23 ∧ f_X10_exchanges D23 = some D2 ∧ D22 32 0 = E2 32 0 ∧ D2 22 0 = E2 22 0 ∧ (∀ j, j ≠ 2 → D2 32 0 j = E2 32 0 j) ∧ EqW JR E2 D22 ∧ EqN D22 D23 ∧ HisR D23 ∧ EqW JR D23 D2 ∧ Good (D2 33 0) ∧ RelS D1 0 (D2 33 0) := by
  have hx := p_exchanges (D := E2)
  rw [h33] at hx
  have hW3 : EqW JR E2 (rowD (rowD E2 33 0 (cpM u (E2 36 0) 170)) 36 0 (cpM (E2 36 0) u 170)) := (EqW.row (Or.inl rfl)).tr (EqW.row (Or.inr rfl))
  have f33 : rowD (rowD E2 33 0 (cpM u (E2 36 0) 170)) 36 0 (cpM (E2 36 0) u 170) 33 0 = cpM u (E2 36 0) 170 := by rw [rowD_ne _ _ (by omega), rowD_at]
  have hs' : ∀ j, j < 170 → cpM u (E2 36 0) 170 j = s j := fun j hj => by rw [cpM_lt hj]; exact h36 j hj
  have hM3 : HisM (rowD (rowD E2 33 0 (cpM u (E2 36 0) 170)) 36 0 (cpM (E2 36 0) u 170)) (cpM u (E2 36 0) 170) := HisM_ext (((hM.fr hE.FH).fr hW.FH').fr hW3.FH') hs'
  obtain ⟨Dn, n1, n2, n3⟩ := p_note hM3 f33
  have hx2 := p_exchanges (D := Dn)
  have d36 : ∀ j, j < 170 → Dn 36 0 j = u j := fun j hj => by
    rw [n3.1 36 0 (by decide) (by decide), rowD_at]
    exact cpM_lt hj
  have g33 : rowD (rowD Dn 33 0 (cpM (Dn 33 0) (Dn 36 0) 170)) 36 0 (cpM (Dn 36 0) (Dn 33 0) 170) 33 0 = cpM (Dn 33 0) (Dn 36 0) 170 := by rw [rowD_ne _ _ (by omega), rowD_at]
  have hu' : ∀ j, j < 170 → cpM (Dn 33 0) (Dn 36 0) 170 j = u j := fun j hj => by rw [cpM_lt hj]; exact d36 j hj
  have hW4 : EqW JR Dn (rowD (rowD Dn 33 0 (cpM (Dn 33 0) (Dn 36 0) 170)) 36 0 (cpM (Dn 36 0) (Dn 33 0) 170)) := (EqW.row (Or.inl rfl)).tr (EqW.row (Or.inr rfl))
  have hGu : Good (rowD (rowD Dn 33 0 (cpM (Dn 33 0) (Dn 36 0) 170)) 36 0 (cpM (Dn 36 0) (Dn 33 0) 170) 33 0) := by rw [g33]; exact Good_ext hG hu'
  have hRu : RelS D1 0 (rowD (rowD Dn 33 0 (cpM (Dn 33 0) (Dn 36 0) 170)) 36 0 (cpM (Dn 36 0) (Dn 33 0) 170) 33 0) := by rw [g33]; exact RelS_ext hR hu'
  refine ⟨_, ?_, fin_w hI hT hP hE (hW.tr hW3) n3 n2 hW4 hGu hRu, _, Dn, hx, n1, hx2, ?_, ?_, ?_, hW3, n3, n2, hW4, hGu, hRu⟩
  · rw [hx, Option.bind_some, n1, Option.bind_some, hx2, Option.bind_some]
  · rw [rowD_ne _ _ (by omega), rowD_ne _ _ (by omega)]
  · rw [rowD_ne _ _ (by omega), rowD_ne _ _ (by omega), n3.1 22 0 (by decide) (by decide), rowD_ne _ _ (by omega), rowD_ne _ _ (by omega)]
  · intro j hj
    rw [rowD_ne _ _ (by omega), rowD_ne _ _ (by omega), n3.2 j hj, rowD_ne _ _ (by omega), rowD_ne _ _ (by omega)]
theorem ok_wave : ∀ (x1 : Int32) (D : Dt), Inv D → ∃ (r : Int32) (D1 D2 : Dt), f_X9_wave x1 D = some (r, D1) ∧ f_X10_wave x1 D1 = some (r, D2) ∧ Inv D2 := by
  intro x D h
  simp only [f_X9_wave, f_X10_wave, isIn_eq, in_eq, Option.bind_some, if_b]
  by_cases c : (1 : Int32) ≤ x ∧ x ≤ 12
  · obtain ⟨cnt, hcnt, rfl⟩ := ixL 12 (by decide) (by
      have := Int32.le_iff_toInt_le.mp c.1
      rw [Int32.le_iff_toInt_le]
      have e0 : (0 : Int32).toInt = 0 := by decide
      have e1 : (1 : Int32).toInt = 1 := by decide
      omega) c.2
    simp only [if_pos c]
    obtain ⟨Dc, a1, a2, a3⟩ := p_copyState (D := D) (b := 1) (b1 := 0) (by decide)
    have hZ : Eqx ZQ D Dc := a3.mono (fun k b w => Or.inr ⟨w.1, Or.inl w.2⟩)
    have hIc : Inv Dc := Inv_q h hZ EqR.rf
    have ec : Dc 33 0 = D 33 0 := hZ 33 0 (by simp [ZQ])
    obtain ⟨⟨r, D1⟩, b1, b2⟩ := p_wvC (cnt := cnt) hIc ec (a2 _ h.2.1) hcnt
    have e1 : D1 33 0 = D 33 0 := by
      rcases b2 with ⟨_, _, _, q⟩ | ⟨_, _, _, _, _, _, _, _, _, _, q⟩
      · exact q
      · exact q
    have hk36 : ∀ j, j < 170 → rowD D1 36 0 (cpM (D1 36 0) (D1 33 0) 170) 36 0 j = D 33 0 j := fun j hj => by
      rw [rowD_at, cpM_lt hj, e1]
    have hk33 : rowD D1 36 0 (cpM (D1 36 0) (D1 33 0) 170) 33 0 = D 33 0 := by rw [rowD_ne _ _ (by omega)]; exact e1
    obtain ⟨⟨r2, E2⟩, c1, c2, c3, c4, c5⟩ := p_wvR (cnt := cnt) h.1 hk33 hk36 hcnt
    simp only at c2 c3 c4 c5
    have hhi := p_highest hk36 h.1.2.1 (65536 : Int32)
    have hW1 : EqW JR D1 E2 := (EqW.row (Or.inr rfl)).tr c5
    obtain ⟨i1, i2, i3, i4⟩ := IW_all (cnt := cnt) h.1 12
    rcases b2 with ⟨q1, q2, q3, q4⟩ | ⟨q1, q2, E, Dk, q3, q4, q5, q6, q7, q8, q9⟩
    · simp only at q2 q3
      refine ⟨-2, D1, E2, ?_, ?_, Inv_w q3 hW1 (fun j hj => by rw [c3, i3 q1, e1])⟩
      · rw [a1, Option.bind_some, b1, q2]
      · rw [p_keepsApart, Option.bind_some, hhi, Option.bind_some, c1, Option.bind_some]
        simp only
        rw [c2, q1, if_pos (by decide)]
    · simp only at q2 q7 q8
      obtain ⟨D2, z1, z2, D22, D23, z3, z4, z5, _⟩ := ex_note q3 q4 q5 q6 q7 q8 hW1 c3 c4 i1
      refine ⟨nI (itW (D 33 0) cnt 12).1, D1, D2, ?_, ?_, z2⟩
      · rw [a1, Option.bind_some, b1, q2]
      · rw [p_keepsApart, Option.bind_some, hhi, Option.bind_some, c1, Option.bind_some]
        simp only
        rw [c2, if_z (by omega), if_neg q1, z3, Option.bind_some, z4, Option.bind_some, z5, Option.bind_some]
  · simp only [if_neg c]
    exact ⟨-1, D, D, rfl, rfl, h⟩
