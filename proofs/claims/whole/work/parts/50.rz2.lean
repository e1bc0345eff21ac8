/-! resize, the call -/
theorem rz_fin {D : Dt} {n B m : Nat} (h : Inv D) (hn : n < 12) (hB : B < 65536) (hG : GeoS (pcM (D 33 0) n (nI B) (nI m))) : ∃ D1 D2, (f_X1_keep 0 D).bind (fun D10 => (f_X5_putCurrent 0 (nI n) (nI B) (nI m) D10).bind (fun D11 => some (nI B, D11))) = some (nI B, D1) ∧ D1 33 0 = D 33 0 ∧ (f_X10_note D1).bind (fun D10 => wr D10 33 0 170 (nI (14 + 5 * n)) (nI B) (fun D11 => wr D11 33 0 170 (nI (14 + 5 * n) + (1 : Int32)) (nI m) (fun D12 => some (nI B, D12)))) = some (nI B, D2) ∧ Inv D2 := by
  obtain ⟨Dk, k1, k2, k3, k4, k5, k6⟩ := cls_keep h
  have hE : Eqx ZC Dk (updD (updD Dk 4 0 n (nI B)) 5 0 n (nI m)) := (Eqx.upd (by simp [ZC])).tr (Eqx.upd (by simp [ZC]))
  have e33 : updD (updD Dk 4 0 n (nI B)) 5 0 n (nI m) 33 0 = D 33 0 := by rw [updD_other _ _ _ (by omega), updD_other _ _ _ (by omega)]; exact k6
  obtain ⟨Dn, d1, d2, d3, d4⟩ := ref_note k2 hE EqR.rf e33
  refine ⟨updD (updD Dk 4 0 n (nI B)) 5 0 n (nI m), rowD Dn 33 0 (pcM (D 33 0) n (nI B) (nI m)), ?_, e33, ?_, fin_m h k3 k4 hE EqR.rf d3 d2 E33.row ?_ ?_⟩
  · rw [k1, Option.bind_some, p_putCurrent hn, Option.bind_some]
  · rw [d1, Option.bind_some, wr_at rfl (show 14 + 5 * n < 170 by omega) (by decide), nI_1, wr_at rfl (show 14 + 5 * n + 1 < 170 by omega) (by decide), updD_row Dn 33 0, rowD_upd, d4]
    rfl
  · rw [rowD_at]
    exact ⟨TimS_pc h.1.1 hn, hG, HoS_pc h.1.2.2 hn hB⟩
  · rw [rowD_at]
    exact RelS_pc k5 hn
theorem rz_two {D : Dt} {n g0 m : Nat} (h : Inv D) (hn : n < 12) (hg0 : g0 < 65536) (hm : m ≤ 16) (hG : GeoS (pcM (D 33 0) n (nI (g0 - g0 % zz m)) (nI m))) : ∃ r D1 D2, (f_X2_newLeasesFit 0 (nI n) (nI (g0 - g0 % zz m)) (nI m) D).bind (fun o9 => if o9 = 0 then (some ((-2 : Int32), D)) else ((f_X1_keep 0 D).bind (fun D10 => (f_X5_putCurrent 0 (nI n) (nI (g0 - g0 % zz m)) (nI m) D10).bind (fun D11 => some (nI (g0 - g0 % zz m), D11))))) = some (r, D1) ∧ D1 33 0 = D 33 0 ∧ lp (l_X10_resize_116 (nI n) (nI m) D1 (nI (14 + 5 * n)) (nI g0) (nI g0) (nI (zz m))) FU (0 : Int32) = some (r, D2) ∧ Inv D2 := by
  have hB : g0 - g0 % zz m < 65536 := by omega
  obtain ⟨E1, E2, z1, z2, z3, z4⟩ := rz_fin h hn hB hG
  rw [p_newLeasesFit h.2.1.2.2 _ hB hm, Option.bind_some, b01_0]
  by_cases c : anyB (unf (D 33 0) (nI n) (g0 - g0 % zz m) m) 16 = true
  · rw [c]
    obtain ⟨F1, F2, y1, y2, y3, y4⟩ := rz_fin h hn hB hG
    refine ⟨-2, D, D, rfl, rfl, ?_, h⟩
    -- the reference's end need not be reached
    have key : ∃ e, lp (l_X10_resize_116 (nI n) (nI m) D (nI (14 + 5 * n)) (nI g0) (nI g0) (nI (zz m))) FU (0 : Int32) = some e ∧ e = ((-2 : Int32), D) := by
      have hz := zz_pos m
      have hzl := zz_le m
      have hle := Nat.mod_le g0 (zz m)
      have eB : nI g0 - (nI g0 - nI g0 / nI (zz m) * nI (zz m)) = nI (g0 - g0 % zz m) := by
        rw [pk_rem (by omega) hz (by omega), pk_sub hle]
      apply lp_n (fun i t => t = nI i ∧ anyB (unf (D 33 0) (nI n) (g0 - g0 % zz m) m) i = false) _ 16
      · exact ⟨rfl, rfl⟩
      · decide
      · rintro i t hi ⟨rfl, hf⟩
        have hi2 : i < 16 := by
          rcases Nat.lt_or_ge i 16 with w | w
          · exact w
          · rw [show i = 16 by omega, c] at hf
            cases hf
        simp only [l_X10_resize_116, eB]
        rw [if_neg (g16 hi2)]
        simp only [p_X10_hostAt, Option.bind_some, show (2 : Int32) = nI 2 from rfl, nI_add, rd_at rfl (show 74 + 6 * i < 170 by omega) (show 170 < 2 ^ 31 by decide), rd_at rfl (show 74 + 6 * i + 2 < 170 by omega) (show 170 < 2 ^ 31 by decide), nn_lt (h.1.2.2.nn2 hi2), p_X10_canLease hB hm, b01_0, nI_1]
        have ok : unf (D 33 0) (nI n) (g0 - g0 % zz m) m i = false → (i < 16 ∧ ∃ t, some (Sum.inl (nI (i + 1)) : Int32 ⊕ (Int32 × Dt)) = some (Sum.inl t) ∧ t = nI (i + 1) ∧ anyB (unf (D 33 0) (nI n) (g0 - g0 % zz m) m) (i + 1) = false) := fun q => ⟨hi2, _, rfl, rfl, by simp only [anyB, hf, q, Bool.or_false]⟩
        by_cases c1 : D 33 0 (74 + 6 * i) = nI n
        · rw [if_pos c1]
          by_cases c2 : D 33 0 (74 + 6 * i + 2) = -1
          · rw [if_pos c2]
            exact Or.inl (ok (by simp [unf, c2]))
          · rw [if_neg c2]
            by_cases c3 : clB (g0 - g0 % zz m) m (D 33 0 (74 + 6 * i + 2)) = true
            · rw [if_pos c3]
              exact Or.inl (ok (by simp [unf, c3]))
            · right
              rw [if_neg c3]
              exact ⟨_, rfl, rfl⟩
        · rw [if_neg c1]
          exact Or.inl (ok (by simp [unf, c1]))
    obtain ⟨e, k1, k2⟩ := key
    rw [k1, k2]
  · rw [Bool.eq_false_iff.mpr c]
    refine ⟨nI (g0 - g0 % zz m), E1, E2, z1, z2, ?_, z4⟩
    have := p_rz116 (x := nI n) z2 h.1.2.2 hg0 hm z3
    rw [this, if_neg c]
theorem ok_resize : ∀ (x1 x2 : Int32) (D : Dt), Inv D → ∃ (r : Int32) (D1 D2 : Dt), f_X9_resize x1 x2 D = some (r, D1) ∧ f_X10_resize x1 x2 D1 = some (r, D2) ∧ Inv D2 := by
  intro x y D h
  simp only [f_X9_resize, f_X10_resize, isIn_eq, in_eq, isNetwork_eq, X10_isNet, Option.bind_some, if_b]
  by_cases c : (0 : Int32) ≤ x ∧ x < 12
  · obtain ⟨n, hn, rfl⟩ := ixN 12 (by decide) c.1 c.2
    simp only [if_pos c, p_X10_net, Option.bind_some]
    by_cases c2 : (5 : Int32) ≤ y ∧ y ≤ 16
    · obtain ⟨m, rfl, h5, h16⟩ := arg5 c2
      simp only [if_pos c2]
      by_cases c3 : D 33 0 (14 + 5 * n) = -1
      · refine ⟨-2, D, D, ?_, ?_, h⟩
        · rw [hasBlock_s h.2.1.2.1 hn, Option.bind_some, if_b', if_pos c3]
        · rw [X10_hasBlock rfl h.1.2.1 hn, Option.bind_some, if_b', if_pos c3]
      · obtain ⟨N, po, us, hV, hP, hGe⟩ := h.1.2.1
        have v1 := hV (2 * n) (by omega)
        rw [bix_e] at v1
        cases hu : us (2 * n) with
        | none =>
          rw [hu] at v1
          exact absurd v1 c3
        | some q =>
          obtain ⟨g0, l0⟩ := q
          rw [hu] at v1
          obtain ⟨o1, o2, o3, o4⟩ := v1
          simp only at o1 o2 o3 o4
          obtain ⟨b1, b2, b3, p0, b4, b5, b6⟩ := hGe.2.2.2.1 (2 * n) g0 l0 (by omega) hu
          have hA := hGe.2.2.2.2
          obtain ⟨w0, w2, w1, w3⟩ := h.2.1.2.1.2.2.2 n hn
          have e4 : D 4 0 n = nI g0 := w0.trans o1
          have e5 : D 5 0 n = nI l0 := (w1 c3).trans o2
          have z0 := zz_pos m
          have hzl := zz_le m
          have hle := Nat.mod_le g0 (zz m)
          have hB : g0 - g0 % zz m < 65536 := by omega
          have hBa : (g0 - g0 % zz m) % zz m = 0 := Nat.mod_eq_zero_of_dvd (Nat.dvd_sub_mod _)
          have hBlt : g0 < g0 - g0 % zz m + zz m := by
            have := Nat.mod_lt g0 z0
            omega
          have eB : nI g0 - (nI g0 - nI g0 / nI (zz m) * nI (zz m)) = nI (g0 - g0 % zz m) := by
            rw [pk_rem (by omega) z0 (by omega), pk_sub hle]
          have mkG : ∀ p, p < N → (po p).1 ≤ g0 - g0 % zz m → g0 - g0 % zz m + zz m ≤ (po p).1 + zz (po p).2 → (∀ k g' l', k < 24 → k ≠ 2 * n → us k = some (g', l') → g0 - g0 % zz m + zz m ≤ g' ∨ g' + zz l' ≤ g0 - g0 % zz m) → GeoS (pcM (D 33 0) n (nI (g0 - g0 % zz m)) (nI m)) := by
            intro p hp q1 q2 q3
            refine ⟨N, po, usX us (2 * n) (some (g0 - g0 % zz m, m)), ?_, PoR_ext hP hGe.1 (fun j j1 j2 => pcM_ne (by omega) (by omega)), Geo_set hGe h5 h16 hBa hp q1 q2 q3⟩
            have := RV_set hV (show 2 * n < 24 by omega) hB h16
            rw [bix_e] at this
            exact this
          by_cases c4 : l0 = m
          · refine ⟨-2, D, D, ?_, ?_, h⟩
            · rw [hasBlock_s h.2.1.2.1 hn, Option.bind_some, if_b', if_neg c3, rd_at rfl hn (by decide), e5, if_pos (by rw [c4])]
            · rw [X10_hasBlock rfl h.1.2.1 hn, Option.bind_some, if_b', if_neg c3, nI_1, rd_at rfl (show 14 + 5 * n + 1 < 170 by omega) (by decide), o2, if_pos (by rw [c4])]
          · have n4 : ¬ nI l0 = nI m := fun q => c4 (nI_inj (by omega) (by omega) q)
            by_cases c5 : l0 ≤ m
            · -- smaller
              have hg0m : g0 % zz m = 0 := zz_mod c5 b3
              have hzm := zz_mono c5
              have hGn := mkG p0 b4 (by omega) (by omega) (fun k g' l' hk hne hk2 => by
                have := hA (2 * n) k g0 l0 g' l' (by omega) hk (fun q => hne q.symm) hu hk2
                omega)
              obtain ⟨r, D1, D2, y1, y2, y3, y4⟩ := rz_two h hn o3 h16 hGn
              refine ⟨r, D1, D2, ?_, ?_, y4⟩
              · rw [hasBlock_s h.2.1.2.1 hn, Option.bind_some, if_b', if_neg c3, rd_at rfl hn (by decide), e5, if_neg n4, rd_at rfl hn (by decide), e4, sizeOf_eq h16, Option.bind_some, rd_at rfl hn (by decide), e5, if_pos (nI_le c5 (by omega)), j_X9_resize_95_t8, if_pos rfl, and_neg h16]
                exact y1
              · rw [X10_hasBlock y2 h.1.2.1 hn, Option.bind_some, if_b', if_neg c3]
                simp only [nI_1, rd_at rfl (show 14 + 5 * n < 170 by omega) (show 170 < 2 ^ 31 by decide), rd_at rfl (show 14 + 5 * n + 1 < 170 by omega) (show 170 < 2 ^ 31 by decide), y2, o1, o2]
                rw [if_neg n4, size_eq h16, Option.bind_some, gd_z, if_pos (nI_le c5 (by omega))]
                exact y3
            · -- greater
              have hn5 : ¬ nI l0 ≤ nI m := nI_ge (by omega) (by omega)
              have hin : g0 + zz l0 ≤ g0 - g0 % zz m + zz m := nest_in (by omega) hBa b3 hBlt
              have hbk := sov_bdk (K := 2 * n) (g := g0 - g0 % zz m) (m := m) (by omega) hu (by omega) hin
              have hpq := inPQ hGe h16 hBa
              have hsl := sov_le us (g0 - g0 % zz m) (g0 - g0 % zz m + zz m) 24
              have hz0 := zz_le l0
              have cc : f_X5_canCover 0 (nI n) (nI (g0 - g0 % zz m)) (nI m) D = some (if anyB (inQ po (g0 - g0 % zz m) m) N = true then b01 (!anyB (bdk us (2 * n) (g0 - g0 % zz m) m) 24) else 0) := by
                rw [f_X5_canCover, p_cc6 (h.2.1.2.1.pov hP hGe.1) hGe.1 hGe.pob hB h16, Option.bind_some, b01_0, hpq, p_cc81 (h.2.1.2.1.spv hV) hn hB h16]
                by_cases v : anyB (inQ po (g0 - g0 % zz m) m) N = true
                · rw [if_pos v, if_pos v]
                · rw [if_neg v, if_neg v]
              have l22 : l_X10_resize_116_22 = l_X10_resize_116 := rfl
              have refH : ∀ E, E 33 0 = D 33 0 → (f_X10_isInPool (nI (g0 - g0 % zz m)) (nI m) E).bind (fun o18 => if o18 = 0 then (some ((-2 : Int32), E)) else ((f_X10_assignedIn (nI (g0 - g0 % zz m)) (nI m) E).bind (fun o19 => (f_X10_size (nI l0) E).bind (fun o21 => if o19 ≤ o21 then (lp (l_X10_resize_116 (nI n) (nI m) E (nI (14 + 5 * n)) (nI g0) (nI g0) (nI (zz m))) FU (0 : Int32)) else (some ((-2 : Int32), E)))))) = if anyB (inQ po (g0 - g0 % zz m) m) N = true then (if anyB (bdk us (2 * n) (g0 - g0 % zz m) m) 24 = true then some (-2, E) else lp (l_X10_resize_116 (nI n) (nI m) E (nI (14 + 5 * n)) (nI g0) (nI g0) (nI (zz m))) FU (0 : Int32)) else some (-2, E) := by
                intro E e
                rw [p_isInPool (by rw [e]; exact hP) hGe.1 hGe.pob hB h16, Option.bind_some, b01_0, p_assignedIn (us := us) (by rw [e]; exact hV) (by omega) h16, Option.bind_some, size_eq o4, Option.bind_some, if_le (by omega) (by omega)]
                by_cases v : anyB (inQ po (g0 - g0 % zz m) m) N = true
                · rw [if_pos v, if_pos v]
                  by_cases v2 : anyB (bdk us (2 * n) (g0 - g0 % zz m) m) 24 = true
                  · rw [if_pos v2, if_neg (fun q => by rw [hbk.mp q] at v2; cases v2)]
                  · rw [if_neg v2, if_pos (hbk.mpr (Bool.eq_false_iff.mpr v2))]
                · rw [if_neg v, if_neg v]
              by_cases v : anyB (inQ po (g0 - g0 % zz m) m) N = true ∧ ¬ anyB (bdk us (2 * n) (g0 - g0 % zz m) m) 24 = true
              · obtain ⟨va, vb⟩ := v
                obtain ⟨p, pp1, pp2⟩ := (anyB_iff N).mp va
                simp only [inQ, Bool.and_eq_true, decide_eq_true_eq] at pp2
                have hGn := mkG p pp1 pp2.1 pp2.2 (fun k g' l' hk hne hk2 => by
                  have hb : ¬ bdk us (2 * n) (g0 - g0 % zz m) m k = true := fun q => vb (anyB_mono hk q)
                  rw [bdk_ne hne, hk2, ovO_s] at hb
                  have k3 : ovl (g', l') (g0 - g0 % zz m) m = true ↔ g' < g0 - g0 % zz m + zz m ∧ g0 - g0 % zz m < g' + zz l' := by simp [ovl]
                  rw [k3] at hb
                  omega)
                obtain ⟨r, D1, D2, y1, y2, y3, y4⟩ := rz_two h hn o3 h16 hGn
                refine ⟨r, D1, D2, ?_, ?_, y4⟩
                · rw [hasBlock_s h.2.1.2.1 hn, Option.bind_some, if_b', if_neg c3, rd_at rfl hn (by decide), e5, if_neg n4, rd_at rfl hn (by decide), e4, sizeOf_eq h16, Option.bind_some, rd_at rfl hn (by decide), e5, if_neg hn5, j_X9_resize_95_t8, if_neg (by decide), and_neg h16, cc, if_pos va, Bool.eq_false_iff.mpr vb, Option.bind_some, if_neg (show ¬ b01 (!false) = 0 by decide)]
                  exact y1
                · rw [X10_hasBlock y2 h.1.2.1 hn, Option.bind_some, if_b', if_neg c3]
                  simp only [nI_1, rd_at rfl (show 14 + 5 * n < 170 by omega) (show 170 < 2 ^ 31 by decide), rd_at rfl (show 14 + 5 * n + 1 < 170 by omega) (show 170 < 2 ^ 31 by decide), y2, o1, o2]
                  rw [if_neg n4, size_eq h16, Option.bind_some, gd_z, if_neg hn5, eB, l22, refH D1 y2, if_pos va, if_neg vb]
                  exact y3
              · refine ⟨-2, D, D, ?_, ?_, h⟩
                · rw [hasBlock_s h.2.1.2.1 hn, Option.bind_some, if_b', if_neg c3, rd_at rfl hn (by decide), e5, if_neg n4, rd_at rfl hn (by decide), e4, sizeOf_eq h16, Option.bind_some, rd_at rfl hn (by decide), e5, if_neg hn5, j_X9_resize_95_t8, if_neg (by decide), and_neg h16, cc, Option.bind_some]
                  by_cases va : anyB (inQ po (g0 - g0 % zz m) m) N = true
                  · have vb : anyB (bdk us (2 * n) (g0 - g0 % zz m) m) 24 = true := by
                      apply Classical.byContradiction
                      intro q
                      exact v ⟨va, q⟩
                    rw [if_pos va, vb, if_pos (show b01 (!true) = 0 by decide)]
                  · rw [if_neg va, if_pos rfl]
                · rw [X10_hasBlock rfl h.1.2.1 hn, Option.bind_some, if_b', if_neg c3]
                  simp only [nI_1, rd_at rfl (show 14 + 5 * n < 170 by omega) (show 170 < 2 ^ 31 by decide), rd_at rfl (show 14 + 5 * n + 1 < 170 by omega) (show 170 < 2 ^ 31 by decide), o1, o2]
                  rw [if_neg n4, size_eq h16, Option.bind_some, gd_z, if_neg hn5, eB, l22, refH D rfl]
                  by_cases va : anyB (inQ po (g0 - g0 % zz m) m) N = true
                  · have vb : anyB (bdk us (2 * n) (g0 - g0 % zz m) m) 24 = true := by
                      apply Classical.byContradiction
                      intro q
                      exact v ⟨va, q⟩
                    rw [if_pos va, if_pos vb]
                  · rw [if_neg va]
    · simp only [if_neg c2]
      exact ⟨-1, D, D, rfl, rfl, h⟩
  · simp only [if_neg c]
    exact ⟨-1, D, D, rfl, rfl, h⟩
