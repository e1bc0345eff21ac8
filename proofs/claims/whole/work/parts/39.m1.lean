/-! addHost, removeHost -/
def hoC (s : Nat → Int32) (h : Nat) : Prop := (s (74 + 6 * h) = -1 ∨ ∃ n, n < 12 ∧ s (74 + 6 * h) = nI n ∧ s (14 + 5 * n) ≠ -1 ∧ (s (74 + 6 * h + 1) = 0 ∨ s (74 + 6 * h + 1) = 1)) ∧ (s (74 + 6 * h + 2) = -1 ∨ ∃ a u, a < 65536 ∧ u < 10999 ∧ s (74 + 6 * h + 2) = nI a ∧ s (74 + 6 * h + 3) = nI u) ∧ (s (74 + 6 * h + 4) = -1 ∨ ((∃ a u, a < 65536 ∧ u < 10999 ∧ s (74 + 6 * h + 4) = nI a ∧ s (74 + 6 * h + 5) = nI u) ∧ ∃ n, n < 12 ∧ s (74 + 6 * h) = nI n ∧ s (14 + 5 * n + 2) ≠ -1))
theorem hoC_ext {s s' : Nat → Int32} {i : Nat} (h : hoC s i) (hb : ∀ j, 14 ≤ j → j < 74 → s' j = s j) (e : ∀ q, q < 6 → s' (74 + 6 * i + q) = s (74 + 6 * i + q)) : hoC s' i := by
  have e0 := e 0 (by decide)
  have e1 := e 1 (by decide)
  have e2 := e 2 (by decide)
  have e3 := e 3 (by decide)
  have e4 := e 4 (by decide)
  have e5 := e 5 (by decide)
  rw [Nat.add_zero] at e0
  obtain ⟨h1, h2, h3⟩ := h
  unfold hoC
  rw [e0, e1, e2, e3, e4, e5]
  refine ⟨?_, h2, ?_⟩
  · rcases h1 with w | ⟨n, w1, w2, w3, w4⟩
    · exact Or.inl w
    · exact Or.inr ⟨n, w1, w2, by rw [hb (14 + 5 * n) (by omega) (by omega)]; exact w3, w4⟩
  · rcases h3 with w | ⟨w0, n, w1, w2, w3⟩
    · exact Or.inl w
    · exact Or.inr ⟨w0, n, w1, w2, by rw [hb (14 + 5 * n + 2) (by omega) (by omega)]; exact w3⟩
theorem HoS_upd {s s' : Nat → Int32} {k : Nat} (h : HoS s) (hb : ∀ j, 14 ≤ j → j < 74 → s' j = s j) (e : ∀ i q, i < 16 → i ≠ k → q < 6 → s' (74 + 6 * i + q) = s (74 + 6 * i + q)) (hk : hoC s' k) : HoS s' := by
  intro i hi
  by_cases w : i = k
  · rw [w]; exact hk
  · exact hoC_ext (h i hi) hb (fun q hq => e i q hi w hq)
theorem ok_addHost : ∀ (x1 x2 x3 : Int32) (D : Dt), Inv D → ∃ (r : Int32) (D1 D2 : Dt), f_X9_addHost x1 x2 x3 D = some (r, D1) ∧ f_X10_addHost x1 x2 x3 D1 = some (r, D2) ∧ Inv D2 := by
  intro x y z D h
  simp only [f_X9_addHost, f_X10_addHost, isIn_eq, in_eq, isHost_eq, X10_isHost, isNetwork_eq, X10_isNet, Option.bind_some, if_b]
  by_cases c : (0 : Int32) ≤ x ∧ x < 16
  · obtain ⟨i, hi, rfl⟩ := ixN 16 (by decide) c.1 c.2
    simp only [if_pos c]
    by_cases c2 : (0 : Int32) ≤ y ∧ y < 12
    · obtain ⟨n, hn, rfl⟩ := ixN 12 (by decide) c2.1 c2.2
      simp only [if_pos c2]
      by_cases c3 : (0 : Int32) ≤ z ∧ z ≤ 1
      · obtain ⟨q, hq, rfl⟩ := ixL 1 (by decide) c3.1 c3.2
        simp only [if_pos c3, p_X10_hostAt, Option.bind_some]
        by_cases c4 : D 33 0 (74 + 6 * i) = -1
        · by_cases c5 : D 33 0 (14 + 5 * n) = -1
          · refine ⟨-2, D, D, ?_, ?_, h⟩
            · rw [isMember_s h.2.1.2.2 hi, Option.bind_some, if_b', if_pos c4, hasBlock_s h.2.1.2.1 hn, Option.bind_some, if_b', if_pos c5]
            · rw [rd_at rfl (show 74 + 6 * i < 170 by omega) (by decide), nn_ge (h.1.2.2.nn0 hi), if_pos c4, X10_hasBlock rfl h.1.2.1 hn, Option.bind_some, if_b', if_pos c5]
          · obtain ⟨Dk, a1, a2, a3, a4, a5, a6⟩ := cls_keep h
            have hE : Eqx ZC Dk (updD (updD Dk 10 0 i (nI n)) 11 0 i (nI q)) := (Eqx.upd (by simp [ZC])).tr (Eqx.upd (by simp [ZC]))
            have e33 : updD (updD Dk 10 0 i (nI n)) 11 0 i (nI q) 33 0 = D 33 0 := by rw [updD_other _ _ _ (by omega), updD_other _ _ _ (by omega)]; exact a6
            obtain ⟨Dn, b1, b2, b3, b4⟩ := ref_note a2 hE EqR.rf e33
            have hRel : RelS (updD (updD Dk 10 0 i (nI n)) 11 0 i (nI q)) 0 (upd (upd (D 33 0) (74 + 6 * i) (nI n)) (74 + 6 * i + 1) (nI q)) := by
              obtain ⟨r1, r2, r3⟩ := a5
              refine ⟨r1.fx (by rw [updD_other _ _ _ (by omega), updD_other _ _ _ (by omega)]) (by rw [pk_un (by omega), pk_un (by omega)]) (by rw [pk_un (by omega), pk_un (by omega)]) (by rw [pk_un (by omega), pk_un (by omega)]) (by rw [pk_un (by omega), pk_un (by omega)]), r2.fx (fun k k1 k2 => by rw [updD_other _ _ _ (by omega), updD_other _ _ _ (by omega)]) (fun j j1 j2 _ => by rw [pk_un (by omega), pk_un (by omega)]), ?_⟩
              intro m hm
              obtain ⟨w0, w2, w4, w1, w3, w5⟩ := r3 m hm
              simp only [updD, upd]
              grind (splits := 20)
            refine ⟨mofI (upd (upd (D 33 0) (74 + 6 * i) (nI n)) (74 + 6 * i + 1) (nI q)) (nI n), updD (updD Dk 10 0 i (nI n)) 11 0 i (nI q), rowD Dn 33 0 (upd (upd (D 33 0) (74 + 6 * i) (nI n)) (74 + 6 * i + 1) (nI q)), ?_, ?_, fin_m h a3 a4 hE EqR.rf b3 b2 E33.row ?_ ?_⟩
            · rw [isMember_s h.2.1.2.2 hi, Option.bind_some, if_b', if_pos c4, hasBlock_s h.2.1.2.1 hn, Option.bind_some, if_b', if_neg c5, a1, Option.bind_some, f_X2_enrol, wr_at rfl hi (by decide), wr_at rfl hi (by decide), Option.bind_some, p_membersOf hRel.2.2, Option.bind_some]
            · rw [rd_at rfl (show 74 + 6 * i < 170 by omega) (by decide), e33, nn_ge (h.1.2.2.nn0 hi), if_pos c4, X10_hasBlock e33 h.1.2.1 hn, Option.bind_some, if_b', if_neg c5, b1, Option.bind_some, wr_at rfl (show 74 + 6 * i < 170 by omega) (by decide), nI_1, wr_at rfl (show 74 + 6 * i + 1 < 170 by omega) (by decide), updD_row Dn 33 0, rowD_upd, b4, p_hostsOf (rowD_at _ _ _ _), Option.bind_some]
            · rw [rowD_at]
              obtain ⟨g1, g2, g3⟩ := h.1
              refine ⟨TimS_ext g1 (fun j j1 => by rw [pk_un (by omega), pk_un (by omega)]), GeoS_ext g2 (fun j j1 j2 => by rw [pk_un (by omega), pk_un (by omega)]), HoS_upd (k := i) g3 (fun j j1 j2 => by rw [pk_un (by omega), pk_un (by omega)]) (fun m p m1 m2 m3 => by rw [pk_un (by omega), pk_un (by omega)]) ?_⟩
              obtain ⟨k1, k2, k3⟩ := g3 i hi
              refine ⟨Or.inr ⟨n, hn, by rw [pk_un (by omega), pk_us], by rw [pk_un (by omega), pk_un (by omega)]; exact c5, ?_⟩, ?_, Or.inl ?_⟩
              · rw [pk_us]
                rcases (show q = 0 ∨ q = 1 by omega) with rfl | rfl
                · exact Or.inl rfl
                · exact Or.inr rfl
              · rw [pk_un (by omega), pk_un (by omega), pk_un (by omega), pk_un (by omega)]
                exact k2
              · rw [pk_un (by omega), pk_un (by omega)]
                rcases k3 with w | ⟨_, m, w1, w2, _⟩
                · exact w
                · rw [c4] at w2
                  exact absurd w2.symm (nI_nm1 (by omega))
            · rw [rowD_at]
              exact hRel
        · refine ⟨-2, D, D, ?_, ?_, h⟩
          · rw [isMember_s h.2.1.2.2 hi, Option.bind_some, if_b', if_neg c4]
          · rw [rd_at rfl (show 74 + 6 * i < 170 by omega) (by decide), nn_ge (h.1.2.2.nn0 hi), if_neg c4]
      · simp only [if_neg c3]
        exact ⟨-1, D, D, rfl, rfl, h⟩
    · simp only [if_neg c2]
      exact ⟨-1, D, D, rfl, rfl, h⟩
  · simp only [if_neg c]
    exact ⟨-1, D, D, rfl, rfl, h⟩
def lvM (s : Nat → Int32) (i : Nat) : Nat → Int32 := upd (upd (upd s (74 + 6 * i) (-1)) (74 + 6 * i + 2) (-1)) (74 + 6 * i + 4) (-1)
theorem lvM_ne {s : Nat → Int32} {i j : Nat} (h0 : j ≠ 74 + 6 * i) (h2 : j ≠ 74 + 6 * i + 2) (h4 : j ≠ 74 + 6 * i + 4) : lvM s i j = s j := by
  rw [lvM, pk_un h4, pk_un h2, pk_un h0]
theorem lvM_C (s : Nat → Int32) (i : Nat) : hoC (lvM s i) i := by
  refine ⟨Or.inl ?_, Or.inl ?_, Or.inl ?_⟩
  · rw [lvM, pk_un (by omega), pk_un (by omega), pk_us]
  · rw [lvM, pk_un (by omega), pk_us]
  · rw [lvM, pk_us]
theorem RelH_lv {D : Dt} {b i : Nat} {s : Nat → Int32} (h : RelH D b s) : RelH (updD (updD (updD D 10 b i (-1)) 12 b i (-1)) 14 b i (-1)) b (lvM s i) := by
  intro m hm
  obtain ⟨w0, w2, w4, w1, w3, w5⟩ := h m hm
  simp only [updD, upd, lvM]
  grind (splits := 30)
theorem RelS_lv {D : Dt} {b i : Nat} {s : Nat → Int32} (h : RelS D b s) : RelS (updD (updD (updD D 10 b i (-1)) 12 b i (-1)) 14 b i (-1)) b (lvM s i) := by
  obtain ⟨r1, r2, r3⟩ := h
  refine ⟨r1.fx (by rw [updD_other _ _ _ (by omega), updD_other _ _ _ (by omega), updD_other _ _ _ (by omega)]) (lvM_ne (by omega) (by omega) (by omega)) (lvM_ne (by omega) (by omega) (by omega)) (lvM_ne (by omega) (by omega) (by omega)) (lvM_ne (by omega) (by omega) (by omega)), r2.fx (fun k k1 k2 => by rw [updD_other _ _ _ (by omega), updD_other _ _ _ (by omega), updD_other _ _ _ (by omega)]) (fun j j1 j2 _ => lvM_ne (by omega) (by omega) (by omega)), RelH_lv r3⟩
theorem p_leaves {E : Dt} {s : Nat → Int32} {j : Nat} (hj : j < 16) : f_X10_leaves (nI j) (rowD E 33 0 s) = some (rowD E 33 0 (lvM s j)) := by
  rw [p_X10_leaves _ hj, rowD_at, rowD_2]
  rfl
theorem ok_removeHost : ∀ (x1 : Int32) (D : Dt), Inv D → ∃ (r : Int32) (D1 D2 : Dt), f_X9_removeHost x1 D = some (r, D1) ∧ f_X10_removeHost x1 D1 = some (r, D2) ∧ Inv D2 := by
  intro x D h
  simp only [f_X9_removeHost, f_X10_removeHost, isHost_eq, X10_isHost, Option.bind_some, if_b]
  by_cases c : (0 : Int32) ≤ x ∧ x < 16
  · obtain ⟨i, hi, rfl⟩ := ixN 16 (by decide) c.1 c.2
    simp only [if_pos c, p_X10_hostAt, Option.bind_some]
    by_cases c4 : D 33 0 (74 + 6 * i) = -1
    · refine ⟨-2, D, D, ?_, ?_, h⟩
      · rw [isMember_s h.2.1.2.2 hi, Option.bind_some, if_b', if_pos c4]
      · rw [rd_at rfl (show 74 + 6 * i < 170 by omega) (by decide), nn_ge (h.1.2.2.nn0 hi), if_pos c4]
    · obtain ⟨Dk, a1, a2, a3, a4, a5, a6⟩ := cls_keep h
      have hE : Eqx ZC Dk (updD (updD (updD Dk 10 0 i (-1)) 12 0 i (-1)) 14 0 i (-1)) := ((Eqx.upd (by simp [ZC])).tr (Eqx.upd (by simp [ZC]))).tr (Eqx.upd (by simp [ZC]))
      have e33 : updD (updD (updD Dk 10 0 i (-1)) 12 0 i (-1)) 14 0 i (-1) 33 0 = D 33 0 := by rw [updD_other _ _ _ (by omega), updD_other _ _ _ (by omega), updD_other _ _ _ (by omega)]; exact a6
      obtain ⟨Dn, b1, b2, b3, b4⟩ := ref_note a2 hE EqR.rf e33
      refine ⟨lhI (D 33 0) i, updD (updD (updD Dk 10 0 i (-1)) 12 0 i (-1)) 14 0 i (-1), rowD Dn 33 0 (lvM (D 33 0) i), ?_, ?_, fin_m h a3 a4 hE EqR.rf b3 b2 E33.row ?_ ?_⟩
      · rw [isMember_s h.2.1.2.2 hi, Option.bind_some, if_b', if_neg c4, a1, Option.bind_some, p_leasesHeld a5.2.2 hi, Option.bind_some, p_X2_dismiss _ hi, Option.bind_some]
      · have el : f_X10_leaves (nI i) Dn = some (rowD Dn 33 0 (lvM (D 33 0) i)) := by
          have := p_leaves (E := Dn) (s := D 33 0) hi
          rw [← b4, rowD_self, b4] at this
          exact this
        rw [rd_at rfl (show 74 + 6 * i < 170 by omega) (by decide), e33, nn_ge (h.1.2.2.nn0 hi), if_neg c4, b1, Option.bind_some, show (2 : Int32) = nI 2 from rfl, nI_add, rd_at rfl (show 74 + 6 * i + 2 < 170 by omega) (by decide), b4, nn_lt (h.1.2.2.nn2 hi)]
        simp only [j_X10_removeHost_46_t6]
        simp only [show (4 : Int32) = nI 4 from rfl, nI_add, rd_at rfl (show 74 + 6 * i + 4 < 170 by omega) (show 170 < 2 ^ 31 by decide), b4, nn_lt (h.1.2.2.nn4 hi), el, Option.bind_some]
        simp only [lhI]
        by_cases w : D 33 0 (74 + 6 * i + 2) = -1
        · rw [if_pos w, if_pos w]
          by_cases w2 : D 33 0 (74 + 6 * i + 4) = -1
          · rw [if_pos w2, if_pos w2]
          · rw [if_neg w2, if_neg w2]
        · rw [if_neg w, if_neg w]
          by_cases w2 : D 33 0 (74 + 6 * i + 4) = -1
          · rw [if_pos w2, if_pos w2]
          · rw [if_neg w2, if_neg w2]
      · rw [rowD_at]
        obtain ⟨g1, g2, g3⟩ := h.1
        exact ⟨TimS_ext g1 (fun j j1 => lvM_ne (by omega) (by omega) (by omega)), GeoS_ext g2 (fun j j1 j2 => lvM_ne (by omega) (by omega) (by omega)), HoS_upd (k := i) g3 (fun j j1 j2 => lvM_ne (by omega) (by omega) (by omega)) (fun m p m1 m2 m3 => lvM_ne (by omega) (by omega) (by omega)) (lvM_C _ _)⟩
      · rw [rowD_at]
        exact RelS_lv a5
  · simp only [if_neg c]
    exact ⟨-1, D, D, rfl, rfl, h⟩
