/-! undo; frames of a call that changes something -/
theorem p_giveBack {D : Dt} {c nx : Nat} (h2 : nx < 6) (hc : 0 < c) (hc6 : c ≤ 6) (h3 : D 24 0 1 = nI nx) (h4 : D 24 0 2 = nI c) : ∃ D', f_X1_giveBack 0 D = some D' ∧ D' 24 0 1 = nI ((nx + 5) % 6) ∧ D' 24 0 2 = nI (c - 1) ∧ (∀ s, RelS D (2 + (nx + 5) % 6) s → RelS D' 0 s) ∧ Eqx (fun k b => St 0 k b ∨ (k = 24 ∧ b = 0)) D D' := by
  obtain ⟨D1, a1, a2, a3⟩ := p_copyState (D := D) (b := 0) (b1 := 2 + (nx + 5) % 6) (by omega)
  have e24 : D1 24 0 = D 24 0 := a3 24 0 (fun w => by have := w.1; omega)
  have em : nI nx + (6 : Int32) - (1 : Int32) - (nI nx + (6 : Int32) - (1 : Int32)) / (6 : Int32) * (6 : Int32) = nI ((nx + 5) % 6) := by
    have : nI nx + (6 : Int32) - (1 : Int32) = nI (nx + 5) := by
      rw [show (6 : Int32) = nI 6 from rfl, nI_add]
      exact nI_pred (nx + 5)
    rw [this]
    exact mod6 (by omega)
  refine ⟨updD (updD D1 24 0 1 (nI ((nx + 5) % 6))) 24 0 2 (nI (c - 1)), ?_, by simp [updD_at], by simp [updD_at], fun s hs => ?_, ?_⟩
  · rw [f_X1_giveBack, gd_6, h3, em, letV, p_stateAt (by omega), Option.bind_some]
    simp only
    rw [decide_eq_true (show 2 ≤ 2 + (nx + 5) % 6 by omega), decide_eq_true (show 2 + (nx + 5) % 6 < 8 by omega), gd_tt, h4, if_neg (nI_nle hc (by omega)), a1, Option.bind_some]
    simp only [pu]
    have e2 : updD D1 24 0 1 (nI ((nx + 5) % 6)) 24 0 2 = nI c := by
      rw [updD_at, if_neg (by omega), e24, h4]
    rw [e2, show nI c - (1 : Int32) = nI (c - 1) from pk_sub (b := 1) (by omega)]
  · refine (a2 s hs).fr (fun k hk => ?_)
    rw [updD_other _ _ _ (by omega), updD_other _ _ _ (by omega)]
  · exact ((a3.mono (fun k b w => Or.inl w)).tr (Eqx.upd (Or.inr ⟨rfl, rfl⟩))).tr (Eqx.upd (Or.inr ⟨rfl, rfl⟩))
def cpM (s p : Nat → Int32) (n : Nat) : Nat → Int32 := fun j => if j < n then p j else s j
theorem cpM_s (s p : Nat → Int32) (n : Nat) : upd (cpM s p n) n (p n) = cpM s p (n + 1) := by
  funext j
  simp only [upd, cpM]
  by_cases w : j = n
  · rw [if_pos w, if_pos (by omega), w]
  · rw [if_neg w]
    by_cases w2 : j < n
    · rw [if_pos w2, if_pos (by omega)]
    · rw [if_neg w2, if_neg (by omega)]
theorem cpM_0 (s p : Nat → Int32) : cpM s p 0 = s := by
  funext j
  simp only [cpM]
  rw [if_neg (by omega)]
theorem p_un22 {E : Dt} {c : Nat} (hc : c < 6) (h32 : E 32 0 2 = nI c) : lp l_X10_undo_22 FU ((0 : Int32), E) = some (rowD E 33 0 (cpM (E 33 0) (pst E c) 170)) := by
  apply lp_to (fun i => (nI i, rowD E 33 0 (cpM (E 33 0) (pst E c) i))) 170
  · show (nI 0, rowD E 33 0 (cpM (E 33 0) (pst E c) 0)) = _
    rw [cpM_0, rowD_self]
    rfl
  · exact FU_big (by decide)
  · intro i hi
    simp only [l_X10_undo_22]
    rw [if_neg (g170 hi), rowD_ne _ _ (show ¬ (32 = 33 ∧ 0 = 0) by omega), h32, show (170 : Int32) = nI 170 from rfl, pk_mul, nI_add, rd_at rfl (show 170 * c + i < 1020 by omega) (by decide), wr_at rfl hi (by decide), rowD_ne _ _ (show ¬ (34 = 33 ∧ 0 = 0) by omega), rowD_upd]
    rw [show E 34 0 (170 * c + i) = pst E c i from rfl, cpM_s, nI_1]
  · rfl
theorem ok_undo : ∀ (_ : Unit) (D : Dt), Inv D → ∃ (r : Int32) (D1 D2 : Dt), f_X9_undo D = some (r, D1) ∧ f_X10_undo D1 = some (r, D2) ∧ Inv D2 := by
  intro _ D h
  obtain ⟨hG, hR, ⟨c, nx, h1, h2, h3, h4, h5, h6⟩, hT, hP⟩ := h
  by_cases w : c = 0
  · subst w
    refine ⟨-2, D, D, ?_, ?_, ⟨hG, hR, ⟨0, nx, h1, h2, h3, h4, h5, h6⟩, hT, hP⟩⟩
    · rw [f_X9_undo, h4]; rfl
    · rw [f_X10_undo, h5]; rfl
  · obtain ⟨D1, a1, a2, a3, a4, a5⟩ := p_giveBack h2 (show 0 < c by omega) h1 h3 h4
    have f32 : D1 32 0 = D 32 0 := a5 32 0 (fun q => by
      simp only [St] at q
      omega)
    have f33 : D1 33 0 = D 33 0 := a5 33 0 (fun q => by
      simp only [St] at q
      omega)
    have f34 : D1 34 0 = D 34 0 := a5 34 0 (fun q => by
      simp only [St] at q
      omega)
    have fo : ∀ k b, ¬ (St 0 k b ∨ (k = 24 ∧ b = 0)) → k ≠ 33 → k ≠ 32 → rowD (updD D1 32 0 2 (nI (c - 1))) 33 0 (cpM (D 33 0) (pst D (c - 1)) 170) k b = D k b := by
      intro k b q1 q2 q3
      rw [rowD_ne _ _ (by omega), updD_other _ _ _ (by omega)]
      exact a5 k b q1
    have f32' : ∀ j, j ≠ 2 → rowD (updD D1 32 0 2 (nI (c - 1))) 33 0 (cpM (D 33 0) (pst D (c - 1)) 170) 32 0 j = D 32 0 j := by
      intro j hj
      rw [rowD_ne _ _ (by omega), updD_at, if_neg (by omega), f32]
    have ep : ∀ j, j < 170 → cpM (D 33 0) (pst D (c - 1)) 170 j = pst D (c - 1) j := fun j hj => if_pos hj
    refine ⟨nI (c - 1), D1, rowD (updD D1 32 0 2 (nI (c - 1))) 33 0 (cpM (D 33 0) (pst D (c - 1)) 170), ?_, ?_, ?_, ?_, ?_, ?_, ?_⟩
    · rw [f_X9_undo, h4, if_z (by omega), if_neg w, a1, Option.bind_some, a3]
    · rw [f_X10_undo, f32, h5, if_z (by omega), if_neg w]
      simp only [pu]
      rw [show nI c - (1 : Int32) = nI (c - 1) from pk_sub (b := 1) (by omega), p_un22 (c := c - 1) (by omega) (by simp [updD_at]), Option.bind_some]
      have e1 : updD D1 32 0 2 (nI (c - 1)) 33 0 = D 33 0 := by rw [updD_other _ _ _ (by omega)]; exact f33
      have e2 : pst (updD D1 32 0 2 (nI (c - 1))) (c - 1) = pst D (c - 1) := by
        funext j
        show updD D1 32 0 2 (nI (c - 1)) 34 0 _ = _
        rw [updD_other _ _ _ (by omega), f34]
        rfl
      rw [e1, e2, rowD_ne _ _ (by omega)]
      simp [updD_at]
    · rw [rowD_at]
      exact Good_ext (h6 (c - 1) (by omega)).1 ep
    · rw [rowD_at]
      have g := (h6 (c - 1) (by omega)).2
      rw [show (nx + 6 - c + (c - 1)) % 6 = (nx + 5) % 6 by omega] at g
      refine RelS_ext ((a4 _ g).fr (fun k hk => ?_)) ep
      rw [rowD_ne _ _ (by omega), updD_other _ _ _ (by omega)]
    · refine ⟨c - 1, (nx + 5) % 6, by omega, by omega, ?_, ?_, ?_, fun i hi => ?_⟩
      · rw [rowD_ne _ _ (by omega), updD_other _ _ _ (by omega)]; exact a2
      · rw [rowD_ne _ _ (by omega), updD_other _ _ _ (by omega)]; exact a3
      · rw [rowD_ne _ _ (by omega)]; simp [updD_at]
      · obtain ⟨g1, g2⟩ := h6 i (by omega)
        have e : pst (rowD (updD D1 32 0 2 (nI (c - 1))) 33 0 (cpM (D 33 0) (pst D (c - 1)) 170)) i = pst D i := by
          funext j
          show rowD (updD D1 32 0 2 (nI (c - 1))) 33 0 (cpM (D 33 0) (pst D (c - 1)) 170) 34 0 _ = _
          rw [rowD_ne _ _ (by omega), updD_other _ _ _ (by omega), f34]
          rfl
        rw [e, show ((nx + 5) % 6 + 6 - (c - 1) + i) % 6 = (nx + 6 - c + i) % 6 by omega]
        refine ⟨g1, g2.fr (fun k hk => fo k _ (fun q => ?_) (by omega) (by omega))⟩
        simp only [St] at q
        omega
    · refine hT.fr ⟨?_, ?_, f32' 4 (by decide), ?_⟩
      · rw [fo 22 0 (by simp [St]) (by decide) (by decide)]
      · exact fo 23 0 (by simp [St]) (by decide) (by decide)
      · exact fo 35 0 (by simp [St]) (by decide) (by decide)
    · refine hP.fr ⟨?_, ?_, ?_, ?_, f32' 18 (by decide), ?_⟩
      · rw [fo 27 0 (by simp [St]) (by decide) (by decide)]
      · exact fo 28 0 (by simp [St]) (by decide) (by decide)
      · exact fo 29 0 (by simp [St]) (by decide) (by decide)
      · exact fo 30 0 (by simp [St]) (by decide) (by decide)
      · exact fo 39 0 (by simp [St]) (by decide) (by decide)
/-! a call that keeps the state and changes it -/
theorem kfT {D D' : Dt} (h : Eqx KF D D') : FT D D' := ⟨by rw [h 22 0 (by simp [KF])], h 23 0 (by simp [KF]), by rw [h 32 0 (by simp [KF])], h 35 0 (by simp [KF])⟩
theorem kfP {D D' : Dt} (h : Eqx KF D D') : FP D D' := ⟨by rw [h 27 0 (by simp [KF])], h 28 0 (by simp [KF]), h 29 0 (by simp [KF]), h 30 0 (by simp [KF]), by rw [h 32 0 (by simp [KF])], h 39 0 (by simp [KF])⟩
theorem EqN.T {D D' : Dt} (h : EqN D D') : FT D D' := ⟨by rw [h.1 22 0 (by decide) (by decide)], h.1 23 0 (by decide) (by decide), h.2 4 (by decide), h.1 35 0 (by decide) (by decide)⟩
theorem EqN.P {D D' : Dt} (h : EqN D D') : FP D D' := ⟨by rw [h.1 27 0 (by decide) (by decide)], h.1 28 0 (by decide) (by decide), h.1 29 0 (by decide) (by decide), h.1 30 0 (by decide) (by decide), h.2 18 (by decide), h.1 39 0 (by decide) (by decide)⟩
theorem cls_keep {D : Dt} (h : Inv D) : ∃ Dk, f_X1_keep 0 D = some Dk ∧ HisM Dk (D 33 0) ∧ FT D Dk ∧ FP D Dk ∧ RelS Dk 0 (D 33 0) ∧ Dk 33 0 = D 33 0 := by
  obtain ⟨Dk, a1, a2, a3⟩ := p_keep h.2.2.1 h.2.1 h.1
  refine ⟨Dk, a1, a2, kfT a3, kfP a3, h.2.1.fr (fun k hk => a3 k 0 ?_), a3 33 0 (by simp [KF])⟩
  simp only [KF]
  omega
/-- rows that only the reference's call uses -/
def E33 (D D' : Dt) : Prop := ∀ k b, k ≠ 33 → k ≠ 36 → D' k b = D k b
theorem ref_note {Dk D1 D1' : Dt} {s : Nat → Int32} (hM : HisM Dk s) (hE : Eqx ZC Dk D1) (hR : EqR JR D1 D1') (hs : D1 33 0 = s) : ∃ Dn, f_X10_note D1' = some Dn ∧ HisR Dn ∧ EqN D1' Dn ∧ Dn 33 0 = s := by
  have e33 : D1' 33 0 = s := (hR.1 33 0 (by decide) (by decide) (by decide)).trans hs
  obtain ⟨Dn, a1, a2, a3⟩ := p_note ((hM.fr hE.FH).fr hR.FH) e33
  exact ⟨Dn, a1, a2, a3, (a3.1 33 0 (by decide) (by decide)).trans e33⟩
theorem fin_m {D Dk D1 D1' Dn D2 : Dt} (hI : Inv D) (hT : FT D Dk) (hP : FP D Dk) (hE : Eqx ZC Dk D1) (hQ : EqR JR D1 D1') (hN : EqN D1' Dn) (hH : HisR Dn) (h3 : E33 Dn D2) (hG : Good (D2 33 0)) (hR : RelS D1 0 (D2 33 0)) : Inv D2 := by
  refine ⟨hG, hR.fr (fun k hk => ?_), hH.fr ⟨fun k b a1 a2 a3 => h3 k b (by omega) (by omega), h3 24 0 (by decide) (by decide), by rw [h3 32 0 (by decide) (by decide)], h3 34 0 (by decide) (by decide)⟩, hI.2.2.2.1.fr ((((hT.tr hE.FT).tr hQ.FT).tr hN.T).tr ⟨by rw [h3 22 0 (by decide) (by decide)], h3 23 0 (by decide) (by decide), by rw [h3 32 0 (by decide) (by decide)], h3 35 0 (by decide) (by decide)⟩), hI.2.2.2.2.fr ((((hP.tr hE.FP).tr hQ.FP).tr hN.P).tr ⟨by rw [h3 27 0 (by decide) (by decide)], h3 28 0 (by decide) (by decide), h3 29 0 (by decide) (by decide), h3 30 0 (by decide) (by decide), by rw [h3 32 0 (by decide) (by decide)], h3 39 0 (by decide) (by decide)⟩)⟩
  rw [h3 k 0 (by omega) (by omega), hN.1 k 0 (by omega) (by omega), hQ.1 k 0 (by omega) (by omega) (by omega)]
theorem E33.row {D : Dt} {g : Nat → Int32} : E33 D (rowD D 33 0 g) := fun k b h _ => rowD_ne _ _ (by omega)
theorem E33.rf {D : Dt} : E33 D D := fun _ _ _ _ => rfl
/-! pieces of the relation -/
theorem RelT.fx {D D' : Dt} {b : Nat} {s s' : Nat → Int32} (h : RelT D b s) (hE : D' 0 b = D 0 b) (e0 : s' 0 = s 0) (e1 : s' 1 = s 1) (e2 : s' 2 = s 2) (e4 : s' 4 = s 4) : RelT D' b s' := by
  unfold RelT
  rw [hE, e0, e1, e2, e4]
  exact h
theorem RelP.fx {D D' : Dt} {b : Nat} {s s' : Nat → Int32} (h : RelP D b s) (hE : ∀ k, 1 ≤ k → k ≤ 8 → D' k b = D k b) (e : ∀ j, 3 ≤ j → j < 74 → j ≠ 4 → s' j = s j) : RelP D' b s' := by
  refine (?_ : RelP D b s').fr hE
  refine ⟨by rw [e 3 (by decide) (by decide) (by decide)]; exact h.1, by rw [e 5 (by decide) (by decide) (by decide)]; exact h.2.1, fun p hp => ?_, fun n hn => ?_⟩
  · rw [e 5 (by decide) (by decide) (by decide), e (6 + 2 * p) (by omega) (by omega) (by omega), e (6 + 2 * p + 1) (by omega) (by omega) (by omega)]
    exact h.2.2.1 p hp
  · rw [e (14 + 5 * n) (by omega) (by omega) (by omega), e (14 + 5 * n + 1) (by omega) (by omega) (by omega), e (14 + 5 * n + 2) (by omega) (by omega) (by omega), e (14 + 5 * n + 3) (by omega) (by omega) (by omega), e (14 + 5 * n + 4) (by omega) (by omega) (by omega)]
    exact h.2.2.2 n hn
theorem RelH.fx {D D' : Dt} {b : Nat} {s s' : Nat → Int32} (h : RelH D b s) (hE : ∀ k, 10 ≤ k → k ≤ 15 → D' k b = D k b) (e : ∀ j, 74 ≤ j → j < 170 → s' j = s j) : RelH D' b s' := by
  intro i hi
  rw [hE 10 (by decide) (by decide), hE 11 (by decide) (by decide), hE 12 (by decide) (by decide), hE 13 (by decide) (by decide), hE 14 (by decide) (by decide), hE 15 (by decide) (by decide), e (74 + 6 * i) (by omega) (by omega), e (74 + 6 * i + 1) (by omega) (by omega), e (74 + 6 * i + 2) (by omega) (by omega), e (74 + 6 * i + 3) (by omega) (by omega), e (74 + 6 * i + 4) (by omega) (by omega), e (74 + 6 * i + 5) (by omega) (by omega)]
  exact h i hi
theorem TimS.fx {s s' : Nat → Int32} (h : TimS s) (e0 : s' 0 = s 0) (e1 : s' 1 = s 1) (e2 : s' 2 = s 2) (e3 : s' 3 = s 3) (e : ∀ j, 14 ≤ j → j < 74 → s' j = s j) : TimS s' := by
  refine ⟨?_, fun n hn => ?_⟩
  · rw [e0, e1, e2, e3]
    exact h.1
  · rw [e (14 + 5 * n + 2) (by omega) (by omega), e (14 + 5 * n + 4) (by omega) (by omega)]
    exact h.2 n hn
/-! setPolicy, setTimes -/
theorem ok_setPolicy : ∀ (x1 : Int32) (D : Dt), Inv D → ∃ (r : Int32) (D1 D2 : Dt), f_X9_setPolicy x1 D = some (r, D1) ∧ f_X10_setPolicy x1 D1 = some (r, D2) ∧ Inv D2 := by
  intro x D h
  simp only [f_X9_setPolicy, f_X10_setPolicy, isIn_eq, in_eq, Option.bind_some, if_b]
  by_cases c : (0 : Int32) ≤ x ∧ x ≤ 3
  · obtain ⟨P, hP, rfl⟩ := ixL 3 (by decide) c.1 c.2
    simp only [if_pos c]
    obtain ⟨Dk, a1, a2, a3, a4, a5, a6⟩ := cls_keep h
    have hE : Eqx ZC Dk (updD Dk 1 0 0 (nI P)) := Eqx.upd (by simp [ZC])
    obtain ⟨Dn, b1, b2, b3, b4⟩ := ref_note a2 hE EqR.rf (by rw [updD_other _ _ _ (by omega)]; exact a6)
    refine ⟨D 33 0 3, updD Dk 1 0 0 (nI P), rowD Dn 33 0 (upd (D 33 0) 3 (nI P)), ?_, ?_, fin_m h a3 a4 hE EqR.rf b3 b2 E33.row ?_ ?_⟩
    · rw [a1, Option.bind_some]
      simp only [pu]
      rw [a5.2.1.1]
    · rw [b1, Option.bind_some, rd_at (i := (3 : Int32)) (j := 3) rfl (by decide) (by decide), wr_at (i := (3 : Int32)) (j := 3) rfl (by decide) (by decide), updD_row, b4]
    · rw [rowD_at]
      obtain ⟨g1, g2, g3⟩ := h.1
      refine ⟨⟨?_, ?_⟩, GeoS_ext g2 (fun j j1 j2 => pk_un (by omega)), HoS_ext g3 (fun j j1 j2 => pk_un (by omega))⟩
      · obtain ⟨T, L, O, P', t1, t2, t3, t4, t5, t6, t7, t8⟩ := g1.1
        exact ⟨T, L, O, P, by rw [pk_un (by decide)]; exact t1, t2, by rw [pk_un (by decide)]; exact t3, t4, by rw [pk_un (by decide)]; exact t5, t6, pk_us, by omega⟩
      · intro n hn
        rw [pk_un (by omega), pk_un (by omega)]
        exact g1.2 n hn
    · rw [rowD_at]
      obtain ⟨r1, r2, r3⟩ := a5
      refine ⟨r1.fx (updD_other _ _ _ (by omega)) (pk_un (by decide)) (pk_un (by decide)) (pk_un (by decide)) (pk_un (by decide)), ?_, r3.fx (fun k k1 k2 => updD_other _ _ _ (by omega)) (fun j j1 j2 => pk_un (by omega))⟩
      unfold RelP at *
      simp only [updD, upd]
      refine ⟨by grind, by grind, by grind, fun m hm => ?_⟩
      obtain ⟨w1, w2, w3, w4⟩ := r2.2.2.2 m hm
      grind
  · simp only [if_neg c]
    exact ⟨-1, D, D, rfl, rfl, h⟩
theorem ok_setTimes : ∀ (x1 x2 : Int32) (D : Dt), Inv D → ∃ (r : Int32) (D1 D2 : Dt), f_X9_setTimes x1 x2 D = some (r, D1) ∧ f_X10_setTimes x1 x2 D1 = some (r, D2) ∧ Inv D2 := by
  intro x y D h
  simp only [f_X9_setTimes, f_X10_setTimes, isIn_eq, in_eq, Option.bind_some, if_b]
  by_cases c : (1 : Int32) ≤ x ∧ x ≤ 500
  · simp only [if_pos c]
    by_cases c2 : (0 : Int32) ≤ y ∧ y ≤ 500
    · obtain ⟨L, hL, rfl⟩ := ixL 500 (by decide) (by
        have := Int32.le_iff_toInt_le.mp c.1
        rw [Int32.le_iff_toInt_le]
        have e0 : (0 : Int32).toInt = 0 := by decide
        have e1 : (1 : Int32).toInt = 1 := by decide
        omega) c.2
      obtain ⟨O, hO, rfl⟩ := ixL 500 (by decide) c2.1 c2.2
      simp only [if_pos c2]
      obtain ⟨Dk, a1, a2, a3, a4, a5, a6⟩ := cls_keep h
      have hE : Eqx ZC Dk (updD (updD Dk 0 0 3 (nI L)) 0 0 4 (nI O)) := (Eqx.upd (by simp [ZC])).tr (Eqx.upd (by simp [ZC]))
      obtain ⟨Dn, b1, b2, b3, b4⟩ := ref_note a2 hE EqR.rf (by rw [updD_other _ _ _ (by omega), updD_other _ _ _ (by omega)]; exact a6)
      refine ⟨if D 33 0 1 = nI L ∧ D 33 0 2 = nI O then 0 else 1, updD (updD Dk 0 0 3 (nI L)) 0 0 4 (nI O), rowD Dn 33 0 (upd (upd (D 33 0) 1 (nI L)) 2 (nI O)), ?_, ?_, fin_m h a3 a4 hE EqR.rf b3 b2 E33.row ?_ ?_⟩
      · rw [a1, Option.bind_some]
        simp only [j_X9_setTimes_62_t4, pu]
        rw [a5.1.2.1, a5.1.2.2.1]
        by_cases w1 : D 33 0 1 = nI L
        · rw [if_pos w1]
          by_cases w2 : D 33 0 2 = nI O
          · simp [w1, w2]
          · simp [w1, w2]
        · simp [w1]
      · rw [b1, Option.bind_some, rd_at (i := (1 : Int32)) (j := 1) rfl (by decide) (by decide), rd_at (i := (2 : Int32)) (j := 2) rfl (by decide) (by decide)]
        simp only [j_X10_setTimes_53_t5, wr_at (i := (1 : Int32)) (j := 1) rfl (show 1 < 170 by decide) (show 170 < 2 ^ 31 by decide), wr_at (i := (2 : Int32)) (j := 2) rfl (show 2 < 170 by decide) (show 170 < 2 ^ 31 by decide), updD_row Dn 33 0, rowD_upd, b4]
        by_cases w1 : D 33 0 1 = nI L
        · rw [if_pos w1]
          by_cases w2 : D 33 0 2 = nI O
          · simp [w1, w2]
          · simp [w1, w2]
        · simp [w1]
      · rw [rowD_at]
        obtain ⟨g1, g2, g3⟩ := h.1
        refine ⟨⟨?_, ?_⟩, GeoS_ext g2 (fun j j1 j2 => by rw [pk_un (by omega), pk_un (by omega)]), HoS_ext g3 (fun j j1 j2 => by rw [pk_un (by omega), pk_un (by omega)])⟩
        · obtain ⟨T, L', O', P', t1, t2, t3, t4, t5, t6, t7, t8⟩ := g1.1
          exact ⟨T, L, O, P', by rw [pk_un (by decide), pk_un (by decide)]; exact t1, t2, by rw [pk_un (by decide)]; exact pk_us, hL, pk_us, hO, by rw [pk_un (by decide), pk_un (by decide)]; exact t7, t8⟩
        · intro n hn
          rw [pk_un (by omega), pk_un (by omega), pk_un (by omega), pk_un (by omega)]
          exact g1.2 n hn
      · rw [rowD_at]
        obtain ⟨r1, r2, r3⟩ := a5
        refine ⟨?_, r2.fx (fun k k1 k2 => by rw [updD_other _ _ _ (by omega), updD_other _ _ _ (by omega)]) (fun j j1 j2 _ => by rw [pk_un (by omega), pk_un (by omega)]), r3.fx (fun k k1 k2 => by rw [updD_other _ _ _ (by omega), updD_other _ _ _ (by omega)]) (fun j j1 j2 => by rw [pk_un (by omega), pk_un (by omega)])⟩
        unfold RelT at *
        simp only [updD, upd]
        grind
    · simp only [if_neg c2]
      exact ⟨-1, D, D, rfl, rfl, h⟩
  · simp only [if_neg c]
    exact ⟨-1, D, D, rfl, rfl, h⟩
