/-! copies of a state; keep and note; undo -/
theorem p_copySpace {D : Dt} {b b1 : Nat} (hb : b1 ≠ b) : ∃ D', f_X5_copyFrom b b1 D = some D' ∧ (∀ s, RelP D b1 s → RelP D' b s) ∧ Eqx (fun k b' => (1 ≤ k ∧ k ≤ 8) ∧ b' = b) D D' := by
  simp only [f_X5_copyFrom, pu, f_X9_copyRow, Option.bind_some]
  refine ⟨_, rfl, fun s h => ?_, fun k b' hk => ?_⟩
  · obtain ⟨h1, h2, h3, h4⟩ := h
    refine ⟨?_, ?_, fun p hp hp2 => ?_, fun n hn => ?_⟩
    · simp [cpyD_at, updD_at, h1]
    · simp [cpyD_at, updD_at, hb, h2]
    · obtain ⟨a1, a2⟩ := h3 p hp hp2
      simp [cpyD_at, updD_at, hb, hp, a1, a2]
    · obtain ⟨a1, a2, a3, a4⟩ := h4 n hn
      refine ⟨?_, ?_, fun w => ?_, fun w => ⟨?_, ?_⟩⟩
      · simp [cpyD_at, updD_at, hb, hn, a1]
      · simp [cpyD_at, updD_at, hb, hn, a2]
      · simp [cpyD_at, updD_at, hb, hn, a3 w]
      · simp [cpyD_at, updD_at, hb, hn, (a4 w).1]
      · simp [cpyD_at, updD_at, hb, hn, (a4 w).2]
  · funext i
    by_cases w : b' = b
    · subst w
      have : k = 0 ∨ 9 ≤ k := by
        simp only [and_true] at hk
        omega
      simp [cpyD_at, updD_at, show k ≠ 1 by omega, show k ≠ 2 by omega, show k ≠ 3 by omega, show k ≠ 4 by omega, show k ≠ 5 by omega, show k ≠ 6 by omega, show k ≠ 7 by omega, show k ≠ 8 by omega]
    · simp [cpyD_at, updD_at, w]
theorem p_copyHosts {D : Dt} {b b1 : Nat} (hb : b1 ≠ b) : ∃ D', f_X2_copyFrom b b1 D = some D' ∧ (∀ s, RelH D b1 s → RelH D' b s) ∧ Eqx (fun k b' => (10 ≤ k ∧ k ≤ 15) ∧ b' = b) D D' := by
  simp only [f_X2_copyFrom, f_X9_copyRow, Option.bind_some]
  refine ⟨_, rfl, fun s h => ?_, fun k b' hk => ?_⟩
  · intro n hn
    obtain ⟨a1, a2, a3, a4, a5, a6⟩ := h n hn
    refine ⟨?_, ?_, ?_, fun w => ?_, fun w => ?_, fun w => ?_⟩
    · simp [cpyD_at, hb, hn, a1]
    · simp [cpyD_at, hb, hn, a2]
    · simp [cpyD_at, hb, hn, a3]
    · simp [cpyD_at, hb, hn, a4 w]
    · simp [cpyD_at, hb, hn, a5 w]
    · simp [cpyD_at, hb, hn, a6 w]
  · funext i
    by_cases w : b' = b
    · subst w
      have : k < 10 ∨ 16 ≤ k := by
        simp only [and_true] at hk
        omega
      simp [cpyD_at, show k ≠ 10 by omega, show k ≠ 11 by omega, show k ≠ 12 by omega, show k ≠ 13 by omega, show k ≠ 14 by omega, show k ≠ 15 by omega]
    · simp [cpyD_at, w]
def St (b : Nat) : Nat → Nat → Prop := fun k b' => k ≤ 15 ∧ b' = b
theorem p_copyState {D : Dt} {b b1 : Nat} (hb : b1 ≠ b) : ∃ D', f_X6_copyFrom b b1 D = some D' ∧ (∀ s, RelS D b1 s → RelS D' b s) ∧ Eqx (St b) D D' := by
  obtain ⟨D1, a1, a2, a3⟩ := p_copySpace (D := D) hb
  obtain ⟨D2, b1', b2, b3⟩ := p_copyHosts (D := D1) hb
  have hE : Eqx (St b) D D2 := (a3.mono (fun k b' h => ⟨by have := h.1; omega, h.2⟩)).tr (b3.mono (fun k b' h => ⟨by have := h.1; omega, h.2⟩))
  simp only [f_X6_copyFrom, pu, a1, b1', Option.bind_some]
  refine ⟨_, rfl, fun s h => ?_, ?_⟩
  · have h0 : D2 0 b1 = D 0 b1 := (b3 0 b1 (fun w => by have := w.1; omega)).trans (a3 0 b1 (fun w => by have := w.1; omega))
    have hP1 : RelP D1 b s := a2 s h.2.1
    have hP2 : RelP D2 b s := hP1.fr (fun k k1 k2 => b3 k b (fun w => by have := w.1; omega))
    have hH1 : RelH D1 b1 s := by
      intro n hn
      have := h.2.2 n hn
      rw [a3 10 b1 (fun w => by have := w.1; omega), a3 11 b1 (fun w => by have := w.1; omega), a3 12 b1 (fun w => by have := w.1; omega), a3 13 b1 (fun w => by have := w.1; omega), a3 14 b1 (fun w => by have := w.1; omega), a3 15 b1 (fun w => by have := w.1; omega)]
      exact this
    have hH2 : RelH D2 b s := b2 s hH1
    obtain ⟨t1, t2, t3, t4⟩ := h.1
    refine ⟨⟨?_, ?_, ?_, ?_⟩, ?_, ?_⟩
    · simp [updD_at, h0, t1]
    · simp [updD_at, hb, h0, t2]
    · simp [updD_at, hb, h0, t3]
    · simp [updD_at, hb, h0, t4]
    · refine hP2.fr (fun k k1 k2 => ?_)
      rw [updD_other _ _ _ (by omega), updD_other _ _ _ (by omega), updD_other _ _ _ (by omega), updD_other _ _ _ (by omega)]
    · intro n hn
      simp only [updD_at]
      simp
      exact hH2 n hn
  · refine (((hE.tr (Eqx.upd ⟨by decide, rfl⟩)).tr (Eqx.upd ⟨by decide, rfl⟩)).tr (Eqx.upd ⟨by decide, rfl⟩)).tr (Eqx.upd ⟨by decide, rfl⟩)
theorem p_stateAt {D : Dt} {n : Nat} (hn : n < 6) : f_X1_stateAt (nI n) D = some (2 + n, D) := by
  have h1 : (0 : Int32) ≤ nI n ∧ nI n ≤ 5 := ⟨nI_pos' (by omega), nI_le (b := 5) (by omega) (by decide)⟩
  rw [f_X1_stateAt, isIn_eq, Option.bind_some, if_b, if_pos h1, inb_nI hn (by decide), nI_clamp (by omega)]
  rfl
theorem mod6 {n : Nat} (hn : n < 100) : nI n - nI n / (6 : Int32) * (6 : Int32) = nI (n % 6) := pk_rem (d := 6) (by omega) (by decide) (by decide)
theorem gd_tt {β : Type} (F : Option β) : gd (true && true) F = F := rfl
theorem gd_6 {β : Type} (F : Option β) : gd (decide (¬ (6 : Int32) = 0)) F = F := rfl
def KF : Nat → Nat → Prop := fun k b => (k ≤ 15 ∧ 2 ≤ b ∧ b < 8) ∨ (k = 24 ∧ b = 0)
theorem p_keep {D : Dt} {s : Nat → Int32} (hH : HisR D) (hR : RelS D 0 s) (hG : Good s) : ∃ D', f_X1_keep 0 D = some D' ∧ HisM D' s ∧ Eqx KF D D' := by
  obtain ⟨c, nx, h1, h2, h3, h4, h5, h6⟩ := hH
  obtain ⟨D1, a1, a2, a3⟩ := p_copyState (D := D) (b := 2 + nx) (b1 := 0) (by omega)
  have e24 : D1 24 0 = D 24 0 := a3 24 0 (fun w => by have := w.1; omega)
  have em : nI nx + (1 : Int32) - (nI nx + (1 : Int32)) / (6 : Int32) * (6 : Int32) = nI ((nx + 1) % 6) := by
    rw [nI_1]
    exact mod6 (by omega)
  have ec : (if (6 : Int32) < nI c + 1 then (6 : Int32) else nI c + 1) = nI (if c = 6 then 6 else c + 1) := by
    rw [nI_1]
    by_cases w : c = 6
    · rw [if_pos w, w]; rfl
    · rw [if_neg w, if_neg (show ¬ (6 : Int32) < nI (c + 1) from nI_nlt (b := c + 1) (a := 6) (by omega) (by decide))]
  refine ⟨updD (updD D1 24 0 1 (nI ((nx + 1) % 6))) 24 0 2 (nI (if c = 6 then 6 else c + 1)), ?_, ⟨c, nx, h1, h2, ?_, ?_, ?_, fun i hi hi2 => ?_, hG, ?_⟩, ?_⟩
  · rw [f_X1_keep, h3, p_stateAt h2, Option.bind_some]
    simp only
    rw [decide_eq_true (show 2 ≤ 2 + nx by omega), decide_eq_true (show 2 + nx < 8 by omega)]
    rw [gd_tt, a1, Option.bind_some, gd_6]
    simp only [pu]
    rw [e24, h3, em]
    have e2 : updD D1 24 0 1 (nI ((nx + 1) % 6)) 24 0 2 = nI c := by
      rw [updD_at, if_neg (by omega), e24, h4]
    rw [e2, ec]
  · simp [updD_at]
  · simp [updD_at]
  · rw [updD_at, if_neg (by omega), updD_at, if_neg (by omega), a3 32 0 (fun w => by have := w.1; omega)]
    exact h5
  · have e34 : ∀ j, updD (updD D1 24 0 1 (nI ((nx + 1) % 6))) 24 0 2 (nI (if c = 6 then 6 else c + 1)) 34 0 j = D 34 0 j := by
      intro j
      rw [updD_at, if_neg (by omega), updD_at, if_neg (by omega), a3 34 0 (fun w => by have := w.1; omega)]
    have ep : pst (updD (updD D1 24 0 1 (nI ((nx + 1) % 6))) 24 0 2 (nI (if c = 6 then 6 else c + 1))) i = pst D i := by
      funext j
      exact e34 _
    rw [ep]
    obtain ⟨g1, g2⟩ := h6 i hi
    refine ⟨g1, g2.fr (fun k hk => ?_)⟩
    rw [updD_other _ _ _ (by omega), updD_other _ _ _ (by omega)]
    refine a3 k _ (fun w => ?_)
    have := w.2
    by_cases w2 : c = 6
    · have := hi2 w2
      omega
    · omega
  · refine (a2 s hR).fr (fun k hk => ?_)
    rw [updD_other _ _ _ (by omega), updD_other _ _ _ (by omega)]
  · refine ((a3.mono (fun k b' w => Or.inl ⟨w.1, by have := w.2; omega, by have := w.2; omega⟩)).tr (Eqx.upd (Or.inr ⟨rfl, rfl⟩))).tr (Eqx.upd (Or.inr ⟨rfl, rfl⟩))
/-! note -/
def shM (p : Nat → Int32) (n : Nat) : Nat → Int32 := fun j => if j < n then p (j + 170) else p j
def wrM (p s : Nat → Int32) (c n : Nat) : Nat → Int32 := fun j => if 170 * c ≤ j ∧ j < 170 * c + n then s (j - 170 * c) else p j
theorem shM_s (p : Nat → Int32) (n : Nat) : upd (shM p n) n (p (n + 170)) = shM p (n + 1) := by
  funext j
  simp only [upd, shM]
  by_cases w : j = n
  · rw [if_pos w, if_pos (by omega), w]
  · rw [if_neg w]
    by_cases w2 : j < n
    · rw [if_pos w2, if_pos (by omega)]
    · rw [if_neg w2, if_neg (by omega)]
theorem wrM_s (p s : Nat → Int32) (c n : Nat) : upd (wrM p s c n) (170 * c + n) (s n) = wrM p s c (n + 1) := by
  funext j
  simp only [upd, wrM]
  by_cases w : j = 170 * c + n
  · rw [if_pos w, if_pos (by omega), show j - 170 * c = n by omega]
  · rw [if_neg w]
    by_cases w2 : 170 * c ≤ j ∧ j < 170 * c + n
    · rw [if_pos w2, if_pos (by omega)]
    · rw [if_neg w2, if_neg (by omega)]
theorem p_nt52 {E : Dt} {p : Nat → Int32} {c : Nat} (hc : c < 6) (h32 : E 32 0 2 = nI c) : lp l_X10_note_52 FU ((0 : Int32), rowD E 34 0 p) = some (rowD E 34 0 (wrM p (E 33 0) c 170)) := by
  apply lp_to (fun i => (nI i, rowD E 34 0 (wrM p (E 33 0) c i))) 170
  · have e0 : wrM p (E 33 0) c 0 = p := by
      funext j
      simp only [wrM]
      rw [if_neg (by omega)]
    show (nI 0, rowD E 34 0 (wrM p (E 33 0) c 0)) = _
    rw [e0]
    rfl
  · exact FU_big (by decide)
  · intro i hi
    simp only [l_X10_note_52]
    rw [if_neg (g170 hi), rd_at rfl hi (by decide), rowD_ne _ _ (show ¬ (32 = 34 ∧ 0 = 0) by omega), h32, show (170 : Int32) = nI 170 from rfl, pk_mul, nI_add, wr_at rfl (show 170 * c + i < 1020 by omega) (by decide), rowD_ne _ _ (show ¬ (33 = 34 ∧ 0 = 0) by omega), rowD_upd, wrM_s, nI_1]
  · rfl
theorem p_nt11 {D : Dt} : lp l_X10_note_11 FU ((0 : Int32), D) = some (rowD D 34 0 (shM (D 34 0) 850)) := by
  apply lp_to (fun i => (nI i, rowD D 34 0 (shM (D 34 0) i))) 850
  · have e0 : shM (D 34 0) 0 = D 34 0 := by
      funext j
      simp only [shM]
      rw [if_neg (by omega)]
    show (nI 0, rowD D 34 0 (shM (D 34 0) 0)) = _
    rw [e0, rowD_self]
    rfl
  · exact FU_big (by decide)
  · intro i hi
    simp only [l_X10_note_11]
    rw [if_neg (g850 hi), show (170 : Int32) = nI 170 from rfl, nI_add, rd_at rfl (show i + 170 < 1020 by omega) (by decide), wr_at rfl (show i < 1020 by omega) (by decide), rowD_at, rowD_upd]
    have e : shM (D 34 0) i (i + 170) = D 34 0 (i + 170) := if_neg (by omega)
    rw [e, shM_s, nI_1]
  · rfl
def EqN (D D' : Dt) : Prop := (∀ k b, k ≠ 34 → k ≠ 32 → D' k b = D k b) ∧ ∀ j, j ≠ 2 → D' 32 0 j = D 32 0 j
theorem p_note {D : Dt} {s : Nat → Int32} (hM : HisM D s) (hs : D 33 0 = s) : ∃ D', f_X10_note D = some D' ∧ HisR D' ∧ EqN D D' := by
  obtain ⟨c, nx, h1, h2, h3, h4, h5, h6, h7, h8⟩ := hM
  by_cases w : c = 6
  · subst w
    refine ⟨updD (rowD (updD D 32 0 2 (nI 5)) 34 0 (wrM (shM (D 34 0) 850) s 5 170)) 32 0 2 (nI 6), ?_, ?_, ?_, ?_⟩
    · have e1 : updD (rowD D 34 0 (shM (D 34 0) 850)) 32 0 2 (nI 5) = rowD (updD D 32 0 2 (nI 5)) 34 0 (shM (D 34 0) 850) := by
        rw [updD_row D 32 0, rowD_comm _ _ _ (by omega), updD_row, rowD_ne _ _ (by omega)]
      rw [f_X10_note, h5, if_pos (by decide), p_nt11, Option.bind_some]
      simp only [pu]
      rw [rowD_ne _ _ (show ¬ (32 = 34 ∧ 0 = 0) by omega), h5, show nI 6 - (1 : Int32) = nI 5 from rfl, e1, j_X10_note_50_t1, p_nt52 (c := 5) (by decide) (by simp [updD_at]), Option.bind_some]
      have e2 : updD D 32 0 2 (nI 5) 33 0 = s := by rw [updD_other _ _ _ (by omega)]; exact hs
      rw [e2]
      have e3 : rowD (updD D 32 0 2 (nI 5)) 34 0 (wrM (shM (D 34 0) 850) s 5 170) 32 0 2 = nI 5 := by
        rw [rowD_ne _ _ (show ¬ (32 = 34 ∧ 0 = 0) by omega)]
        simp [updD_at]
      simp only [pu]
      rw [e3, nI_1]
    · have f24 : updD (rowD (updD D 32 0 2 (nI 5)) 34 0 (wrM (shM (D 34 0) 850) s 5 170)) 32 0 2 (nI 6) 24 0 = D 24 0 := by
        rw [updD_other _ _ _ (by omega), rowD_ne _ _ (by omega), updD_other _ _ _ (by omega)]
      refine ⟨6, (nx + 1) % 6, Nat.le_refl _, by omega, by rw [f24]; exact h3, by rw [f24]; exact h4, by simp [updD_at], fun i hi => ?_⟩
      have ep : ∀ j, j < 170 → pst (updD (rowD (updD D 32 0 2 (nI 5)) 34 0 (wrM (shM (D 34 0) 850) s 5 170)) 32 0 2 (nI 6)) i j = (if i = 5 then s j else pst D (i + 1) j) := by
        intro j hj
        show updD (rowD (updD D 32 0 2 (nI 5)) 34 0 (wrM (shM (D 34 0) 850) s 5 170)) 32 0 2 (nI 6) 34 0 (170 * i + j) = _
        rw [updD_other _ _ _ (by omega), rowD_at]
        simp only [wrM, shM]
        by_cases v : i = 5
        · rw [if_pos v, if_pos (by omega), show 170 * i + j - 170 * 5 = j by omega]
        · rw [if_neg v, if_neg (by omega), if_pos (by omega)]
          show D 34 0 (170 * i + j + 170) = D 34 0 (170 * (i + 1) + j)
          rw [show 170 * i + j + 170 = 170 * (i + 1) + j by omega]
      have fr : ∀ b, ∀ k, k ≤ 15 → updD (rowD (updD D 32 0 2 (nI 5)) 34 0 (wrM (shM (D 34 0) 850) s 5 170)) 32 0 2 (nI 6) k b = D k b := by
        intro b k hk
        rw [updD_other _ _ _ (by omega), rowD_ne _ _ (by omega), updD_other _ _ _ (by omega)]
      by_cases v : i = 5
      · have ep' : ∀ j, j < 170 → pst (updD (rowD (updD D 32 0 2 (nI 5)) 34 0 (wrM (shM (D 34 0) 850) s 5 170)) 32 0 2 (nI 6)) i j = s j := by
          intro j hj
          rw [ep j hj, if_pos v]
        rw [show ((nx + 1) % 6 + 6 - 6 + i) % 6 = nx by omega]
        exact ⟨Good_ext h7 ep', RelS_ext (h8.fr (fr _)) ep'⟩
      · have ep' : ∀ j, j < 170 → pst (updD (rowD (updD D 32 0 2 (nI 5)) 34 0 (wrM (shM (D 34 0) 850) s 5 170)) 32 0 2 (nI 6)) i j = pst D (i + 1) j := by
          intro j hj
          rw [ep j hj, if_neg v]
        obtain ⟨g1, g2⟩ := h6 (i + 1) (by omega) (fun _ => by omega)
        rw [show (nx + 6 - 6 + (i + 1)) % 6 = ((nx + 1) % 6 + 6 - 6 + i) % 6 by omega] at g2
        exact ⟨Good_ext g1 ep', RelS_ext (g2.fr (fr _)) ep'⟩
    · intro k b k1 k2
      rw [updD_other _ _ _ (by omega), rowD_ne _ _ (by omega), updD_other _ _ _ (by omega)]
    · intro j hj
      rw [updD_at, if_neg (by omega), rowD_ne _ _ (by omega), updD_at, if_neg (by omega)]
  · have hc : c < 6 := by omega
    rw [if_neg w] at h4
    refine ⟨updD (rowD D 34 0 (wrM (D 34 0) s c 170)) 32 0 2 (nI (c + 1)), ?_, ?_, ?_, ?_⟩
    · have hn : ¬ nI c = (6 : Int32) := fun q => w ((nI_eq (b := 6) (by omega) (by decide)).mp q)
      have e1 := p_nt52 (E := D) (p := D 34 0) hc h5
      rw [rowD_self, hs] at e1
      rw [f_X10_note, h5, if_neg hn, j_X10_note_50_t1, e1, Option.bind_some]
      simp only [pu]
      rw [rowD_ne _ _ (show ¬ (32 = 34 ∧ 0 = 0) by omega), h5, nI_1]
    · have f24 : updD (rowD D 34 0 (wrM (D 34 0) s c 170)) 32 0 2 (nI (c + 1)) 24 0 = D 24 0 := by
        rw [updD_other _ _ _ (by omega), rowD_ne _ _ (by omega)]
      refine ⟨c + 1, (nx + 1) % 6, by omega, by omega, by rw [f24]; exact h3, by rw [f24]; exact h4, by simp [updD_at], fun i hi => ?_⟩
      have ep : ∀ j, j < 170 → pst (updD (rowD D 34 0 (wrM (D 34 0) s c 170)) 32 0 2 (nI (c + 1))) i j = (if i = c then s j else pst D i j) := by
        intro j hj
        show updD (rowD D 34 0 (wrM (D 34 0) s c 170)) 32 0 2 (nI (c + 1)) 34 0 (170 * i + j) = _
        rw [updD_other _ _ _ (by omega), rowD_at]
        simp only [wrM]
        by_cases v : i = c
        · rw [if_pos v, if_pos (by rw [v]; omega), v, show 170 * c + j - 170 * c = j by omega]
        · rw [if_neg v, if_neg (by omega)]
          rfl
      have fr : ∀ b, ∀ k, k ≤ 15 → updD (rowD D 34 0 (wrM (D 34 0) s c 170)) 32 0 2 (nI (c + 1)) k b = D k b := by
        intro b k hk
        rw [updD_other _ _ _ (by omega), rowD_ne _ _ (by omega)]
      by_cases v : i = c
      · have ep' : ∀ j, j < 170 → pst (updD (rowD D 34 0 (wrM (D 34 0) s c 170)) 32 0 2 (nI (c + 1))) i j = s j := by
          intro j hj
          rw [ep j hj, if_pos v]
        rw [show ((nx + 1) % 6 + 6 - (c + 1) + i) % 6 = nx by omega]
        exact ⟨Good_ext h7 ep', RelS_ext (h8.fr (fr _)) ep'⟩
      · have ep' : ∀ j, j < 170 → pst (updD (rowD D 34 0 (wrM (D 34 0) s c 170)) 32 0 2 (nI (c + 1))) i j = pst D i j := by
          intro j hj
          rw [ep j hj, if_neg v]
        obtain ⟨g1, g2⟩ := h6 i (by omega) (fun q => absurd q w)
        rw [show (nx + 6 - c + i) % 6 = ((nx + 1) % 6 + 6 - (c + 1) + i) % 6 by omega] at g2
        exact ⟨Good_ext g1 ep', RelS_ext (g2.fr (fr _)) ep'⟩
    · intro k b k1 k2
      rw [updD_other _ _ _ (by omega), rowD_ne _ _ (by omega)]
    · intro j hj
      rw [updD_at, if_neg (by omega), rowD_ne _ _ (by omega)]
