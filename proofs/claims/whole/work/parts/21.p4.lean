/-! Survey: the used blocks, sorted -/
def US (D : Dt) (b n : Nat) (wB wE : Nat → Nat) : Prop := D 16 b 2 = nI n ∧ ∀ i, i < n → D 17 b i = nI (wB i) ∧ D 18 b i = nI (wE i)
def SU (b : Nat) : Nat → Nat → Prop := fun k b' => (k = 16 ∨ k = 17 ∨ k = 18) ∧ b' = b
def insF (w : Nat → Nat) (p x : Nat) : Nat → Nat := fun i => if i < p then w i else if i = p then x else w (i - 1)
theorem p_insertUsed {b n x l : Nat} {D : Dt} {wB wE : Nat → Nat} (hU : US D b n wB wE) (hn : n < 24) (hs : ∀ i j, i < j → j < n → wB i ≤ wB j) (hb : ∀ i, i < n → wB i ≤ 65536) (hx : x ≤ 65536) (hl : l ≤ 16) : ∃ D' p, f_X7_insertUsed b (nI x) (nI l) D = some D' ∧ p ≤ n ∧ (∀ i, i < p → wB i ≤ x) ∧ (∀ i, p ≤ i → i < n → x < wB i) ∧ US D' b (n + 1) (insF wB p x) (insF wE p (x + zz l)) ∧ Eqx (SU b) D D' := by
  have key : ∃ e, lp (l_X7_insertUsed_22 b (nI x)) FU (nI n, D) = some e ∧ (∃ q, q ≤ n ∧ e.1 = nI q ∧ (∀ i, i < q → wB i ≤ x) ∧ (∀ i, q ≤ i → i < n → x < wB i) ∧ (∀ i, i < q → e.2 17 b i = nI (wB i) ∧ e.2 18 b i = nI (wE i)) ∧ (∀ i, q < i → i ≤ n → e.2 17 b i = nI (wB (i - 1)) ∧ e.2 18 b i = nI (wE (i - 1))) ∧ e.2 16 b = D 16 b ∧ Eqx (SU b) D e.2) := by
    apply lp_ex (fun s => ∃ q, q ≤ n ∧ s.1 = nI q ∧ (∀ i, q ≤ i → i < n → x < wB i) ∧ (∀ i, i < q → s.2 17 b i = nI (wB i) ∧ s.2 18 b i = nI (wE i)) ∧ (∀ i, q < i → i ≤ n → s.2 17 b i = nI (wB (i - 1)) ∧ s.2 18 b i = nI (wE (i - 1))) ∧ s.2 16 b = D 16 b ∧ Eqx (SU b) D s.2) (fun s => s.1.toNatClampNeg) _
    · exact ⟨n, Nat.le_refl _, rfl, fun i h1 h2 => by omega, hU.2, fun i h1 h2 => by omega, rfl, Eqx.rf⟩
    · show (nI n).toNatClampNeg < FU
      rw [nI_clamp (by omega)]
      exact FU_big (by omega)
    · rintro ⟨y, E⟩ ⟨q, hq, ey, h1, h2, h3, h4, hE⟩
      simp only at ey h2 h3 h4 hE
      subst ey
      simp only [l_X7_insertUsed_22]
      by_cases q0 : q = 0
      · right
        refine ⟨_, by rw [if_pos (by rw [q0]; decide)], q, hq, rfl, fun i hi => by omega, h1, h2, h3, h4, hE⟩
      · have em : nI q - (1 : Int32) = nI (q - 1) := pk_sub (b := 1) (by omega)
        rw [if_neg (nI_nle (by omega) (by omega)), em, rd_at rfl (show q - 1 < 24 by omega) (by decide), (h2 (q - 1) (by omega)).1]
        have hbq := hb (q - 1) (by omega)
        by_cases hc : wB (q - 1) ≤ x
        · right
          refine ⟨_, by rw [if_pos (nI_le hc (by omega))], q, hq, rfl, fun i hi => ?_, h1, h2, h3, h4, hE⟩
          by_cases hi2 : i = q - 1
          · rw [hi2]; exact hc
          · exact Nat.le_trans (hs i (q - 1) (by omega) (by omega)) hc
        · left
          rw [if_neg (nI_ge (by omega) (by omega)), rd_at rfl (show q - 1 < 24 by omega) (by decide), (h2 (q - 1) (by omega)).1, wr_at rfl (show q < 24 by omega) (by decide), rd_at rfl (show q - 1 < 24 by omega) (by decide)]
          have e1 : updD E 17 b q (nI (wB (q - 1))) 18 b (q - 1) = nI (wE (q - 1)) := by
            rw [updD_other _ _ _ (by omega)]
            exact (h2 (q - 1) (by omega)).2
          rw [e1, wr_at rfl (show q < 24 by omega) (by decide)]
          have em2 : nI q + (-1 : Int32) = nI (q - 1) := by
            have := pk_m1 (q - 1)
            rw [show q - 1 + 1 = q by omega] at this
            exact this
          refine ⟨_, rfl, ⟨q - 1, by omega, em2, fun i g1 g2 => ?_, fun i g1 => ?_, fun i g1 g2 => ?_, ?_, ?_⟩, ?_⟩
          · by_cases hi2 : i = q - 1
            · rw [hi2]; omega
            · exact h1 i (by omega) g2
          · have hne : i ≠ q := by omega
            have := h2 i (by omega)
            simp [updD, hne, this.1, this.2]
          · by_cases hi2 : i = q
            · subst hi2
              simp [updD]
            · have := h3 i (by omega) g2
              simp [updD, hi2, this.1, this.2]
          · show updD (updD E 17 b q (nI (wB (q - 1)))) 18 b q (nI (wE (q - 1))) 16 b = D 16 b
            rw [updD_other _ _ _ (by omega), updD_other _ _ _ (by omega)]
            exact h4
          · exact (hE.tr (Eqx.upd ⟨Or.inr (Or.inl rfl), rfl⟩)).tr (Eqx.upd ⟨Or.inr (Or.inr rfl), rfl⟩)
          · show (nI q + (-1 : Int32)).toNatClampNeg < (nI q).toNatClampNeg
            rw [em2, nI_clamp (by omega), nI_clamp (by omega)]
            omega
  obtain ⟨⟨y, E⟩, k1, q, hq, ey, h0, h1, h2, h3, h4, hE⟩ := key
  simp only at ey h2 h3 h4 hE
  subst ey
  refine ⟨updD (updD (updD E 17 b q (nI x)) 18 b q (nI (x + zz l))) 16 b 2 (nI (n + 1)), q, ?_, hq, h0, h1, ⟨by simp [updD], fun i hi => ?_⟩, ?_⟩
  · have ec : D 16 b 2 = nI n := hU.1
    rw [f_X7_insertUsed, ec, if_neg (nI_pos (by omega)), if_pos (show nI n < (24 : Int32) from nI_lt (b := 24) hn (by decide)), k1, Option.bind_some]
    simp only
    rw [wr_at rfl (show q < 24 by omega) (by decide), sizeOf_eq hl, Option.bind_some, nI_add, wr_at rfl (show q < 24 by omega) (by decide)]
    simp only [pu]
    have e5 : updD (updD E 17 b q (nI x)) 18 b q (nI (x + zz l)) 16 b 2 = nI n := by
      rw [updD_other _ _ _ (by omega), updD_other _ _ _ (by omega), h4]
      exact ec
    rw [e5, nI_1]
  · simp only [insF]
    by_cases g1 : i < q
    · have hne : i ≠ q := by omega
      have := h2 i g1
      simp [updD, g1, hne, this.1, this.2]
    · by_cases g2 : i = q
      · subst g2
        simp [updD]
      · have := h3 i (by omega) (by omega)
        simp [updD, g1, g2, this.1, this.2]
  · exact ((hE.tr (Eqx.upd ⟨Or.inr (Or.inl rfl), rfl⟩)).tr (Eqx.upd ⟨Or.inr (Or.inr rfl), rfl⟩)).tr (Eqx.upd ⟨Or.inl rfl, rfl⟩)
