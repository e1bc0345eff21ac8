/-! BlockList.addStretch -/
def BL (D : Dt) (b : Nat) (l : List (Nat × Nat)) : Prop := D 19 b 2 = nI l.length ∧ ∀ i x y, l[i]? = some (x, y) → D 20 b i = nI x ∧ D 21 b i = nI y
def SB (b : Nat) : Nat → Nat → Prop := fun k b' => (k = 19 ∨ k = 20 ∨ k = 21) ∧ b' = b
theorem li_0 : (0 : Int32) = nI 0 := rfl
theorem li_1 : (1 : Int32) = nI 1 := rfl
theorem li_2 : (2 : Int32) = nI 2 := rfl
theorem p_as31 {a t : Nat} {D : Dt} (h : a < t) (ht : t ≤ 65536) : lp (l_X0_addStretch_31 (nI t) (nI a, D)) FU ((1 : Int32), (16 : Int32)) = some (nI (zz (bl a t)), nI (bl a t)) := by
  have key : ∃ e, lp (l_X0_addStretch_31 (nI t) (nI a, D)) FU ((1 : Int32), (16 : Int32)) = some e ∧ e = (nI (zz (bl a t)), nI (bl a t)) := by
    apply lp_ex (fun s => ∃ l, l ≤ 16 ∧ s = (nI (zz l), nI l) ∧ fitB a t l = true) (fun s => s.2.toNatClampNeg) (fun e => e = (nI (zz (bl a t)), nI (bl a t)))
    · exact ⟨16, Nat.le_refl _, rfl, fitB_16 h⟩
    · exact FU_big (by decide)
    · rintro s ⟨l, hl, rfl, hf⟩
      have hz := zz_le l
      have hf' := fitB_iff.mp hf
      simp only [l_X0_addStretch_31]
      by_cases h0 : l = 0
      · right
        refine ⟨_, by rw [if_pos (by rw [h0]; decide)], ?_⟩
        rw [bl_uniq hl hf (Or.inl h0)]
      · rw [if_neg (show ¬ nI l ≤ 0 from nI_nle (by omega) (by omega))]
        have e2 : nI a + (2 : Int32) * nI (zz l) = nI (a + 2 * zz l) := by rw [li_2, pk_mul, nI_add]
        have ezz : zz (l - 1) = 2 * zz l := by rw [zz_pred (show l - 1 < 16 by omega), show l - 1 + 1 = l by omega]
        by_cases hb : a % zz (l - 1) = 0
        · rw [if_pos ((and_zz (by omega) hl hf'.1).mpr hb), e2]
          by_cases hc : t < a + 2 * zz l
          · right
            refine ⟨_, by rw [if_pos (nI_lt hc (by omega))], ?_⟩
            rw [bl_uniq hl hf (Or.inr ?_)]
            cases hq : fitB a t (l - 1) with
            | false => rfl
            | true =>
              have := (fitB_iff.mp hq).2
              omega
          · left
            refine ⟨_, by rw [if_neg (nI_nlt (by omega) (by omega))], ⟨l - 1, by omega, ?_, ?_⟩, ?_⟩
            · rw [li_2, pk_mul, ezz, Nat.mul_comm]
              have : nI l + (-1 : Int32) = nI (l - 1) := by
                have := pk_m1 (l - 1)
                rw [show l - 1 + 1 = l by omega] at this
                exact this
              rw [this]
            · exact fitB_iff.mpr ⟨hb, by omega⟩
            · show (nI l + (-1 : Int32)).toNatClampNeg < (nI l).toNatClampNeg
              have : nI l + (-1 : Int32) = nI (l - 1) := by
                have := pk_m1 (l - 1)
                rw [show l - 1 + 1 = l by omega] at this
                exact this
              rw [this, nI_clamp (by omega), nI_clamp (by omega)]
              omega
        · right
          refine ⟨_, by rw [if_neg (fun q => hb ((and_zz (by omega) hl hf'.1).mp q))], ?_⟩
          rw [bl_uniq hl hf (Or.inr ?_)]
          cases hq : fitB a t (l - 1) with
          | false => rfl
          | true => exact absurd (fitB_iff.mp hq).1 hb
  obtain ⟨e, h1, h2⟩ := key
  rw [h1, h2]
theorem p_addStretch {b a0 t : Nat} {D0 : Dt} {l0 : List (Nat × Nat)} (ha : a0 ≤ 65536) (ht : t ≤ 65536) (hB : BL D0 b l0) (hn : (l0 ++ GR a0 t).length ≤ 292) : ∃ D', f_X0_addStretch b (nI a0) (nI t) D0 = some D' ∧ BL D' b (l0 ++ GR a0 t) ∧ Eqx (SB b) D0 D' := by
  have key : ∃ e, lp (l_X0_addStretch_2 b (nI t)) FU (nI a0, D0) = some e ∧ (BL e b (l0 ++ GR a0 t) ∧ Eqx (SB b) D0 e) := by
    apply lp_ex (fun s => ∃ a l, s.1 = nI a ∧ a ≤ 65536 ∧ BL s.2 b l ∧ l ++ GR a t = l0 ++ GR a0 t ∧ Eqx (SB b) D0 s.2) (fun s => 65536 - s.1.toNatClampNeg) (fun e => BL e b (l0 ++ GR a0 t) ∧ Eqx (SB b) D0 e)
    · exact ⟨a0, l0, rfl, ha, hB, rfl, Eqx.rf⟩
    · exact FU_big (by omega)
    · rintro ⟨x, D⟩ ⟨a, l, ex, hal, hBL, hl, hE⟩
      simp only at ex hBL hE
      subst ex
      simp only [l_X0_addStretch_2]
      by_cases h1 : t ≤ a
      · right
        refine ⟨_, by rw [if_pos (nI_le h1 (by omega))], ?_⟩
        rw [GR_nil h1, List.append_nil] at hl
        rw [← hl]
        exact ⟨hBL, hE⟩
      · have hat : a < t := by omega
        rw [if_neg (nI_ge hat (by omega)), hBL.1]
        have hlen : l.length + 1 ≤ 292 := by
          have h2 : (l ++ GR a t).length ≤ 292 := by rw [hl]; exact hn
          rw [GR_cons hat] at h2
          simp at h2
          omega
        rw [if_neg (nI_pos (by omega)), if_neg (show ¬ (292 : Int32) ≤ nI l.length from nI_ge (b := 292) (by omega) (by decide)), p_as31 hat ht, Option.bind_some]
        have hfit := fitB_iff.mp (bl_fit hat)
        have hz := zz_pos (bl a t)
        rw [wr_at rfl (show l.length < 292 by omega) (by decide)]
        have e1 : updD D 20 b l.length (nI a) 19 b 2 = nI l.length := by rw [updD_other _ _ _ (by omega)]; exact hBL.1
        rw [e1, wr_at rfl (show l.length < 292 by omega) (by decide)]
        simp only [pu]
        have e2 : updD (updD D 20 b l.length (nI a)) 21 b l.length (nI (bl a t)) 19 b 2 = nI l.length := by rw [updD_other _ _ _ (by omega)]; exact e1
        rw [e2, nI_1, nI_add]
        left
        refine ⟨_, rfl, ⟨a + zz (bl a t), l ++ [(a, bl a t)], rfl, by omega, ?_, ?_, ?_⟩, ?_⟩
        · refine ⟨by simp [updD], fun i x y hi => ?_⟩
          by_cases hil : i < l.length
          · rw [List.getElem?_append_left hil] at hi
            obtain ⟨g1, g2⟩ := hBL.2 i x y hi
            have hne : i ≠ l.length := by omega
            simp [updD, hne, g1, g2]
          · rw [List.getElem?_append_right (by omega)] at hi
            have hz1 : i - l.length < 1 := (List.getElem?_eq_some_iff.mp hi).1
            have hi0 : i = l.length := by omega
            subst hi0
            rw [Nat.sub_self] at hi
            cases hi
            simp [updD]
        · rw [List.append_assoc, List.singleton_append, ← GR_cons hat, hl]
        · exact ((hE.tr (Eqx.upd ⟨Or.inr (Or.inl rfl), rfl⟩)).tr (Eqx.upd ⟨Or.inr (Or.inr rfl), rfl⟩)).tr (Eqx.upd ⟨Or.inl rfl, rfl⟩)
        · show 65536 - (nI (a + zz (bl a t))).toNatClampNeg < 65536 - (nI a).toNatClampNeg
          rw [nI_clamp (by omega), nI_clamp (by omega)]
          omega
  obtain ⟨e, h1, h2⟩ := key
  refine ⟨e, ?_, h2⟩
  rw [f_X0_addStretch, h1, Option.bind_some]
