/-! the text -/
set_option maxRecDepth 100000 in
theorem chr_vals : ∀ c, c < 256 → vp_nar .char (((nI c).toUInt32 % 65536).toInt32) = nI c ∧ (vp_nar .byte (nI c).toInt8.toInt32 &&& 255) = nI c := by decide +kernel
theorem ok_appendCharacter : ∀ (x1 : Int32) (D : Dt), Inv D → ∃ (r : Int32) (D1 D2 : Dt), f_X9_appendCharacter x1 D = some (r, D1) ∧ f_X10_appendCharacter x1 D1 = some (r, D2) ∧ Inv D2 := by
  intro x D h
  simp only [f_X9_appendCharacter, f_X10_appendCharacter, isIn_eq, in_eq, Option.bind_some, if_b]
  by_cases c : (0 : Int32) ≤ x ∧ x ≤ 255
  · obtain ⟨ch, hch, rfl⟩ := ixL 255 (by decide) c.1 c.2
    obtain ⟨v1, v2⟩ := chr_vals ch (by omega)
    simp only [if_pos c]
    obtain ⟨g1, g2, g3, ⟨n, n1, n2, n3, n4⟩, g5⟩ := h
    by_cases w : n = 150
    · refine ⟨-3, D, D, ?_, ?_, ⟨g1, g2, g3, ⟨n, n1, n2, n3, n4⟩, g5⟩⟩
      · rw [f_X8_addSign, n2, if_neg (nI_pos (by omega)), if_neg (show ¬ nI n < (150 : Int32) from nI_nlt (b := 150) (by omega) (by omega)), Option.bind_some]
        rfl
      · rw [n3, if_pos (by rw [w]; rfl)]
    · have hn : n < 150 := by omega
      have e22 : ∀ v : Int32, updD D 23 0 n v 22 0 1 = nI n := fun v => by rw [updD_other _ _ _ (by omega)]; exact n2
      have fE : ∀ k b, k ≠ 22 → k ≠ 23 → updD (updD D 23 0 n (nI ch)) 22 0 1 (nI (n + 1)) k b = D k b := fun k b k1 k2 => by
        rw [updD_other _ _ _ (by omega), updD_other _ _ _ (by omega)]
      refine ⟨nI (n + 1), updD (updD D 23 0 n (nI ch)) 22 0 1 (nI (n + 1)), updD (updD (updD (updD D 23 0 n (nI ch)) 22 0 1 (nI (n + 1))) 35 0 n (vp_nar .byte (nI ch).toInt8.toInt32)) 32 0 4 (nI (n + 1)), ?_, ?_, ?_⟩
      · rw [f_X8_addSign, n2, if_neg (nI_pos (by omega)), if_pos (show nI n < (150 : Int32) from nI_lt (b := 150) hn (by decide)), v1, wr_at rfl hn (by decide)]
        simp only [pu]
        rw [e22, nI_1, Option.bind_some]
        simp only
        rw [if_neg (by decide), show updD (updD D 23 0 n (nI ch)) 22 0 1 (nI (n + 1)) 22 0 1 = nI (n + 1) by simp [updD_at]]
      · have e32 : updD (updD D 23 0 n (nI ch)) 22 0 1 (nI (n + 1)) 32 0 4 = nI n := by rw [fE 32 0 (by decide) (by decide)]; exact n3
        rw [e32, if_neg (show ¬ nI n = (150 : Int32) from fun q => w (nI_inj (b := 150) (by omega) (by decide) q)), wr_at rfl hn (by decide)]
        simp only [pu]
        have e32' : updD (updD (updD D 23 0 n (nI ch)) 22 0 1 (nI (n + 1))) 35 0 n (vp_nar .byte (nI ch).toInt8.toInt32) 32 0 4 = nI n := by rw [updD_other _ _ _ (by omega)]; exact e32
        rw [e32', nI_1, show updD (updD (updD (updD D 23 0 n (nI ch)) 22 0 1 (nI (n + 1))) 35 0 n (vp_nar .byte (nI ch).toInt8.toInt32)) 32 0 4 (nI (n + 1)) 32 0 4 = nI (n + 1) by simp [updD_at]]
      · have fr : ∀ k b, k ≠ 22 → k ≠ 23 → k ≠ 35 → k ≠ 32 → updD (updD (updD (updD D 23 0 n (nI ch)) 22 0 1 (nI (n + 1))) 35 0 n (vp_nar .byte (nI ch).toInt8.toInt32)) 32 0 4 (nI (n + 1)) k b = D k b := fun k b k1 k2 k3 k4 => by
          rw [updD_other _ _ _ (by omega), updD_other _ _ _ (by omega), fE k b k1 k2]
        have fr32 : ∀ j, j ≠ 4 → updD (updD (updD (updD D 23 0 n (nI ch)) 22 0 1 (nI (n + 1))) 35 0 n (vp_nar .byte (nI ch).toInt8.toInt32)) 32 0 4 (nI (n + 1)) 32 0 j = D 32 0 j := fun j hj => by
          rw [updD_at, if_neg (by omega), updD_other _ _ _ (by omega), fE 32 0 (by decide) (by decide)]
        refine ⟨by rw [fr 33 0 (by decide) (by decide) (by decide) (by decide)]; exact g1, ?_, g3.fr ⟨fun k b k1 k2 k3 => fr k b (by omega) (by omega) (by omega) (by omega), fr 24 0 (by decide) (by decide) (by decide) (by decide), fr32 2 (by decide), fr 34 0 (by decide) (by decide) (by decide) (by decide)⟩, ⟨n + 1, by omega, ?_, ?_, fun i hi => ?_⟩, g5.fr ⟨by rw [fr 27 0 (by decide) (by decide) (by decide) (by decide)], fr 28 0 (by decide) (by decide) (by decide) (by decide), fr 29 0 (by decide) (by decide) (by decide) (by decide), fr 30 0 (by decide) (by decide) (by decide) (by decide), fr32 18 (by decide), fr 39 0 (by decide) (by decide) (by decide) (by decide)⟩⟩
        · rw [fr 33 0 (by decide) (by decide) (by decide) (by decide)]
          exact g2.fr (fun k hk => fr k 0 (by omega) (by omega) (by omega) (by omega))
        · simp [updD_at]
        · simp [updD_at]
        · by_cases v : i = n
          · subst v
            refine ⟨ch, by omega, by simp [updD_at], ?_⟩
            rw [updD_at, if_neg (by omega), updD_at, if_pos ⟨rfl, rfl, rfl⟩]
            exact v2
          · obtain ⟨c', q1, q2, q3⟩ := n4 i (by omega)
            refine ⟨c', q1, ?_, ?_⟩
            · rw [updD_at, if_neg (by omega), updD_at, if_neg (by omega), updD_at, if_neg (by omega), updD_at, if_neg (by omega)]
              exact q2
            · rw [updD_at, if_neg (by omega), updD_at, if_neg (by omega), updD_at, if_neg (by omega), updD_at, if_neg (by omega)]
              exact q3
  · simp only [if_neg c]
    exact ⟨-1, D, D, rfl, rfl, h⟩
theorem ok_clearText : ∀ (_ : Unit) (D : Dt), Inv D → ∃ (r : Int32) (D1 D2 : Dt), f_X9_clearText D = some (r, D1) ∧ f_X10_clearText D1 = some (r, D2) ∧ Inv D2 := by
  intro _ D h
  obtain ⟨g1, g2, g3, ⟨n, n1, n2, n3, n4⟩, g5⟩ := h
  refine ⟨nI n, updD D 22 0 1 0, updD (updD D 22 0 1 0) 32 0 4 0, ?_, ?_, ?_⟩
  · rw [f_X9_clearText]
    simp only [pu]
    rw [n2]
  · rw [f_X10_clearText]
    simp only [pu]
    rw [updD_other _ _ _ (by omega), n3]
  · have fr : ∀ k b, k ≠ 22 → k ≠ 32 → updD (updD D 22 0 1 0) 32 0 4 0 k b = D k b := fun k b k1 k2 => by
      rw [updD_other _ _ _ (by omega), updD_other _ _ _ (by omega)]
    have fr32 : ∀ j, j ≠ 4 → updD (updD D 22 0 1 0) 32 0 4 0 32 0 j = D 32 0 j := fun j hj => by
      rw [updD_at, if_neg (by omega), updD_other _ _ _ (by omega)]
    refine ⟨by rw [fr 33 0 (by decide) (by decide)]; exact g1, ?_, g3.fr ⟨fun k b k1 k2 k3 => fr k b (by omega) (by omega), fr 24 0 (by decide) (by decide), fr32 2 (by decide), fr 34 0 (by decide) (by decide)⟩, ⟨0, by omega, ?_, ?_, fun i hi => by omega⟩, g5.fr ⟨by rw [fr 27 0 (by decide) (by decide)], fr 28 0 (by decide) (by decide), fr 29 0 (by decide) (by decide), fr 30 0 (by decide) (by decide), fr32 18 (by decide), fr 39 0 (by decide) (by decide)⟩⟩
    · rw [fr 33 0 (by decide) (by decide)]
      exact g2.fr (fun k hk => fr k 0 (by omega) (by omega))
    · simp [updD_at]; rfl
    · simp [updD_at]; rfl
theorem Inv_D0 : Inv D0 := by
  have e33 : ∀ j, D0 33 0 j = s0M j := fun j => rfl
  have hb : ∀ n, n < 12 → s0M (14 + 5 * n) = -1 ∧ s0M (14 + 5 * n + 2) = -1 := by decide
  have hh : ∀ i, i < 16 → s0M (74 + 6 * i) = -1 ∧ s0M (74 + 6 * i + 2) = -1 ∧ s0M (74 + 6 * i + 4) = -1 := by decide
  refine ⟨⟨⟨⟨0, 60, 100, 0, rfl, by omega, rfl, by omega, rfl, by omega, rfl, by omega⟩, fun n hn q => absurd (hb n hn).2 q⟩, ⟨0, fun _ => (0, 0), fun _ => none, fun k hk => ?_, ⟨rfl, fun p hp => by omega⟩, by omega, fun p hp => by omega, fun p q hp => by omega, (fun k g l _ hu => by cases hu), (fun j k g l g' l' _ _ _ hu => by cases hu)⟩, fun i hi => ⟨Or.inl (hh i hi).1, Or.inl (hh i hi).2.1, Or.inl (hh i hi).2.2⟩⟩, ⟨⟨rfl, rfl, rfl, rfl⟩, ⟨rfl, rfl, fun p hp q => absurd q (nI_pos (by omega)), fun n hn => ?_⟩, fun i hi => ?_⟩, ⟨0, 0, by omega, by omega, rfl, rfl, rfl, fun i hi => by omega⟩, ⟨0, by omega, rfl, rfl, fun i hi => by omega⟩, ⟨0, by omega, rfl, rfl, fun i hi => by omega⟩⟩
  · have : ∀ k, k < 24 → s0M (bix k) = -1 := by decide
    exact this k hk
  · have a4 : D0 4 0 n = -1 := by simp [D0, hn]
    have a6 : D0 6 0 n = -1 := by simp [D0, hn]
    rw [e33, e33, a4, a6, (hb n hn).1, (hb n hn).2]
    exact ⟨rfl, rfl, fun q => absurd rfl q, fun q => absurd rfl q⟩
  · have a10 : D0 10 0 i = -1 := by simp [D0, hi]
    have a12 : D0 12 0 i = -1 := by simp [D0, hi]
    have a14 : D0 14 0 i = -1 := by simp [D0, hi]
    rw [e33, e33, e33, a10, a12, a14, (hh i hi).1, (hh i hi).2.1, (hh i hi).2.2]
    exact ⟨rfl, rfl, rfl, fun q => absurd rfl q, fun q => absurd rfl q, fun q => absurd rfl q⟩
