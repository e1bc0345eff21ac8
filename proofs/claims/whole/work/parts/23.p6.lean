theorem SpV.lt {D : Dt} {b k g l : Nat} {us : Nat → Option (Nat × Nat)} (h : SpV D b us) (hk : k < 24) (hu : us k = some (g, l)) : g < 65536 ∧ l ≤ 16 := by
  rcases Nat.mod_two_eq_zero_or_one k with q | q
  · have e : k = 2 * (k / 2) := by omega
    have h1 := (h (k / 2) (by omega)).1
    rw [← e, hu] at h1
    exact h1.2.2
  · have e : k = 2 * (k / 2) + 1 := by omega
    have h1 := (h (k / 2) (by omega)).2
    rw [← e, hu] at h1
    exact h1.2.2
theorem p_ins {D0 E : Dt} {b b1 k n g l : Nat} {us : Nat → Option (Nat × Nat)} {wB wE : Nat → Nat} (hS : SpV D0 b1 us) (hA : Ap us) (hUS : US E b n wB wE) (hUd : Used us k n wB wE) (hk : k < 24) (hu : us k = some (g, l)) : ∃ D' n' wB' wE', f_X7_insertUsed b (nI g) (nI l) E = some D' ∧ US D' b n' wB' wE' ∧ Used us (k + 1) n' wB' wE' ∧ Eqx (SU b) E D' := by
  obtain ⟨hg, hl⟩ := hS.lt hk hu
  have hn := hUd.1
  obtain ⟨D', p, a1, a2, a3, a4, a5, a6⟩ := p_insertUsed (x := g) (l := l) hUS (by omega) (fun i j h1 h2 => Nat.le_of_lt (hUd.2.1 i j h1 h2)) (fun i hi => by
    obtain ⟨k', l', b1', b2, b3⟩ := hUd.2.2.1 i hi
    have := (hS.lt (by omega) b2).1
    omega) (by omega) hl
  refine ⟨D', n + 1, insF wB p g, insF wE p (g + zz l), a1, a5, hUd.some hu (fun i hi => ?_) a2 a3 a4, a6⟩
  obtain ⟨k', l', b1', b2, b3⟩ := hUd.2.2.1 i hi
  intro e
  rw [e] at b2
  have := hA k' k g l' g l (by omega) hk (by omega) b2 hu
  have z1 := zz_pos l
  have z2 := zz_pos l'
  omega
theorem SpV.eqx {D D' : Dt} {b b1 : Nat} {us : Nat → Option (Nat × Nat)} (h : SpV D b1 us) (hE : Eqx (SU b) D D') : SpV D' b1 us := h.keep (hE 4 b1 (by simp [SU])) (hE 5 b1 (by simp [SU])) (hE 6 b1 (by simp [SU])) (hE 7 b1 (by simp [SU]))
theorem p_listUsed {D : Dt} {b b1 : Nat} {us : Nat → Option (Nat × Nat)} (hS : SpV D b1 us) (hA : Ap us) : ∃ D' n wB wE, f_X7_listUsed b b1 D = some D' ∧ US D' b n wB wE ∧ Used us 24 n wB wE ∧ Eqx (SU b) D D' := by
  have key : ∃ e, lp (l_X7_listUsed_7 b b1) FU ((0 : Int32), updD D 16 b 2 0) = some e ∧ (∃ n wB wE, US e b n wB wE ∧ Used us 24 n wB wE ∧ Eqx (SU b) D e) := by
    apply lp_ex (fun s => ∃ m n wB wE, m ≤ 12 ∧ s.1 = nI m ∧ US s.2 b n wB wE ∧ Used us (2 * m) n wB wE ∧ Eqx (SU b) D s.2) (fun s => 12 - s.1.toNatClampNeg) _
    · refine ⟨0, 0, fun _ => 0, fun _ => 0, by omega, rfl, ⟨by simp [updD]; rfl, fun i hi => by omega⟩, ⟨by omega, fun i j _ h => by omega, fun i h => by omega, fun k g l h => by omega⟩, Eqx.upd ⟨Or.inl rfl, rfl⟩⟩
    · exact FU_big (by omega)
    · rintro ⟨y, E⟩ ⟨m, n, wB, wE, hm, ey, hUS, hUd, hE⟩
      simp only at ey hUS hE
      subst ey
      simp only [l_X7_listUsed_7]
      by_cases h1 : m = 12
      · right
        subst h1
        exact ⟨_, by rw [if_pos (by decide)], n, wB, wE, hUS, hUd, hE⟩
      · have hm2 : m < 12 := by omega
        have hSE := hS.eqx hE
        rw [if_neg (show ¬ (12 : Int32) ≤ nI m from nI_ge (b := 12) hm2 (by decide)), hasBlock_eq hSE hm2, Option.bind_some]
        have fin : ∀ (E1 : Dt) (n1 : Nat) (w1 w2 : Nat → Nat), US E1 b n1 w1 w2 → Used us (2 * m + 1) n1 w1 w2 → Eqx (SU b) D E1 → ∃ t, j_X7_listUsed_37_t4 b b1 (nI m, E) E1 = some (Sum.inl t) ∧ (∃ m' n wB wE, m' ≤ 12 ∧ t.1 = nI m' ∧ US t.2 b n wB wE ∧ Used us (2 * m') n wB wE ∧ Eqx (SU b) D t.2) ∧ 12 - t.1.toNatClampNeg < 12 - (nI m).toNatClampNeg := by
          intro E1 n1 w1 w2 g1 g2 g3
          have hS1 := hS.eqx g3
          have hmeas : 12 - (nI (m + 1)).toNatClampNeg < 12 - (nI m).toNatClampNeg := by
            rw [nI_clamp (by omega), nI_clamp (by omega)]
            omega
          simp only [j_X7_listUsed_37_t4]
          rw [hasOld_eq hS1 hm2, Option.bind_some]
          cases hu : us (2 * m + 1) with
          | none =>
            rw [if_pos rfl, if_pos rfl, nI_1]
            exact ⟨_, rfl, ⟨m + 1, n1, w1, w2, by omega, rfl, g1, g2.none hu, g3⟩, hmeas⟩
          | some x =>
            obtain ⟨g, l⟩ := x
            have hob := (hS1 m hm2).2
            rw [hu] at hob
            rw [if_neg (by simp), rd_at rfl hm2 (by decide), rd_at rfl hm2 (by decide), hob.1, hob.2.1]
            obtain ⟨D', n', wB', wE', c1, c2, c3, c4⟩ := p_ins hS hA g1 g2 (by omega) hu
            simp only at c1 ⊢
            rw [c1, Option.bind_some, nI_1]
            exact ⟨_, rfl, ⟨m + 1, n', wB', wE', by omega, rfl, c2, c3, g3.tr c4⟩, hmeas⟩
        left
        cases hu : us (2 * m) with
        | none =>
          rw [if_pos rfl, if_pos rfl]
          exact fin E n wB wE hUS (hUd.none hu) hE
        | some x =>
          obtain ⟨g, l⟩ := x
          have hob := (hSE m hm2).1
          rw [hu] at hob
          rw [if_neg (by simp), rd_at rfl hm2 (by decide), rd_at rfl hm2 (by decide), hob.1, hob.2.1]
          obtain ⟨D', n', wB', wE', c1, c2, c3, c4⟩ := p_ins hS hA hUS hUd (by omega) hu
          simp only at c1 ⊢
          rw [c1, Option.bind_some]
          exact fin D' n' wB' wE' c2 c3 (hE.tr c4)
  obtain ⟨e, h1, n, wB, wE, h2, h3, h4⟩ := key
  refine ⟨e, n, wB, wE, ?_, h2, h3, h4⟩
  simp only [f_X7_listUsed, pu]
  rw [h1, Option.bind_some]
