/-! the free blocks of a pool out of the sorted used ones -/
def flS (pb pe : Nat) (wB wE : Nat → Nat) : Nat → Nat × List (Nat × Nat)
  | 0 => (pb, [])
  | i + 1 => if pb ≤ wB i ∧ wB i < pe then (wE i, (flS pb pe wB wE i).2 ++ GR (flS pb pe wB wE i).1 (wB i)) else flS pb pe wB wE i
def freeP (pb pe n : Nat) (wB wE : Nat → Nat) : List (Nat × Nat) := (flS pb pe wB wE n).2 ++ GR (flS pb pe wB wE n).1 pe
theorem flS_le {pb pe n : Nat} {wB wE : Nat → Nat} (hpb : pb ≤ 65536) (hE : ∀ i, i < n → wE i ≤ 65536) : ∀ i, i ≤ n → (flS pb pe wB wE i).1 ≤ 65536 := by
  intro i
  induction i with
  | zero => intro _; exact hpb
  | succ i ih =>
    intro h
    simp only [flS]
    by_cases q : pb ≤ wB i ∧ wB i < pe
    · rw [if_pos q]; exact hE i (by omega)
    · rw [if_neg q]; exact ih (by omega)
theorem flS_pre {pb pe : Nat} {wB wE : Nat → Nat} : ∀ i j, i ≤ j → ∃ r, (flS pb pe wB wE j).2 = (flS pb pe wB wE i).2 ++ r := by
  intro i j
  induction j with
  | zero => intro h; rw [show i = 0 by omega]; exact ⟨[], by simp⟩
  | succ j ih =>
    intro h
    by_cases q : i = j + 1
    · rw [q]; exact ⟨[], by simp⟩
    · obtain ⟨r, hr⟩ := ih (by omega)
      simp only [flS]
      by_cases q2 : pb ≤ wB j ∧ wB j < pe
      · rw [if_pos q2]
        exact ⟨r ++ GR (flS pb pe wB wE j).1 (wB j), by simp [hr]⟩
      · rw [if_neg q2]; exact ⟨r, hr⟩
theorem US.eqb {D D' : Dt} {b n : Nat} {wB wE : Nat → Nat} (h : US D b n wB wE) (hE : Eqx (SB b) D D') : US D' b n wB wE := by
  have e1 := hE 16 b (by simp [SB])
  have e2 := hE 17 b (by simp [SB])
  have e3 := hE 18 b (by simp [SB])
  unfold US
  rw [e1, e2, e3]
  exact h
theorem p_listFree {D : Dt} {b n pb pe : Nat} {wB wE : Nat → Nat} {l0 : List (Nat × Nat)} (hU : US D b n wB wE) (hn : n ≤ 24) (hwB : ∀ i, i < n → wB i ≤ 65536) (hwE : ∀ i, i < n → wE i ≤ 65536) (hpb : pb < 65536) (hpe : pe ≤ 65536) (hp : pb < pe) (hB : BL D b l0) (hlen : (l0 ++ freeP pb pe n wB wE).length ≤ 292) : ∃ D', f_X7_listFree b (nI pb) (nI pe) D = some D' ∧ BL D' b (l0 ++ freeP pb pe n wB wE) ∧ Eqx (SB b) D D' := by
  have key : ∃ e, lp (l_X7_listFree_5 b (nI pb) (nI pe)) FU (nI pb, (0 : Int32), D) = some e ∧ (e.1 = nI (flS pb pe wB wE n).1 ∧ BL e.2 b (l0 ++ (flS pb pe wB wE n).2) ∧ Eqx (SB b) D e.2) := by
    apply lp_ex (fun s => ∃ i, i ≤ n ∧ s.1 = nI (flS pb pe wB wE i).1 ∧ s.2.1 = nI i ∧ BL s.2.2 b (l0 ++ (flS pb pe wB wE i).2) ∧ Eqx (SB b) D s.2.2) (fun s => 24 - s.2.1.toNatClampNeg) _
    · refine ⟨0, by omega, rfl, rfl, ?_, Eqx.rf⟩
      simp only [flS, List.append_nil]
      exact hB
    · exact FU_big (by omega)
    · rintro ⟨x, y, E⟩ ⟨i, hi, ex, ey, hBL, hE⟩
      simp only at ex ey hBL hE
      subst ex
      subst ey
      have hUE := hU.eqb hE
      simp only [l_X7_listFree_5]
      by_cases h1 : i = n
      · right
        subst h1
        by_cases h2 : i = 24
        · subst h2
          exact ⟨_, by rw [if_pos (by decide)], rfl, hBL, hE⟩
        · refine ⟨_, by rw [if_neg (show ¬ (24 : Int32) ≤ nI i from nI_ge (b := 24) (by omega) (by decide)), if_pos (by rw [hUE.1]; exact nI_le (Nat.le_refl _) (by omega))], rfl, hBL, hE⟩
      · left
        have hin : i < n := by omega
        have hmeas : 24 - (nI (i + 1)).toNatClampNeg < 24 - (nI i).toNatClampNeg := by
          rw [nI_clamp (by omega), nI_clamp (by omega)]
          omega
        have hb := hwB i hin
        have em : nI pe - (1 : Int32) = nI (pe - 1) := pk_sub (b := 1) (by omega)
        rw [if_neg (show ¬ (24 : Int32) ≤ nI i from nI_ge (b := 24) (by omega) (by decide)), hUE.1, if_neg (nI_ge hin (by omega)), rd_at rfl (show i < 24 by omega) (by decide), (hUE.2 i hin).1, em, isIn_eq, Option.bind_some]
        by_cases q : pb ≤ wB i ∧ wB i < pe
        · have hc : nI pb ≤ nI (wB i) ∧ nI (wB i) ≤ nI (pe - 1) := ⟨nI_le q.1 (by omega), nI_le (by omega) (by omega)⟩
          rw [if_pos hc, if_neg (by decide), rd_at rfl (show i < 24 by omega) (by decide), (hUE.2 i hin).1]
          have hfl := flS_le (pe := pe) (wB := wB) (Nat.le_of_lt hpb) hwE i (by omega)
          obtain ⟨r, hr⟩ := flS_pre (pb := pb) (pe := pe) (wB := wB) (wE := wE) (i + 1) n (by omega)
          have hs : flS pb pe wB wE (i + 1) = (wE i, (flS pb pe wB wE i).2 ++ GR (flS pb pe wB wE i).1 (wB i)) := by
            simp only [flS]
            rw [if_pos q]
          obtain ⟨D', c1, c2, c3⟩ := p_addStretch hfl hb hBL (by
            simp only [freeP, hr, hs, List.length_append] at hlen ⊢
            omega)
          rw [c1, Option.bind_some]
          have hU' := (hUE.eqb c3)
          rw [rd_at rfl (show i < 24 by omega) (by decide), (hU'.2 i hin).2, nI_1]
          refine ⟨_, rfl, ⟨i + 1, by omega, by rw [hs], rfl, ?_, hE.tr c3⟩, hmeas⟩
          rw [hs]
          simp only
          rw [← List.append_assoc]
          exact c2
        · have hc : ¬ (nI pb ≤ nI (wB i) ∧ nI (wB i) ≤ nI (pe - 1)) := by
            rw [nI_leI (by omega) (by omega), nI_leI (by omega) (by omega)]
            omega
          rw [if_neg hc, if_pos rfl, nI_1]
          have hs : flS pb pe wB wE (i + 1) = flS pb pe wB wE i := by
            simp only [flS]
            rw [if_neg q]
          exact ⟨_, rfl, ⟨i + 1, by omega, by rw [hs], rfl, by rw [hs]; exact hBL, hE⟩, hmeas⟩
  obtain ⟨⟨x, E⟩, h1, h2, h3, h4⟩ := key
  simp only at h2 h3 h4
  subst h2
  obtain ⟨D', c1, c2, c3⟩ := p_addStretch (flS_le (pe := pe) (wB := wB) (Nat.le_of_lt hpb) hwE n (Nat.le_refl _)) hpe h3 (by
    simp only [freeP, List.length_append] at hlen ⊢
    omega)
  refine ⟨D', ?_, ?_, h4.tr c3⟩
  · rw [f_X7_listFree, h1, Option.bind_some]
    simp only
    rw [c1, Option.bind_some]
  · rw [freeP, ← List.append_assoc]
    exact c2
