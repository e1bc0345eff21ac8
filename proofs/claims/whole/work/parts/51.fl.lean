/-! the list of free blocks as a function of the state -/
theorem FSeg_uniq {F : Nat → Prop} {pl : Nat} : ∀ (l l' : List (Nat × Nat)) (a b : Nat), FSeg F pl l a b → FSeg F pl l' a b → l = l' := by
  intro l
  induction l with
  | nil =>
    intro l' a b h h'
    cases l' with
    | nil => rfl
    | cons q r =>
      obtain ⟨g1, g2, g3, g4, g5⟩ := h'
      have hz := zz_pos q.2
      exact absurd (g4.2.2.2.1 q.1 (Nat.le_refl _) (by omega)) (h q.1 g1 (by omega))
  | cons q r ih =>
    intro l' a b h h'
    obtain ⟨g1, g2, g3, g4, g5⟩ := h
    have hz := zz_pos q.2
    have hF := g4.2.2.2.1 q.1 (Nat.le_refl _) (by omega)
    cases l' with
    | nil => exact absurd hF (h' q.1 g1 (by omega))
    | cons q' r' =>
      obtain ⟨k1, k2, k3, k4, k5⟩ := h'
      have hz' := zz_pos q'.2
      have hF' := k4.2.2.2.1 q'.1 (Nat.le_refl _) (by omega)
      have e1 : q.1 = q'.1 := by
        rcases Nat.lt_trichotomy q.1 q'.1 with w | w | w
        · exact absurd hF (k3 q.1 g1 w)
        · exact w
        · exact absurd hF' (g3 q'.1 k1 w)
      have e2 : q.2 = q'.2 := by
        rcases Nat.lt_trichotomy q.2 q'.2 with w | w | w
        · exact absurd g4.2.2.2.1 (k4.2.2.2.2 q.2 q.1 g4.1 w g4.2.2.1 (by omega) (by omega))
        · exact w
        · exact absurd k4.2.2.2.1 (g4.2.2.2.2 q'.2 q'.1 k4.1 w k4.2.2.1 (by omega) (by omega))
      have e3 : q = q' := Prod.ext e1 e2
      subst e3
      rw [ih r' _ b g5 k5]
theorem cat_uniq {ls ls' : Nat → List (Nat × Nat)} : ∀ n, (∀ p, p < n → ls p = ls' p) → cat ls n = cat ls' n := by
  intro n
  induction n with
  | zero => intro _; rfl
  | succ n ih =>
    intro h
    simp only [cat]
    rw [ih (fun p hp => h p (by omega)), h n (by omega)]
def DofS (s : Nat → Int32) : Dt := fun k _ i => if k = 1 then (if i = 0 then s 3 else s 5) else if k = 2 then s (6 + 2 * i) else if k = 3 then s (6 + 2 * i + 1) else if k = 4 then s (14 + 5 * i) else if k = 5 then s (14 + 5 * i + 1) else if k = 6 then s (14 + 5 * i + 2) else if k = 7 then s (14 + 5 * i + 3) else s (14 + 5 * i + 4)
theorem DofS_rel (s : Nat → Int32) : RelP (DofS s) 0 s := by
  refine ⟨rfl, rfl, fun p _ _ => ⟨rfl, rfl⟩, fun n _ => ⟨rfl, rfl, fun _ => rfl, fun _ => ⟨rfl, rfl⟩⟩⟩
def FLP (s : Nat → Int32) (l : List (Nat × Nat)) : Prop := LB l ∧ Fits s l ∧ (∀ D b b1, RelP D b1 s → ∃ D1, f_X7_take b b1 D = some D1 ∧ BL D1 b l ∧ Eqx (SV b) D D1) ∧ ∀ D', D' 33 0 = s → ∃ D2, f_X10_findsAllFree D' = some D2 ∧ BR D2 l ∧ EqR J89 D' D2
theorem fl_ex {s : Nat → Int32} (hG : GeoS s) : ∃ l, FLP s l := by
  obtain ⟨N, po, us, h1, h2, h3⟩ := hG
  have hD := DofS_rel s
  obtain ⟨D1, ls, a1, a2, a3, a4⟩ := p_take (b := 0) (hD.spv h1) (hD.pov h2 h3.1) h3
  refine ⟨cat ls N, LB_cat h3 a2, ⟨N, po, us, ls, h1, h2, h3, a2, rfl⟩, fun D b b1 hR => ?_, fun D' e => p_findsAllFree (by rw [e]; exact h1) (by rw [e]; exact h2) h3 a2⟩
  obtain ⟨E1, ls', b1', b2, b3, b4⟩ := p_take (b := b) (hR.spv h1) (hR.pov h2 h3.1) h3
  have e : cat ls' N = cat ls N := cat_uniq N (fun p hp => FSeg_uniq _ _ _ _ (b2 p hp) (a2 p hp))
  rw [e] at b3
  exact ⟨E1, b1', b3, b4⟩
noncomputable def FLl (s : Nat → Int32) : List (Nat × Nat) := @dite _ (GeoS s) (Classical.propDecidable _) (fun h => Classical.choose (fl_ex h)) (fun _ => [])
theorem FLl_spec {s : Nat → Int32} (hG : GeoS s) : FLP s (FLl s) := by
  have e : FLl s = Classical.choose (fl_ex hG) := dif_pos hG
  rw [e]
  exact Classical.choose_spec (fl_ex hG)
/-- where a block of a length is placed -/
noncomputable def plF (s : Nat → Int32) (m : Nat) : Option Nat := plc (s 3).toNatClampNeg m (FLl s)
theorem plF_plac {s : Nat → Int32} {m g : Nat} (hG : GeoS s) (h : plF s m = some g) : Plac s g m := Plac_plc (FLl_spec hG).2.1 h
def PolS (s : Nat → Int32) : Prop := ∃ P, s 3 = nI P ∧ P < 4
theorem plF_cls {D : Dt} {b b1 m : Nat} {s : Nat → Int32} (hR : RelP D b1 s) (hG : GeoS s) (hP : PolS s) (hm : m ≤ 16) : ∃ D1, f_X7_place b b1 (nI m) D = some (oI (plF s m), D1) ∧ Eqx (SV b) D D1 := by
  obtain ⟨P, p1, p2⟩ := hP
  obtain ⟨f1, f2, f3, f4⟩ := FLl_spec hG
  obtain ⟨D1, a1, a2, a4⟩ := f3 D b b1 hR
  refine ⟨D1, ?_, a4⟩
  have e1 : D1 1 b1 0 = nI P := by
    rw [a4 1 b1 (fun w => by have := w.1; omega), hR.1, p1]
  rw [f_X7_place, a1, Option.bind_some, e1, p_placeBy a2 f1 p2 hm, Option.bind_some, plF, p1, nI_clamp (by omega)]
theorem plF_ref {D : Dt} {m : Nat} {s : Nat → Int32} (hs : D 33 0 = s) (hG : GeoS s) (hP : PolS s) (hm : m ≤ 16) : ∃ D2, f_X10_places (nI m) D = some (oI (plF s m), D2) ∧ EqR J89 D D2 := by
  obtain ⟨P, p1, p2⟩ := hP
  obtain ⟨f1, f2, f3, f4⟩ := FLl_spec hG
  obtain ⟨D2, a1, a2, a3⟩ := f4 D hs
  refine ⟨D2, ?_, a3⟩
  rw [plF, p1, nI_clamp (by omega)]
  exact p_places a1 a2 f1 p2 (by rw [a3.1 33 0 (by decide) (by decide) (by decide), hs]; exact p1) hm
theorem idx_ref {D : Dt} {s : Nat → Int32} (hs : D 33 0 = s) (hG : GeoS s) : ∃ D2, f_X10_index D = some (nI (fiN (FLl s)), D2) ∧ EqR J89 D D2 := by
  obtain ⟨f1, f2, f3, f4⟩ := FLl_spec hG
  obtain ⟨D2, a1, a2, a3⟩ := f4 D hs
  exact ⟨D2, p_index a1 a2 f1, a3⟩
theorem plF_lt {s : Nat → Int32} {m : Nat} (hG : GeoS s) : ∀ g, plF s m = some g → g < 2 ^ 31 := fun g hg => by
  have := (plF_plac hG hg).lt
  omega
/-! frames of the reference's rows -/
def EqW (J : Nat → Prop) (D D' : Dt) : Prop := (∀ k b, k ≠ 33 → k ≠ 36 → k ≠ 37 → k ≠ 38 → k ≠ 32 → D' k b = D k b) ∧ ∀ j, ¬ J j → D' 32 0 j = D 32 0 j
theorem EqW.rf {J : Nat → Prop} {D : Dt} : EqW J D D := ⟨fun _ _ _ _ _ _ _ => rfl, fun _ _ => rfl⟩
theorem EqW.tr {J : Nat → Prop} {D D1 D2 : Dt} (h1 : EqW J D D1) (h2 : EqW J D1 D2) : EqW J D D2 := ⟨fun k b a1 a2 a3 a4 a5 => (h2.1 k b a1 a2 a3 a4 a5).trans (h1.1 k b a1 a2 a3 a4 a5), fun j hj => (h2.2 j hj).trans (h1.2 j hj)⟩
theorem EqR.W {J : Nat → Prop} {D D' : Dt} (h : EqR J D D') : EqW J D D' := ⟨fun k b _ _ a3 a4 a5 => h.1 k b a3 a4 a5, h.2⟩
theorem EqW.row {J : Nat → Prop} {D : Dt} {k : Nat} {g : Nat → Int32} (hk : k = 33 ∨ k = 36) : EqW J D (rowD D k 0 g) := ⟨fun k' b a1 a2 a3 a4 a5 => rowD_ne _ _ (by omega), fun j _ => by rw [rowD_ne _ _ (by omega)]⟩
theorem EqW.FH' {D D' : Dt} (h : EqW JR D D') : FH D D' := ⟨fun k b a1 a2 a3 => h.1 k b (by omega) (by omega) (by omega) (by omega) (by omega), h.1 24 0 (by decide) (by decide) (by decide) (by decide) (by decide), h.2 2 (by simp [JR]), h.1 34 0 (by decide) (by decide) (by decide) (by decide) (by decide)⟩
theorem EqW.FT' {D D' : Dt} (h : EqW JR D D') : FT D D' := ⟨by rw [h.1 22 0 (by decide) (by decide) (by decide) (by decide) (by decide)], h.1 23 0 (by decide) (by decide) (by decide) (by decide) (by decide), h.2 4 (by simp [JR]), h.1 35 0 (by decide) (by decide) (by decide) (by decide) (by decide)⟩
theorem EqW.FP' {D D' : Dt} (h : EqW JR D D') : FP D D' := ⟨by rw [h.1 27 0 (by decide) (by decide) (by decide) (by decide) (by decide)], h.1 28 0 (by decide) (by decide) (by decide) (by decide) (by decide), h.1 29 0 (by decide) (by decide) (by decide) (by decide) (by decide), h.1 30 0 (by decide) (by decide) (by decide) (by decide) (by decide), h.2 18 (by simp [JR]), h.1 39 0 (by decide) (by decide) (by decide) (by decide) (by decide)⟩
theorem Inv_w {D D2 : Dt} (h : Inv D) (h2 : EqW JR D D2) (e : ∀ j, j < 170 → D2 33 0 j = D 33 0 j) : Inv D2 := by
  obtain ⟨a1, a2, a3, a4, a5⟩ := h
  exact ⟨Good_ext a1 e, RelS_ext (a2.fr (fun k hk => h2.1 k 0 (by omega) (by omega) (by omega) (by omega) (by omega))) e, a3.fr h2.FH', a4.fr h2.FT', a5.fr h2.FP'⟩
theorem fin_w {D Dk D1 E1 Dn D2 : Dt} (hI : Inv D) (hT : FT D Dk) (hP : FP D Dk) (hE : Eqx ZC Dk D1) (hQ : EqW JR D1 E1) (hN : EqN E1 Dn) (hH : HisR Dn) (h3 : EqW JR Dn D2) (hG : Good (D2 33 0)) (hR : RelS D1 0 (D2 33 0)) : Inv D2 := by
  refine ⟨hG, hR.fr (fun k hk => ?_), hH.fr h3.FH', hI.2.2.2.1.fr ((((hT.tr hE.FT).tr hQ.FT').tr hN.T).tr h3.FT'), hI.2.2.2.2.fr ((((hP.tr hE.FP).tr hQ.FP').tr hN.P).tr h3.FP')⟩
  rw [h3.1 k 0 (by omega) (by omega) (by omega) (by omega) (by omega), hN.1 k 0 (by omega) (by omega), hQ.1 k 0 (by omega) (by omega) (by omega) (by omega) (by omega)]
theorem p_keepsApart {D : Dt} : f_X10_keepsApart D = some (rowD D 36 0 (cpM (D 36 0) (D 33 0) 170)) := by
  have h : lp l_X10_keepsApart_2 FU ((0 : Int32), D) = some (rowD D 36 0 (cpM (D 36 0) (D 33 0) 170)) := by
    apply lp_to (fun i => (nI i, rowD D 36 0 (cpM (D 36 0) (D 33 0) i))) 170
    · show (nI 0, rowD D 36 0 (cpM (D 36 0) (D 33 0) 0)) = _
      rw [cpM_0, rowD_self]
      rfl
    · exact FU_big (by decide)
    · intro i hi
      simp only [l_X10_keepsApart_2]
      rw [if_neg (g170 hi), rd_at rfl hi (by decide), wr_at rfl hi (by decide), rowD_ne _ _ (by omega), rowD_upd, cpM_s, nI_1]
    · simp only [l_X10_keepsApart_2]
      rw [if_pos (show (170 : Int32) ≤ nI 170 by decide)]
  rw [f_X10_keepsApart, h, Option.bind_some]
theorem p_exchanges {D : Dt} : f_X10_exchanges D = some (rowD (rowD D 33 0 (cpM (D 33 0) (D 36 0) 170)) 36 0 (cpM (D 36 0) (D 33 0) 170)) := by
  have h : lp l_X10_exchanges_2 FU ((0 : Int32), D) = some (rowD (rowD D 33 0 (cpM (D 33 0) (D 36 0) 170)) 36 0 (cpM (D 36 0) (D 33 0) 170)) := by
    apply lp_to (fun i => (nI i, rowD (rowD D 33 0 (cpM (D 33 0) (D 36 0) i)) 36 0 (cpM (D 36 0) (D 33 0) i))) 170
    · show (nI 0, rowD (rowD D 33 0 (cpM (D 33 0) (D 36 0) 0)) 36 0 (cpM (D 36 0) (D 33 0) 0)) = _
      rw [cpM_0, cpM_0, rowD_self, rowD_self]
      rfl
    · exact FU_big (by decide)
    · intro i hi
      have e33 : rowD (rowD D 33 0 (cpM (D 33 0) (D 36 0) i)) 36 0 (cpM (D 36 0) (D 33 0) i) 33 0 i = D 33 0 i := by
        rw [rowD_ne _ _ (by omega), rowD_at]
        exact if_neg (by omega)
      have e36 : rowD (rowD D 33 0 (cpM (D 33 0) (D 36 0) i)) 36 0 (cpM (D 36 0) (D 33 0) i) 36 0 i = D 36 0 i := by
        rw [rowD_at]
        exact if_neg (by omega)
      simp only [l_X10_exchanges_2]
      rw [if_neg (g170 hi), rd_at rfl hi (by decide), rd_at rfl hi (by decide), e33, e36, wr_at rfl hi (by decide), wr_at rfl hi (by decide), rowD_comm _ _ _ (show ¬ (36 = 33 ∧ 0 = 0) by omega), rowD_upd, cpM_s, rowD_comm _ _ _ (show ¬ (33 = 36 ∧ 0 = 0) by omega), rowD_upd, cpM_s, nI_1]
    · simp only [l_X10_exchanges_2]
      rw [if_pos (show (170 : Int32) ≤ nI 170 by decide)]
  rw [f_X10_exchanges, h, Option.bind_some]
