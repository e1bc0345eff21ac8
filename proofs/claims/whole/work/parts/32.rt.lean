/-! routes: the greatest blocks of assigned addresses -/
theorem FSeg_pw2 {F : Nat → Prop} {pl : Nat} : ∀ (l : List (Nat × Nat)) (a b : Nat), FSeg F pl l a b → l.Pairwise (fun q r => q.1 + zz q.2 ≤ r.1) := by
  intro l
  induction l with
  | nil => intro a b _; exact List.Pairwise.nil
  | cons x r ih =>
    intro a b h
    obtain ⟨g1, g2, g3, g4, g5⟩ := h
    rw [List.pairwise_cons]
    exact ⟨fun q hq => (FSeg_mem r _ b g5 q hq).1, ih _ b g5⟩
theorem route_bound {N : Nat} {po : Nat → Nat × Nat} {us : Nat → Option (Nat × Nat)} (hG : Geo N po us) {l : List (Nat × Nat)} {a b : Nat} (h : FSeg (Au us) 0 l a b) : l.length ≤ 24 := by
  apply pig (fun q c => c < 24 ∧ ∃ g m, us c = some (g, m) ∧ q.1 ≤ g ∧ g < q.1 + zz q.2)
  · intro q hq
    obtain ⟨h1, h2, h3⟩ := FSeg_mem _ _ _ h q hq
    obtain ⟨m1, m2, m3, m4, m5⟩ := h3
    have hz := zz_pos q.2
    obtain ⟨k, g, m, k1, k2, k3, k4⟩ := m4 q.1 (Nat.le_refl _) (by omega)
    obtain ⟨b1, b2, b3, _⟩ := hG.2.2.2.1 k g m k1 k2
    refine ⟨k, k1, k1, g, m, k2, ?_, by omega⟩
    rcases Nat.lt_or_ge m q.2 with w | w
    · exact absurd (fun y y1 y2 => ⟨k, g, m, k1, k2, y1, y2⟩) (m5 m g (by omega) w b3 k3 k4)
    · exact nest_le w m3 b3 k4
  · refine (FSeg_pw2 _ _ _ h).imp ?_
    intro q r w c h1 h2
    obtain ⟨_, g, m, w1, w2, w3⟩ := h1
    obtain ⟨_, g', m', v1, v2, v3⟩ := h2
    rw [w1] at v1
    injection v1 with v1
    injection v1 with v1 v1'
    omega
def rtS (wB wE : Nat → Nat) : Nat → Nat × Nat × List (Nat × Nat)
  | 0 => (0, 0, [])
  | i + 1 => if wB i = (rtS wB wE i).2.1 then ((rtS wB wE i).1, wE i, (rtS wB wE i).2.2) else (wB i, wE i, (rtS wB wE i).2.2 ++ GR (rtS wB wE i).1 (rtS wB wE i).2.1)
def rtL (wB wE : Nat → Nat) (n : Nat) : List (Nat × Nat) := (rtS wB wE n).2.2 ++ GR (rtS wB wE n).1 (rtS wB wE n).2.1
theorem rtS_pre {wB wE : Nat → Nat} : ∀ i j, i ≤ j → ∃ r, (rtS wB wE j).2.2 = (rtS wB wE i).2.2 ++ r := by
  intro i j
  induction j with
  | zero => intro h; rw [show i = 0 by omega]; exact ⟨[], by simp⟩
  | succ j ih =>
    intro h
    by_cases q : i = j + 1
    · rw [q]; exact ⟨[], by simp⟩
    · obtain ⟨r, hr⟩ := ih (by omega)
      simp only [rtS]
      by_cases q2 : wB j = (rtS wB wE j).2.1
      · rw [if_pos q2]; exact ⟨r, hr⟩
      · rw [if_neg q2]
        exact ⟨r ++ GR (rtS wB wE j).1 (rtS wB wE j).2.1, by simp [hr]⟩
theorem rt_seg {N : Nat} {po : Nat → Nat × Nat} {us : Nat → Option (Nat × Nat)} {n : Nat} {wB wE : Nat → Nat} (hU : Used us 24 n wB wE) (hG : Geo N po us) : FSeg (Au us) 0 (rtL wB wE n) 0 65536 ∧ ∀ i, i ≤ n → (rtS wB wE i).1 ≤ 65536 ∧ (rtS wB wE i).2.1 ≤ 65536 := by
  obtain ⟨hn, hs, h3, h4⟩ := hU
  have hA := hG.2.2.2.2
  have hw : ∀ i, i < n → wB i < wE i ∧ wE i ≤ 65536 ∧ AllF (Au us) (wB i) (wE i) := by
    intro i hi
    obtain ⟨k, l, a1, a2, a3⟩ := h3 i hi
    obtain ⟨_, _, _, p, w1, w2, w3⟩ := hG.2.2.2.1 k _ l a1 a2
    have := (hG.2.1 p w1).2.2.2
    have := zz_pos l
    exact ⟨by omega, by omega, fun y y1 y2 => ⟨k, wB i, l, a1, a2, y1, by omega⟩⟩
  have hap : ∀ i j, i < j → j < n → wE i ≤ wB j := by
    intro i j hij hj
    obtain ⟨k, l, a1, a2, a3⟩ := h3 i (by omega)
    obtain ⟨k', l', b1, b2, b3⟩ := h3 j hj
    have hlt := hs i j hij hj
    have hne : k ≠ k' := by
      intro w
      rw [w, b2] at a2
      injection a2 with a2
      injection a2 with a2 _
      omega
    have := hA k k' _ l _ l' a1 b1 hne a2 b2
    have := zz_pos l'
    omega
  have gap : ∀ i y, i ≤ n → (∀ j, j < i → wE j ≤ y) → (∀ j, i ≤ j → j < n → y < wB j) → ¬ Au us y := by
    intro i y hi q1 q2 hAu
    obtain ⟨k, g, l, a1, a2, a3, a4⟩ := hAu
    obtain ⟨j, b1, b2, b3⟩ := h4 k g l a1 a2
    rcases Nat.lt_or_ge j i with w | w
    · have := q1 j w; omega
    · have := q2 j w b1; omega
  have key : ∀ i, i ≤ n → (rtS wB wE i).1 ≤ (rtS wB wE i).2.1 ∧ (rtS wB wE i).2.1 ≤ 65536 ∧ FSeg (Au us) 0 (rtS wB wE i).2.2 0 (rtS wB wE i).1 ∧ AllF (Au us) (rtS wB wE i).1 (rtS wB wE i).2.1 ∧ Bd (Au us) 0 (rtS wB wE i).1 ∧ (∀ j, j < i → wE j ≤ (rtS wB wE i).2.1) ∧ (∀ j, i ≤ j → j < n → (rtS wB wE i).2.1 ≤ wB j) := by
    intro i
    induction i with
    | zero =>
      intro _
      simp only [rtS]
      exact ⟨Nat.le_refl _, by omega, fun y h1 h2 => by omega, fun y h1 h2 => by omega, Bd_al (Nat.zero_mod _), fun j hj => by omega, fun j _ _ => Nat.zero_le _⟩
    | succ i ih =>
      intro hi
      obtain ⟨c1, c2, c3, c4, c5, c6, c7⟩ := ih (by omega)
      obtain ⟨w1, w2, w3⟩ := hw i (by omega)
      have e1 := c7 i (Nat.le_refl _) (by omega)
      simp only [rtS]
      by_cases q : wB i = (rtS wB wE i).2.1
      · rw [if_pos q]
        refine ⟨by simp only; omega, w2, c3, fun y y1 y2 => ?_, c5, fun j hj => ?_, fun j hj hj2 => hap i j (by omega) hj2⟩
        · rcases Nat.lt_or_ge y (rtS wB wE i).2.1 with v | v
          · exact c4 y y1 v
          · exact w3 y (by omega) y2
        · by_cases v : j = i
          · rw [v]; exact Nat.le_refl _
          · have := c6 j (by omega)
            simp only; omega
      · rw [if_neg q]
        have hlt : (rtS wB wE i).2.1 < wB i := by omega
        have hno : ∀ y, (rtS wB wE i).2.1 ≤ y → y < wB i → ¬ Au us y := by
          intro y y1 y2
          refine gap i y (by omega) (fun j hj => by have := c6 j hj; omega) (fun j hj hj2 => ?_)
          by_cases v : j = i
          · rw [v]; exact y2
          · have := hs i j (by omega) hj2
            omega
        refine ⟨Nat.le_of_lt w1, w2, ?_, w3, ?_, fun j hj => ?_, fun j hj hj2 => hap i j (by omega) hj2⟩
        · have g1 := GR_seg (F := Au us) (pl := 0) (e := 65536) (by decide) (by decide) c2 (Or.inr (hno _ (Nat.le_refl _) hlt)) _ _ (Nat.le_refl _) c1 c4 c5 (Or.inl rfl)
          have g2 : FSeg (Au us) 0 [] (rtS wB wE i).2.1 (wB i) := hno
          have g3 := FSeg_app _ _ _ _ _ c1 (Nat.le_of_lt hlt) g1 g2
          rw [List.append_nil] at g3
          exact FSeg_app _ _ _ _ _ (Nat.zero_le _) (by simp only; omega) c3 g3
        · exact Bd_used (fun _ => hno _ (by simp only; omega) (by simp only; omega))
        · by_cases v : j = i
          · rw [v]; exact Nat.le_refl _
          · have := c6 j (by omega)
            simp only; omega
  refine ⟨?_, fun i hi => ?_⟩
  · obtain ⟨c1, c2, c3, c4, c5, c6, c7⟩ := key n (Nat.le_refl _)
    have hno : ∀ y, (rtS wB wE n).2.1 ≤ y → ¬ Au us y := fun y y1 => gap n y (Nat.le_refl _) (fun j hj => by have := c6 j hj; omega) (fun j hj hj2 => by omega)
    have g1 := GR_seg (F := Au us) (pl := 0) (e := 65536) (by decide) (by decide) c2 (Or.inr (hno _ (Nat.le_refl _))) _ _ (Nat.le_refl _) c1 c4 c5 (Or.inl rfl)
    have g2 : FSeg (Au us) 0 [] (rtS wB wE n).2.1 65536 := fun y y1 _ => hno y y1
    have g3 := FSeg_app _ _ _ _ _ c1 c2 g1 g2
    rw [List.append_nil] at g3
    exact FSeg_app _ _ _ _ _ (Nat.zero_le _) (by omega) c3 g3
  · obtain ⟨c1, c2, _⟩ := key i hi
    omega
theorem US.eqb2 {D D' : Dt} {b b2 n : Nat} {wB wE : Nat → Nat} (h : US D b n wB wE) (hE : Eqx (SB b2) D D') : US D' b n wB wE := by
  have e1 := hE 16 b (by simp [SB])
  have e2 := hE 17 b (by simp [SB])
  have e3 := hE 18 b (by simp [SB])
  unfold US
  rw [e1, e2, e3]
  exact h
theorem p_listRoutes {D : Dt} {b b1 b2 N : Nat} {po : Nat → Nat × Nat} {us : Nat → Option (Nat × Nat)} (hS : SpV D b1 us) (hG : Geo N po us) : ∃ D' l, f_X7_listRoutes b b1 b2 D = some D' ∧ FSeg (Au us) 0 l 0 65536 ∧ l.length ≤ 24 ∧ BL D' b2 l ∧ Eqx (fun k b' => SU b k b' ∨ SB b2 k b') D D' := by
  obtain ⟨D1, n, wB, wE, e1, hUS, hUd, hE1⟩ := p_listUsed (b := b) hS hG.2.2.2.2
  obtain ⟨hseg, hle⟩ := rt_seg hUd hG
  have hbd := route_bound hG hseg
  have hE2 : Eqx (SB b2) D1 (updD D1 19 b2 2 0) := Eqx.upd ⟨Or.inl rfl, rfl⟩
  have hn := hUd.1
  have hw : ∀ i, i < n → wB i ≤ 65536 ∧ wE i ≤ 65536 := by
    intro i hi
    obtain ⟨k, l, a1, a2, a3⟩ := hUd.2.2.1 i hi
    obtain ⟨_, _, _, p, w1, w2, w3⟩ := hG.2.2.2.1 k _ l a1 a2
    have := (hG.2.1 p w1).2.2.2
    omega
  have key : ∃ e, lp (l_X7_listRoutes_18 b b2) FU ((0 : Int32), (0 : Int32), (0 : Int32), updD D1 19 b2 2 0) = some e ∧ (e.1 = nI (rtS wB wE n).1 ∧ e.2.1 = nI (rtS wB wE n).2.1 ∧ BL e.2.2 b2 (rtS wB wE n).2.2 ∧ Eqx (SB b2) D1 e.2.2) := by
    apply lp_n (fun i s => s.1 = nI (rtS wB wE i).1 ∧ s.2.1 = nI (rtS wB wE i).2.1 ∧ s.2.2.1 = nI i ∧ BL s.2.2.2 b2 (rtS wB wE i).2.2 ∧ Eqx (SB b2) D1 s.2.2.2) _ n
    · exact ⟨rfl, rfl, rfl, ⟨by simp [updD, rtS]; rfl, fun i x y h => by simp [rtS] at h⟩, hE2⟩
    · omega
    · rintro i ⟨x, y, z, E⟩ hi ⟨ex, ey, ez, hB, hE⟩
      simp only at ex ey ez hB hE
      subst ex
      subst ey
      subst ez
      have hUE := hUS.eqb2 hE
      simp only [l_X7_listRoutes_18]
      by_cases h1 : i = n
      · right
        subst h1
        by_cases h2 : i = 24
        · subst h2
          exact ⟨_, by rw [if_pos (by decide)], rfl, rfl, hB, hE⟩
        · exact ⟨_, by rw [if_neg (g24 (by omega)), if_pos (by rw [hUE.1]; exact nI_le (Nat.le_refl _) (by omega))], rfl, rfl, hB, hE⟩
      · left
        have hin : i < n := by omega
        have hwi := hw i hin
        have hli := hle i hi
        refine ⟨hin, ?_⟩
        rw [if_neg (g24 (by omega)), hUE.1, if_neg (nI_ge hin (by omega)), rd_at rfl (show i < 24 by omega) (by decide), (hUE.2 i hin).1, if_eq (by omega) (by omega), nI_1]
        by_cases q : wB i = (rtS wB wE i).2.1
        · have hs : rtS wB wE (i + 1) = ((rtS wB wE i).1, wE i, (rtS wB wE i).2.2) := by
            simp only [rtS]
            rw [if_pos q]
          rw [if_pos q, rd_at rfl (show i < 24 by omega) (by decide), (hUE.2 i hin).2, hs]
          exact ⟨_, rfl, rfl, rfl, rfl, hB, hE⟩
        · have hs : rtS wB wE (i + 1) = (wB i, wE i, (rtS wB wE i).2.2 ++ GR (rtS wB wE i).1 (rtS wB wE i).2.1) := by
            simp only [rtS]
            rw [if_neg q]
          obtain ⟨r, hr⟩ := rtS_pre (wB := wB) (wE := wE) (i + 1) n (by omega)
          rw [if_neg q]
          obtain ⟨D', c1, c2, c3⟩ := p_addStretch hli.1 hli.2 hB (by
            rw [rtL, hr, hs] at hbd
            simp only [List.length_append] at hbd ⊢
            omega)
          have hU' := hUE.eqb2 c3
          rw [c1, Option.bind_some, rd_at rfl (show i < 24 by omega) (by decide), rd_at rfl (show i < 24 by omega) (by decide), (hU'.2 i hin).1, (hU'.2 i hin).2, hs]
          exact ⟨_, rfl, rfl, rfl, rfl, c2, hE.tr c3⟩
  obtain ⟨⟨x, y, E⟩, h1, h2, h3, h4, h5⟩ := key
  simp only at h2 h3 h4 h5
  subst h2
  subst h3
  have hli := hle n (Nat.le_refl _)
  obtain ⟨D', c1, c2, c3⟩ := p_addStretch hli.1 hli.2 h4 (by
    rw [rtL] at hbd
    omega)
  refine ⟨D', rtL wB wE n, ?_, hseg, hbd, c2, (hE1.mono (fun _ _ h => Or.inl h)).tr ((h5.tr c3).mono (fun _ _ h => Or.inr h))⟩
  simp only [f_X7_listRoutes, pu]
  rw [e1, Option.bind_some]
  rw [h1, Option.bind_some]
  simp only
  rw [c1, Option.bind_some]
/-! the reference's routes -/
theorem p_nextBlock {D : Dt} {us : Nat → Option (Nat × Nat)} {a : Nat} (hV : RV (D 33 0) us) (ha : a ≤ 65536) : ∃ r, f_X10_nextBlock (nI a) D = some (nI r) ∧ r ≤ 65536 ∧ (∀ k g l, k < 24 → us k = some (g, l) → a ≤ g → r ≤ g) ∧ (r = 65536 ∨ ∃ k l, k < 24 ∧ us k = some (r, l) ∧ a ≤ r) := by
  have key : ∃ e, lp (l_X10_nextBlock_5 (nI a) D) FU ((65536 : Int32), (0 : Int32)) = some e ∧ ∃ r, e = nI r ∧ r ≤ 65536 ∧ (∀ k g l, k < 24 → us k = some (g, l) → a ≤ g → r ≤ g) ∧ (r = 65536 ∨ ∃ k l, k < 24 ∧ us k = some (r, l) ∧ a ≤ r) := by
    apply lp_n (fun i s => ∃ r, s = (nI r, nI i) ∧ r ≤ 65536 ∧ (∀ k g l, k < i → us k = some (g, l) → a ≤ g → r ≤ g) ∧ (r = 65536 ∨ ∃ k l, k < 24 ∧ us k = some (r, l) ∧ a ≤ r)) _ 24
    · exact ⟨65536, rfl, Nat.le_refl _, fun k g l h => by omega, Or.inl rfl⟩
    · decide
    · rintro k s hk ⟨r, rfl, h1, h2, h3⟩
      simp only [l_X10_nextBlock_5]
      by_cases w : k = 24
      · right
        subst w
        exact ⟨_, by rw [if_pos (by decide)], r, rfl, h1, h2, h3⟩
      · left
        have hk2 : k < 24 := by omega
        refine ⟨hk2, ?_⟩
        rw [if_neg (g24 hk2), blockAt_eq hk2, Option.bind_some, nI_1]
        have hob := hV k hk2
        have ext : ∀ r', r' ≤ r → (∀ g l, us k = some (g, l) → a ≤ g → r' ≤ g) → ∀ j g l, j < k + 1 → us j = some (g, l) → a ≤ g → r' ≤ g := by
          intro r' hr' q j g l hj hu hg
          by_cases e : j = k
          · rw [e] at hu; exact q g l hu hg
          · have := h2 j g l (by omega) hu hg
            omega
        cases hu : us k with
        | none =>
          rw [hu] at hob
          rw [show D 33 0 (bix k) = -1 from hob, if_pos]
          · exact ⟨_, rfl, r, rfl, h1, ext r (Nat.le_refl _) (fun g l q => by rw [hu] at q; cases q), h3⟩
          · rw [Int32.lt_iff_toInt_lt, nI_toInt (by omega)]
            have : (-1 : Int32).toInt = -1 := by decide
            omega
        | some q =>
          obtain ⟨g, m⟩ := q
          rw [hu] at hob
          obtain ⟨o1, o2, o3, o4⟩ := hob
          simp only at o1 o2 o3 o4
          rw [o1, if_lt (by omega) (by omega)]
          by_cases w1 : g < a
          · rw [if_pos w1]
            exact ⟨_, rfl, r, rfl, h1, ext r (Nat.le_refl _) (fun g' l' q hq => by rw [hu] at q; cases q; omega), h3⟩
          · rw [if_neg w1, Option.bind_some, if_le (by omega) (by omega)]
            by_cases w2 : r ≤ g
            · rw [if_pos w2]
              exact ⟨_, rfl, r, rfl, h1, ext r (Nat.le_refl _) (fun g' l' q hq => by rw [hu] at q; cases q; omega), h3⟩
            · rw [if_neg w2, Option.bind_some]
              exact ⟨_, rfl, g, rfl, by omega, ext g (by omega) (fun g' l' q hq => by rw [hu] at q; cases q; omega), Or.inr ⟨k, m, hk2, hu, by omega⟩⟩
  obtain ⟨e, h1, r, rfl, h2⟩ := key
  exact ⟨r, by rw [f_X10_nextBlock, h1, Option.bind_some], h2⟩
theorem p_fr17 {D : Dt} {us : Nat → Option (Nat × Nat)} {a l : Nat} {x : Int32} (hV : RV (D 33 0) us) (hA : Ap us) (ha : a < 65536) (hM : Mx (Au us) 0 a l) : lp (l_X10_findsRoute_17 D (x, nI a)) FU (0 : Int32) = some (nI l) := by
  obtain ⟨m1, m2, m3, m4, m5⟩ := hM
  have key : ∃ e, lp (l_X10_findsRoute_17 D (x, nI a)) FU (0 : Int32) = some e ∧ e = nI l := by
    apply lp_n (fun i s => s = nI i ∧ i ≤ l) _ l
    · exact ⟨rfl, Nat.zero_le _⟩
    · omega
    · rintro i s hi ⟨rfl, hl⟩
      have hz := zz_le i
      have hzp := zz_pos i
      have hb := (sov_full (a := a) hA (zz i)).1
      have hf := (sov_full (a := a) hA (zz i)).2
      simp only [l_X10_findsRoute_17]
      rw [size_eq (by omega), Option.bind_some, gd_z, pk_rem (by omega) hzp (by omega), if_z (by have := Nat.mod_le a (zz i); omega)]
      by_cases w : i = l
      · right
        subst w
        rw [if_pos m3, p_assignedIn hV (by omega) m2, Option.bind_some, Option.bind_some, if_le (by omega) (by omega), if_pos (by have := hf.mpr m4; omega)]
        exact ⟨_, rfl, rfl⟩
      · left
        refine ⟨by omega, nI (i + 1), ?_, rfl, by omega⟩
        by_cases w2 : a % zz i = 0
        · rw [if_pos w2, p_assignedIn hV (by omega) (by omega), Option.bind_some, Option.bind_some, if_le (by omega) (by omega), if_neg, nI_1]
          intro w3
          exact m5 i a (by omega) (by omega) w2 (Nat.le_refl _) (by omega) (hf.mp (by omega))
        · rw [if_neg w2, nI_1]
  obtain ⟨e, h1, h2⟩ := key
  rw [h1, h2]
theorem p_findsRoute {D : Dt} {us : Nat → Option (Nat × Nat)} {N : Nat} {po : Nat → Nat × Nat} {l : List (Nat × Nat)} {x : Int32} {t : Nat} (hV : RV (D 33 0) us) (hG : Geo N po us) (hF : FSeg (Au us) 0 l 0 65536) (hl : l.length ≤ 24) (hx : ∀ j, j < l.length → (nI j = x ↔ j = t)) : f_X10_findsRoute x D = some (if t < l.length then (nI (xA l t), updD D 32 0 15 (nI (yA l t))) else ((if 0 ≤ x then -9 else nI l.length), D)) := by
  have hA := hG.2.2.2.2
  have nxt : ∀ a r, a ≤ 65536 → (∀ k g m, k < 24 → us k = some (g, m) → a ≤ g → r ≤ g) → (∀ k g m, k < 24 → us k = some (g, m) → g < a → g + zz m ≤ a) → ∀ y, a ≤ y → y < r → y < 65536 → ¬ Au us y := by
    intro a r _ h1 h2 y y1 y2 _ hy
    obtain ⟨k, g, m, k1, k2, k3, k4⟩ := hy
    rcases Nat.lt_or_ge g a with w | w
    · have := h2 k g m k1 k2 w; omega
    · have := h1 k g m k1 k2 w; omega
  obtain ⟨r0, c1, c2, c3, c4⟩ := p_nextBlock hV (show 0 ≤ 65536 by omega)
  have key : ∃ e, lp (l_X10_findsRoute_8 x D) FU ((0 : Int32), nI r0) = some e ∧ e = (if t < l.length then (nI (xA l t), updD D 32 0 15 (nI (yA l t))) else ((if 0 ≤ x then -9 else nI l.length), D)) := by
    apply lp_n (fun i s => ∃ a, s = (nI i, nI a) ∧ a ≤ 65536 ∧ i ≤ l.length ∧ FSeg (Au us) 0 (l.drop i) a 65536 ∧ (a = 65536 ∨ ∃ k m, k < 24 ∧ us k = some (a, m)) ∧ ∀ j, j < i → j ≠ t) _ l.length
    · refine ⟨r0, rfl, c2, Nat.zero_le _, ?_, ?_, fun j hj => by omega⟩
      · rw [List.drop_zero]
        refine FSeg_skip l (Nat.zero_le _) (nxt 0 r0 (by omega) c3 (fun k g m _ _ w => by omega)) hF
      · rcases c4 with w | ⟨k, m, w1, w2, w3⟩
        · exact Or.inl w
        · exact Or.inr ⟨k, m, w1, w2⟩
    · omega
    · rintro i s hi ⟨a, rfl, ha, hil, hFa, hab, hnt⟩
      simp only [l_X10_findsRoute_8]
      by_cases w : a = 65536
      · right
        subst w
        have hend : i = l.length := by
          rcases Nat.lt_or_ge i l.length with v | v
          · rw [List.drop_eq_getElem_cons v] at hFa
            have := hFa.1
            have := hFa.2.1
            have := zz_pos (l[i]).2
            omega
          · omega
        rw [if_pos (show (65536 : Int32) ≤ nI 65536 by decide)]
        have ht : ¬ t < l.length := fun v => hnt t (by omega) rfl
        rw [if_neg ht, hend]
        by_cases v : 0 ≤ x
        · exact ⟨_, by rw [if_pos v], by rw [if_pos v]⟩
        · exact ⟨_, by rw [if_neg v], by rw [if_neg v]⟩
      · have ha2 : a < 65536 := by omega
        rw [if_neg (show ¬ (65536 : Int32) ≤ nI a from nI_ge (b := 65536) ha2 (by decide))]
        have hAu : Au us a := by
          rcases hab with v | ⟨k, m, v1, v2⟩
          · exact absurd v w
          · exact ⟨k, a, m, v1, v2, Nat.le_refl _, by have := zz_pos m; omega⟩
        have hi2 : i < l.length := by
          rcases Nat.lt_or_ge i l.length with v | v
          · exact v
          · rw [List.drop_eq_nil_of_le v] at hFa
            exact absurd hAu (hFa a (Nat.le_refl _) ha2)
        have hli : l[i] = (xA l i, yA l i) := by
          have h1 := getD_some hi2
          rw [List.getElem?_eq_getElem hi2] at h1
          injection h1
        rw [List.drop_eq_getElem_cons hi2, hli] at hFa
        obtain ⟨f1, f2, f3, f4, f5⟩ := hFa
        simp only at f1 f2 f3 f4 f5
        have hxa : xA l i = a := by
          rcases Nat.lt_or_ge a (xA l i) with v | v
          · exact absurd hAu (f3 a (Nat.le_refl _) v)
          · omega
        rw [hxa] at f2 f4 f5
        have hz := zz_pos (yA l i)
        rw [p_fr17 hV hA ha2 f4, Option.bind_some]
        by_cases v : i = t
        · right
          rw [if_pos ((hx i hi2).mpr v), ← v, if_pos hi2, hxa]
          exact ⟨_, rfl, rfl⟩
        · left
          refine ⟨hi2, ?_⟩
          rw [if_neg (fun q => v ((hx i hi2).mp q)), size_eq f4.2.1, Option.bind_some, nI_add]
          obtain ⟨r, d1, d2, d3, d4⟩ := p_nextBlock hV (show a + zz (yA l i) ≤ 65536 by omega)
          rw [d1, Option.bind_some, nI_1]
          have hle : a + zz (yA l i) ≤ r := by
            rcases d4 with u | ⟨k, m, u1, u2, u3⟩
            · omega
            · exact u3
          refine ⟨_, rfl, r, rfl, d2, by omega, ?_, ?_, fun j hj => ?_⟩
          · refine FSeg_skip _ hle (nxt _ r (by omega) d3 (fun k g m k1 k2 u => ?_)) f5
            obtain ⟨b1, b2, b3, _⟩ := hG.2.2.2.1 k g m k1 k2
            rcases Nat.lt_or_ge m (yA l i) with q | q
            · have q1 := nest_le (Nat.le_of_lt q) b3 f4.2.2.1 u
              apply Classical.byContradiction
              intro q2
              exact f4.2.2.2.2 m g (by omega) q b3 q1 (by omega) (fun y y1 y2 => ⟨k, g, m, k1, k2, y1, y2⟩)
            · exact nest_in q f4.2.2.1 b3 u
          · rcases d4 with u | ⟨k, m, u1, u2, u3⟩
            · exact Or.inl u
            · exact Or.inr ⟨k, m, u1, u2⟩
          · by_cases u : j = i
            · rw [u]; exact v
            · exact hnt j (by omega)
  obtain ⟨e, h1, h2⟩ := key
  rw [f_X10_findsRoute, show (0 : Int32) = nI 0 from rfl, c1, Option.bind_some]
  rw [show nI 0 = (0 : Int32) from rfl, h1, h2]
