/-! makePlan -/
def pnV (u : Nat → Int32) (k : Nat) (o : Option Nat) : Nat → Int32 := match o with
  | none => u
  | some g => upd u (14 + 5 * k) (nI g)
noncomputable def pnU (u : Nat → Int32) (o : Option Nat) : Nat → Int32 := match o with
  | none => u
  | some k => pnV u k (plF u (u (14 + 5 * k + 1)).toNatClampNeg)
theorem pnU_n (u : Nat → Int32) : pnU u none = u := rfl
theorem pnU_s (u : Nat → Int32) (k : Nat) : pnU u (some k) = pnV u k (plF u (u (14 + 5 * k + 1)).toNatClampNeg) := rfl
theorem pnV_s (u : Nat → Int32) (k g : Nat) : pnV u k (some g) = upd u (14 + 5 * k) (nI g) := rfl
noncomputable def pSq (s : Nat → Int32) : Nat → Nat → Int32
  | 0 => s
  | i + 1 => pnU (pSq s i) (bs (pSq s i) 12).1
theorem pSq_0 (s : Nat → Int32) : pSq s 0 = s := by
  simp only [pSq]
theorem pSq_s (s : Nat → Int32) (i : Nat) : pSq s (i + 1) = pnU (pSq s i) (bs (pSq s i) 12).1 := by
  simp only [pSq]
theorem bs_get {s : Nat → Int32} {k : Nat} (hG : GeoS s) (h : (bs s 12).1 = some k) : ∃ m g, k < 12 ∧ s (14 + 5 * k) ≠ -1 ∧ s (14 + 5 * k + 1) = nI m ∧ 5 ≤ m ∧ m ≤ 16 ∧ plF s m = some g ∧ g < 65536 ∧ GeoS (upd s (14 + 5 * k) (nI g)) ∧ ia s k = some (bs s 12).2 := by
  obtain ⟨k1, k2, k3⟩ := bs_k 12 k h
  obtain ⟨g0, m, b1, b2, b3, b4, b5, b6, b7⟩ := hG.blk k1 k2.1
  have hia : ia s k = (plF s m).map (fun g => fiN (FLl (upd s (14 + 5 * k) (nI g)))) := by rw [ia, b2, nI_clamp (by omega)]
  cases hp : plF s m with
  | none => rw [hia, hp] at k3; cases k3
  | some g =>
    have hpla := plF_plac hG hp
    exact ⟨m, g, k1, k2.1, b2, b3, b4, hp, hpla.lt, GeoS_mv1 k1 b2 b3 b4 hpla, k3⟩
theorem pSq_get {s : Nat → Int32} {i k m g : Nat} (h : (bs (pSq s i) 12).1 = some k) (h1 : pSq s i (14 + 5 * k + 1) = nI m) (hm : m ≤ 16) (hp : plF (pSq s i) m = some g) : pSq s (i + 1) = upd (pSq s i) (14 + 5 * k) (nI g) := by
  rw [pSq_s, h, pnU_s, h1, nI_clamp (by omega), hp, pnV_s]
theorem pSq_ok {s : Nat → Int32} (hG : GeoS s) (hP : PolS s) : ∀ i, GeoS (pSq s i) ∧ PolS (pSq s i) := by
  intro i
  induction i with
  | zero => rw [pSq_0]; exact ⟨hG, hP⟩
  | succ i ih =>
    cases hb : (bs (pSq s i) 12).1 with
    | none => rw [pSq_s, hb, pnU_n]; exact ih
    | some k =>
      obtain ⟨m, g, a1, a2, a3, a4, a5, a6, a7, a8, a9⟩ := bs_get ih.1 hb
      rw [pSq_get hb a3 a5 a6]
      refine ⟨a8, ?_⟩
      obtain ⟨P, p1, p2⟩ := ih.2
      exact ⟨P, by rw [pk_un (by omega)]; exact p1, p2⟩
noncomputable def ggO (u : Nat → Int32) : Option Nat := (bs u 12).1.bind (fun k => plF u (u (14 + 5 * k + 1)).toNatClampNeg)
theorem ggO_get {u : Nat → Int32} {k m g : Nat} (h : (bs u 12).1 = some k) (h1 : u (14 + 5 * k + 1) = nI m) (hm : m ≤ 16) (hp : plF u m = some g) : ggO u = some g := by
  rw [ggO, h, Option.bind_some, h1, nI_clamp (by omega), hp]
def EqM (D D' : Dt) : Prop := ∀ k b, ¬ ZQ k b → k ≠ 27 → k ≠ 28 → k ≠ 29 → k ≠ 30 → D' k b = D k b
theorem EqM.tr {D D1 D2 : Dt} (h : EqM D D1) (g : EqM D1 D2) : EqM D D2 := fun k b a1 a2 a3 a4 a5 => (g k b a1 a2 a3 a4 a5).trans (h k b a1 a2 a3 a4 a5)
theorem EqP.M {D D' : Dt} (h : EqP D D') : EqM D D' := fun k b a1 a2 _ _ _ => h.1 k b a1 a2
theorem EqM.u {D : Dt} {k i : Nat} {x : Int32} (h : k = 27 ∨ k = 28 ∨ k = 29 ∨ k = 30) : EqM D (updD D k 0 i x) := fun k' b _ _ _ _ _ => updD_other _ _ _ (by omega)
theorem p_fillPlan {D : Dt} {s : Nat → Int32} {cnt : Nat} (hR : RelP D 0 s) (hG : GeoS s) (hP : PolS s) (hc : cnt ≤ 12) : ∃ D', f_X3_fillPlan 0 (nI cnt) D = some D' ∧ ∃ np, np ≤ cnt ∧ (∀ j, j < np → (bs (pSq s j) 12).1 ≠ none) ∧ (np = cnt ∨ (bs (pSq s np) 12).1 = none) ∧ D' 27 0 11 = nI np ∧ (∀ j, j < np → D' 28 0 j = oI (bs (pSq s j) 12).1 ∧ D' 29 0 j = oI (ggO (pSq s j)) ∧ D' 30 0 j = nI (bs (pSq s j) 12).2) ∧ EqM D D' := by
  have hR' : RelP (updD D 27 0 11 0) 0 s := hR.fr (fun k k1 k2 => updD_other _ _ _ (by omega))
  obtain ⟨Di, a1, a2, a3⟩ := p_imagine hR' hG
  have i11 : Di 27 0 11 = nI 0 := by
    rw [a3 27 0 (by simp [ZQ])]
    simp [updD_at]
    rfl
  have key : ∃ e, lp (l_X3_fillPlan_12 (nI cnt)) FU ((0 : Int32), Di) = some e ∧ ∃ np, np ≤ cnt ∧ (∀ j, j < np → (bs (pSq s j) 12).1 ≠ none) ∧ (np = cnt ∨ (bs (pSq s np) 12).1 = none) ∧ e 27 0 11 = nI np ∧ (∀ j, j < np → e 28 0 j = oI (bs (pSq s j) 12).1 ∧ e 29 0 j = oI (ggO (pSq s j)) ∧ e 30 0 j = nI (bs (pSq s j) 12).2) ∧ EqM D e := by
    apply lp_n (fun i x => x.1 = nI i ∧ PS x.2 (pSq s i) (FLl (pSq s i)) ∧ (∀ j, j < i → (bs (pSq s j) 12).1 ≠ none) ∧ x.2 27 0 11 = nI i ∧ (∀ j, j < i → x.2 28 0 j = oI (bs (pSq s j) 12).1 ∧ x.2 29 0 j = oI (ggO (pSq s j)) ∧ x.2 30 0 j = nI (bs (pSq s j) 12).2) ∧ EqM D x.2) _ cnt
    · rw [pSq_0]
      exact ⟨rfl, a2, fun j hj => by omega, i11, fun j hj => by omega, (EqM.u (Or.inl rfl)).tr (EqP.q a3).M⟩
    · omega
    · rintro i ⟨y, E⟩ hi ⟨x1, x2, x3, x4, x5, x6⟩
      simp only at x1 x2 x3 x4 x5 x6
      subst x1
      simp only [l_X3_fillPlan_12]
      rw [if_le (by omega) (by omega)]
      by_cases w : cnt ≤ i
      · right
        rw [if_pos w]
        exact ⟨_, rfl, i, hi, x3, Or.inl (by omega), x4, x5, x6⟩
      · rw [if_neg w, if_neg (g12 (by omega))]
        obtain ⟨hGi, hPi⟩ := pSq_ok hG hP i
        obtain ⟨E1, b1, b2, b3, b4, b5, b6⟩ := p_findBest x2 hGi hPi
        rw [b1, Option.bind_some]
        simp only
        rw [if_b']
        cases hb : (bs (pSq s i) 12).1 with
        | none =>
          right
          rw [if_pos rfl]
          refine ⟨_, rfl, i, hi, x3, Or.inr hb, b3.2.trans x4, fun j hj => ?_, x6.tr b3.M⟩
          rw [b3.1 28 0 (by simp [ZQ]) (by decide), b3.1 29 0 (by simp [ZQ]) (by decide), b3.1 30 0 (by simp [ZQ]) (by decide)]
          exact x5 j hj
        | some k =>
          left
          refine ⟨by omega, ?_⟩
          obtain ⟨m, g, c1, c2, c3, c4, c5, c6, c7, c8, c9⟩ := bs_get hGi hb
          have hq := pSq_get hb c3 c5 c6
          have hgg := ggO_get hb c3 c5 c6
          obtain ⟨g', d1, d2⟩ := b6 k hb
          rw [c3, nI_clamp (by omega), c6] at d1
          injection d1 with d1
          subst d1
          rw [hb, oI_s] at b4
          rw [if_neg (by simp), wr_at rfl (show i < 12 by omega) (by decide), wr_at rfl (show i < 12 by omega) (by decide), wr_at rfl (show i < 12 by omega) (by decide)]
          simp only [pu]
          have f5 : ∀ (F : Dt) (k0 : Nat) (x : Int32), k0 ≠ 27 → updD F k0 0 i x 27 0 = F 27 0 := fun F k0 x hk => updD_other _ _ _ (by omega)
          rw [f5 _ 30 _ (by decide), f5 _ 29 _ (by decide), f5 _ 28 _ (by decide), b3.2, x4, b4, d2, b5, nI_1]
          have f6 : updD (updD (updD (updD E1 28 0 i (nI k)) 29 0 i (nI g)) 30 0 i (nI (bs (pSq s i) 12).2)) 27 0 11 (nI (i + 1)) 27 0 5 = nI k := by
            rw [updD_at, if_neg (by omega), f5 _ 30 _ (by decide), f5 _ 29 _ (by decide), f5 _ 28 _ (by decide), b4]
          have f7 : updD (updD (updD (updD E1 28 0 i (nI k)) 29 0 i (nI g)) 30 0 i (nI (bs (pSq s i) 12).2)) 27 0 11 (nI (i + 1)) 27 0 6 = nI g := by
            rw [updD_at, if_neg (by omega), f5 _ 30 _ (by decide), f5 _ 29 _ (by decide), f5 _ 28 _ (by decide), d2]
          rw [f6, f7, isNetwork_nI c1, Option.bind_some, if_neg (by decide), wr_at rfl c1 (by decide)]
          have hR8 : RelP (updD (updD (updD (updD (updD E1 28 0 i (nI k)) 29 0 i (nI g)) 30 0 i (nI (bs (pSq s i) 12).2)) 27 0 11 (nI (i + 1))) 4 8 k (nI g)) 8 (pSq s (i + 1)) := by
            rw [hq]
            exact RelP_u4 (b2.1.fr (fun k k1 k2 => by rw [updD_other _ _ _ (by omega), updD_other _ _ _ (by omega), updD_other _ _ _ (by omega), updD_other _ _ _ (by omega)])) c1 c2
          obtain ⟨q1, q2, q3, q4⟩ := FLl_spec (show GeoS (pSq s (i + 1)) by rw [hq]; exact c8)
          obtain ⟨E2, e1, e2, e3⟩ := q3 _ 1 8 hR8
          rw [e1, Option.bind_some]
          have r27 : E2 27 0 11 = nI (i + 1) := by
            rw [e3 27 0 (fun w => by have := w.2.1; omega), updD_other _ _ _ (by omega)]
            simp [updD_at]
          refine ⟨_, rfl, rfl, ⟨hR8.fr (fun k k1 k2 => e3 k 8 (fun w => by have := w.1; omega)), e2⟩, fun j hj => ?_, r27, fun j hj => ?_, ?_⟩
          · by_cases v : j = i
            · rw [v, hb]; simp
            · exact x3 j (by omega)
          · simp only
            rw [e3 28 0 (fun w => by have := w.2.1; omega), e3 29 0 (fun w => by have := w.2.1; omega), e3 30 0 (fun w => by have := w.2.1; omega)]
            by_cases v : j = i
            · subst v
              rw [hb, hgg]
              refine ⟨?_, ?_, ?_⟩
              · simp [updD_at]; rfl
              · simp [updD_at]; rfl
              · simp [updD_at]
            · obtain ⟨z1, z2, z3⟩ := x5 j (by omega)
              refine ⟨?_, ?_, ?_⟩
              · simp only [updD_at]
                simp [v]
                rw [b3.1 28 0 (by simp [ZQ]) (by decide)]
                exact z1
              · simp only [updD_at]
                simp [v]
                rw [b3.1 29 0 (by simp [ZQ]) (by decide)]
                exact z2
              · simp only [updD_at]
                simp [v]
                rw [b3.1 30 0 (by simp [ZQ]) (by decide)]
                exact z3
          · exact ((((((x6.tr b3.M).tr (EqM.u (Or.inr (Or.inl rfl)))).tr (EqM.u (Or.inr (Or.inr (Or.inl rfl))))).tr (EqM.u (Or.inr (Or.inr (Or.inr rfl))))).tr (EqM.u (Or.inl rfl))).tr EqP.s.M).tr (EqP.q (e3.mono SV_ZQ)).M
  obtain ⟨E, k1, k2⟩ := key
  refine ⟨E, ?_, k2⟩
  rw [f_X3_fillPlan]
  simp only [pu]
  rw [a1, Option.bind_some, k1, Option.bind_some]
def EqV (D D' : Dt) : Prop := (∀ k b, k ≠ 33 → k ≠ 36 → k ≠ 37 → k ≠ 38 → k ≠ 32 → k ≠ 39 → D' k b = D k b) ∧ D' 32 0 2 = D 32 0 2 ∧ D' 32 0 4 = D 32 0 4
theorem EqV.tr {D D1 D2 : Dt} (h : EqV D D1) (g : EqV D1 D2) : EqV D D2 := ⟨fun k b a1 a2 a3 a4 a5 a6 => (g.1 k b a1 a2 a3 a4 a5 a6).trans (h.1 k b a1 a2 a3 a4 a5 a6), g.2.1.trans h.2.1, g.2.2.trans h.2.2⟩
theorem EqV.r {D D' : Dt} (h : EqR J16 D D') : EqV D D' := ⟨fun k b _ _ a3 a4 a5 _ => h.1 k b a3 a4 a5, h.2 2 (by simp [J16]), h.2 4 (by simp [J16])⟩
theorem EqV.u {D : Dt} {k i : Nat} {x : Int32} (h : k = 33 ∨ k = 39 ∨ (k = 32 ∧ i = 18)) : EqV D (updD D k 0 i x) := ⟨fun k' b _ _ _ _ _ _ => updD_other _ _ _ (by omega), by rw [updD_at, if_neg (by omega)], by rw [updD_at, if_neg (by omega)]⟩
theorem EqV.row {D : Dt} {k : Nat} {g : Nat → Int32} (hk : k = 33 ∨ k = 36) : EqV D (rowD D k 0 g) := ⟨fun k' b a1 a2 a3 a4 a5 _ => rowD_ne _ _ (by omega), by rw [rowD_ne _ _ (by omega)], by rw [rowD_ne _ _ (by omega)]⟩
theorem p_mp26 {D1 E : Dt} {s : Nat → Int32} {cnt np : Nat} (hG : GeoS s) (hP : PolS s) (hc : cnt ≤ 12) (hc1 : 1 ≤ cnt) (hnp : np ≤ cnt) (hK : ∀ j, j < np → (bs (pSq s j) 12).1 ≠ none) (hend : np = cnt ∨ (bs (pSq s np) 12).1 = none) (h33 : E 33 0 = s) (h36 : ∀ j, j < 170 → E 36 0 j = s j) (h18 : E 32 0 18 = nI 0) (hV : EqV D1 E) : ∃ e, lp (l_X10_makePlan_26 (nI cnt)) FU (o9 (bs s 12).1, E) = some e ∧ (e 33 0 = pSq s np ∧ (∀ j, j < 170 → e 36 0 j = s j) ∧ e 32 0 18 = nI np ∧ (∀ j, j < np → e 39 0 (3 * j) = oI (bs (pSq s j) 12).1 ∧ e 39 0 (3 * j + 1) = oI (ggO (pSq s j)) ∧ e 39 0 (3 * j + 2) = nI (bs (pSq s j) 12).2) ∧ EqV D1 e) := by
  apply lp_n (fun i x => x.1 = (if i < np then o9 (bs (pSq s i) 12).1 else -9) ∧ x.2 33 0 = pSq s i ∧ (∀ j, j < 170 → x.2 36 0 j = s j) ∧ x.2 32 0 18 = nI i ∧ (∀ j, j < i → x.2 39 0 (3 * j) = oI (bs (pSq s j) 12).1 ∧ x.2 39 0 (3 * j + 1) = oI (ggO (pSq s j)) ∧ x.2 39 0 (3 * j + 2) = nI (bs (pSq s j) 12).2) ∧ EqV D1 x.2) _ np
  · rw [pSq_0]
    refine ⟨?_, h33, h36, h18, fun j hj => by omega, hV⟩
    by_cases w : 0 < np
    · rw [if_pos w]
    · rw [if_neg w]
      have h0 : np = 0 := by omega
      rw [h0, pSq_0] at hend
      rcases hend with q | q
      · omega
      · simp only [q]; rfl
  · omega
  · rintro i ⟨y, F⟩ hi ⟨x1, x2, x3, x4, x5, x6⟩
    simp only at x1 x2 x3 x4 x5 x6
    subst x1
    simp only [l_X10_makePlan_26]
    by_cases w : i < np
    · left
      refine ⟨w, ?_⟩
      rw [if_pos w]
      cases hb : (bs (pSq s i) 12).1 with
      | none => exact absurd hb (hK i w)
      | some k =>
        obtain ⟨hGi, hPi⟩ := pSq_ok hG hP i
        obtain ⟨m, g, c1, c2, c3, c4, c5, c6, c7, c8, c9⟩ := bs_get hGi hb
        have hq := pSq_get hb c3 c5 c6
        have hgg := ggO_get hb c3 c5 c6
        have hne : ¬ nI k = (-9 : Int32) := by
          intro q
          have := congrArg Int32.toInt q
          rw [nI_toInt (by omega)] at this
          have e : (-9 : Int32).toInt = -9 := by decide
          rw [e] at this
          omega
        obtain ⟨F1, t1, t2, t3⟩ := p_indexAfter x2 hGi hPi c1 c3 c4 c5
        rw [c6, oI_s] at t3
        have g33 : F1 33 0 = pSq s i := (t2.1 33 0 (by decide) (by decide) (by decide)).trans x2
        have g18 : F1 32 0 18 = nI i := (t2.2 18 (by simp [J16])).trans x4
        rw [show o9 (some k) = nI k from rfl, if_neg hne, t1, Option.bind_some, c9, show o9 (some (bs (pSq s i) 12).2) = nI (bs (pSq s i) 12).2 from rfl]
        simp only [p_X10_net, Option.bind_some]
        rw [wr_at rfl (show 14 + 5 * k < 170 by omega) (by decide), t3]
        have u18 : ∀ (X : Dt) (k0 j : Nat) (v : Int32), k0 ≠ 32 → updD X k0 0 j v 32 0 = X 32 0 := fun X k0 j v hk => updD_other _ _ _ (by omega)
        have i3 : (3 : Int32) * nI i = nI (3 * i) := pk_mul 3 i
        simp only [u18 _ 33 _ _ (show 33 ≠ 32 by decide), g18, i3, t3]
        rw [wr_at rfl (show 3 * i < 36 by omega) (by decide)]
        simp only [u18 _ 39 _ _ (show 39 ≠ 32 by decide), u18 _ 33 _ _ (show 33 ≠ 32 by decide), g18, i3, t3]
        rw [nI_1 (3 * i), wr_at rfl (show 3 * i + 1 < 36 by omega) (by decide)]
        simp only [u18 _ 39 _ _ (show 39 ≠ 32 by decide), u18 _ 33 _ _ (show 33 ≠ 32 by decide), g18, i3, t3]
        rw [show (2 : Int32) = nI 2 from rfl, nI_add, wr_at rfl (show 3 * i + 2 < 36 by omega) (by decide)]
        simp only [pu, u18 _ 39 _ _ (show 39 ≠ 32 by decide), u18 _ 33 _ _ (show 33 ≠ 32 by decide), g18]
        rw [nI_1 i]
        have hV12 : EqV D1 (updD (updD (updD (updD (updD F1 33 0 (14 + 5 * k) (nI g)) 39 0 (3 * i) (nI k)) 39 0 (3 * i + 1) (nI g)) 39 0 (3 * i + 2) (nI (bs (pSq s i) 12).2)) 32 0 18 (nI (i + 1))) := (((((x6.tr (EqV.r t2)).tr (EqV.u (Or.inl rfl))).tr (EqV.u (Or.inr (Or.inl rfl)))).tr (EqV.u (Or.inr (Or.inl rfl)))).tr (EqV.u (Or.inr (Or.inl rfl)))).tr (EqV.u (Or.inr (Or.inr ⟨rfl, rfl⟩)))
        have h12_33 : updD (updD (updD (updD (updD F1 33 0 (14 + 5 * k) (nI g)) 39 0 (3 * i) (nI k)) 39 0 (3 * i + 1) (nI g)) 39 0 (3 * i + 2) (nI (bs (pSq s i) 12).2)) 32 0 18 (nI (i + 1)) 33 0 = pSq s (i + 1) := by
          rw [updD_other _ _ _ (by omega), updD_other _ _ _ (by omega), updD_other _ _ _ (by omega), updD_other _ _ _ (by omega), updD_same, g33, hq]
        have h12_18 : updD (updD (updD (updD (updD F1 33 0 (14 + 5 * k) (nI g)) 39 0 (3 * i) (nI k)) 39 0 (3 * i + 1) (nI g)) 39 0 (3 * i + 2) (nI (bs (pSq s i) 12).2)) 32 0 18 (nI (i + 1)) 32 0 18 = nI (i + 1) := by simp [updD_at]
        have h12_36 : ∀ j, j < 170 → updD (updD (updD (updD (updD F1 33 0 (14 + 5 * k) (nI g)) 39 0 (3 * i) (nI k)) 39 0 (3 * i + 1) (nI g)) 39 0 (3 * i + 2) (nI (bs (pSq s i) 12).2)) 32 0 18 (nI (i + 1)) 36 0 j = s j := fun j hj => by
          rw [updD_other _ _ _ (by omega), updD_other _ _ _ (by omega), updD_other _ _ _ (by omega), updD_other _ _ _ (by omega), updD_other _ _ _ (by omega), t2.1 36 0 (by decide) (by decide) (by decide)]
          exact x3 j hj
        have h12_39 : ∀ j, j < i + 1 → updD (updD (updD (updD (updD F1 33 0 (14 + 5 * k) (nI g)) 39 0 (3 * i) (nI k)) 39 0 (3 * i + 1) (nI g)) 39 0 (3 * i + 2) (nI (bs (pSq s i) 12).2)) 32 0 18 (nI (i + 1)) 39 0 (3 * j) = oI (bs (pSq s j) 12).1 ∧ updD (updD (updD (updD (updD F1 33 0 (14 + 5 * k) (nI g)) 39 0 (3 * i) (nI k)) 39 0 (3 * i + 1) (nI g)) 39 0 (3 * i + 2) (nI (bs (pSq s i) 12).2)) 32 0 18 (nI (i + 1)) 39 0 (3 * j + 1) = oI (ggO (pSq s j)) ∧ updD (updD (updD (updD (updD F1 33 0 (14 + 5 * k) (nI g)) 39 0 (3 * i) (nI k)) 39 0 (3 * i + 1) (nI g)) 39 0 (3 * i + 2) (nI (bs (pSq s i) 12).2)) 32 0 18 (nI (i + 1)) 39 0 (3 * j + 2) = nI (bs (pSq s j) 12).2 := by
          intro j hj
          by_cases v : j = i
          · subst v
            rw [hb, hgg]
            refine ⟨?_, ?_, ?_⟩
            · rw [updD_at, if_neg (by omega), updD_at, if_neg (by omega), updD_at, if_neg (by omega), updD_at, if_pos ⟨rfl, rfl, rfl⟩]; rfl
            · rw [updD_at, if_neg (by omega), updD_at, if_neg (by omega), updD_at, if_pos ⟨rfl, rfl, rfl⟩]; rfl
            · rw [updD_at, if_neg (by omega), updD_at, if_pos ⟨rfl, rfl, rfl⟩]
          · obtain ⟨z1, z2, z3⟩ := x5 j (by omega)
            rw [updD_at, if_neg (by omega), updD_at, if_neg (by omega), updD_at, if_neg (by omega), updD_at, if_neg (by omega), updD_at, if_neg (by omega), updD_at, if_neg (by omega), updD_at, if_neg (by omega), updD_at, if_neg (by omega), updD_at, if_neg (by omega), updD_at, if_neg (by omega), updD_at, if_neg (by omega), updD_at, if_neg (by omega), updD_at, if_neg (by omega), updD_at, if_neg (by omega), updD_at, if_neg (by omega), t2.1 39 0 (by decide) (by decide) (by decide)]
            exact ⟨z1, z2, z3⟩
        generalize updD (updD (updD (updD (updD F1 33 0 (14 + 5 * k) (nI g)) 39 0 (3 * i) (nI k)) 39 0 (3 * i + 1) (nI g)) 39 0 (3 * i + 2) (nI (bs (pSq s i) 12).2)) 32 0 18 (nI (i + 1)) = F2 at *
        rw [h12_18, if_le (by omega) (by omega)]
        by_cases v : cnt ≤ i + 1
        · rw [if_pos v]
          refine ⟨_, rfl, ?_, h12_33, h12_36, h12_18, h12_39, hV12⟩
          rw [if_neg (by omega)]
        · obtain ⟨hGi1, hPi1⟩ := pSq_ok hG hP (i + 1)
          obtain ⟨F3, r1, r2⟩ := p_best h12_33 hGi1 hPi1
          rw [if_neg v, r1, Option.bind_some]
          refine ⟨_, rfl, ?_, (r2.1 33 0 (by decide) (by decide) (by decide)).trans h12_33, fun j hj => ?_, (r2.2 18 (by simp [J16])).trans h12_18, fun j hj => ?_, hV12.tr (EqV.r r2)⟩
          · by_cases v2 : i + 1 < np
            · rw [if_pos v2]
            · rw [if_neg v2]
              rcases hend with q | q
              · omega
              · rw [show i + 1 = np by omega]
                simp only [q]
                rfl
          · simp only
            rw [r2.1 36 0 (by decide) (by decide) (by decide)]
            exact h12_36 j hj
          · simp only
            rw [r2.1 39 0 (by decide) (by decide) (by decide)]
            exact h12_39 j hj
    · right
      have hin : i = np := by omega
      subst hin
      rw [if_neg w, if_pos rfl]
      exact ⟨_, rfl, x2, x3, x4, x5, x6⟩
theorem ok_makePlan : ∀ (x1 : Int32) (D : Dt), Inv D → ∃ (r : Int32) (D1 D2 : Dt), f_X9_makePlan x1 D = some (r, D1) ∧ f_X10_makePlan x1 D1 = some (r, D2) ∧ Inv D2 := by
  intro x D h
  simp only [f_X9_makePlan, f_X10_makePlan, isIn_eq, in_eq, Option.bind_some, if_b]
  by_cases c : (1 : Int32) ≤ x ∧ x ≤ 12
  · obtain ⟨cnt, hcnt, rfl⟩ := ixL 12 (by decide) (by
      have := Int32.le_iff_toInt_le.mp c.1
      rw [Int32.le_iff_toInt_le]
      have e0 : (0 : Int32).toInt = 0 := by decide
      have e1 : (1 : Int32).toInt = 1 := by decide
      omega) c.2
    have hc1 : 1 ≤ cnt := (nI_leI (a := 1) (by decide) (by omega)).mp c.1
    simp only [if_pos c]
    have hG := h.1.2.1
    have hP := h.1.pol
    obtain ⟨D1, a1, np, a2, a3, a4, a5, a6, a7⟩ := p_fillPlan h.2.1.2.1 hG hP hcnt
    have e33 : D1 33 0 = D 33 0 := a7 33 0 (by simp [ZQ]) (by decide) (by decide) (by decide) (by decide)
    have k36 : ∀ j, j < 170 → updD (rowD D1 36 0 (cpM (D1 36 0) (D1 33 0) 170)) 32 0 18 0 36 0 j = D 33 0 j := fun j hj => by
      rw [updD_other _ _ _ (by omega), rowD_at, cpM_lt hj, e33]
    have k33 : updD (rowD D1 36 0 (cpM (D1 36 0) (D1 33 0) 170)) 32 0 18 0 33 0 = D 33 0 := by
      rw [updD_other _ _ _ (by omega), rowD_ne _ _ (by omega)]
      exact e33
    obtain ⟨E, b1, b2⟩ := p_best k33 hG hP
    have hV : EqV D1 E := ((EqV.row (Or.inr rfl)).tr (EqV.u (Or.inr (Or.inr ⟨rfl, rfl⟩)))).tr (EqV.r b2)
    obtain ⟨E2, c1, c2, c3, c4, c5, c6⟩ := p_mp26 (D1 := D1) (E := E) (np := np) hG hP hcnt hc1 a2 a3 a4 ((b2.1 33 0 (by decide) (by decide) (by decide)).trans k33) (fun j hj => by rw [b2.1 36 0 (by decide) (by decide) (by decide)]; exact k36 j hj) (by rw [b2.2 18 (by simp [J16])]; simp [updD_at]; rfl) hV
    have hx := p_exchanges (D := E2)
    have hV3 : EqV D1 (rowD (rowD E2 33 0 (cpM (E2 33 0) (E2 36 0) 170)) 36 0 (cpM (E2 36 0) (E2 33 0) 170)) := (c6.tr (EqV.row (Or.inl rfl))).tr (EqV.row (Or.inr rfl))
    have f33 : rowD (rowD E2 33 0 (cpM (E2 33 0) (E2 36 0) 170)) 36 0 (cpM (E2 36 0) (E2 33 0) 170) 33 0 = cpM (E2 33 0) (E2 36 0) 170 := by rw [rowD_ne _ _ (by omega), rowD_at]
    have fs : ∀ j, j < 170 → cpM (E2 33 0) (E2 36 0) 170 j = D 33 0 j := fun j hj => by rw [cpM_lt hj]; exact c3 j hj
    have f18 : rowD (rowD E2 33 0 (cpM (E2 33 0) (E2 36 0) 170)) 36 0 (cpM (E2 36 0) (E2 33 0) 170) 32 0 18 = nI np := by rw [rowD_ne _ _ (by omega), rowD_ne _ _ (by omega)]; exact c4
    have f39 : rowD (rowD E2 33 0 (cpM (E2 33 0) (E2 36 0) 170)) 36 0 (cpM (E2 36 0) (E2 33 0) 170) 39 0 = E2 39 0 := by rw [rowD_ne _ _ (by omega), rowD_ne _ _ (by omega)]
    refine ⟨nI np, D1, rowD (rowD E2 33 0 (cpM (E2 33 0) (E2 36 0) 170)) 36 0 (cpM (E2 36 0) (E2 33 0) 170), ?_, ?_, ?_⟩
    · rw [a1, Option.bind_some, a5]
    · rw [p_keepsApart, Option.bind_some]
      simp only [pu]
      rw [b1, Option.bind_some, c1, Option.bind_some, hx, Option.bind_some, f18]
    · generalize rowD (rowD E2 33 0 (cpM (E2 33 0) (E2 36 0) 170)) 36 0 (cpM (E2 36 0) (E2 33 0) 170) = D2 at *
      obtain ⟨g1, g2, g3, g4', g5⟩ := h
      have fr : ∀ k b, ¬ ZQ k b → k < 27 → D2 k b = D k b := fun k b q1 q2 => (hV3.1 k b (by omega) (by omega) (by omega) (by omega) (by omega) (by omega)).trans (a7 k b q1 (by omega) (by omega) (by omega) (by omega))
      have fr2 : ∀ k, k = 34 ∨ k = 35 → D2 k 0 = D k 0 := fun k q => (hV3.1 k 0 (by omega) (by omega) (by omega) (by omega) (by omega) (by omega)).trans (a7 k 0 (by simp only [ZQ]; omega) (by omega) (by omega) (by omega) (by omega))
      have d32 : D1 32 0 = D 32 0 := a7 32 0 (by simp [ZQ]) (by decide) (by decide) (by decide) (by decide)
      refine ⟨by rw [f33]; exact Good_ext g1 fs, ?_, g3.fr ⟨fun k b k1 k2 k3 => fr k b (by simp only [ZQ]; omega) (by omega), fr 24 0 (by simp [ZQ]) (by decide), by rw [hV3.2.1, d32], fr2 34 (Or.inl rfl)⟩, g4'.fr ⟨by rw [fr 22 0 (by simp [ZQ]) (by decide)], fr 23 0 (by simp [ZQ]) (by decide), by rw [hV3.2.2, d32], fr2 35 (Or.inr rfl)⟩, np, by omega, ?_, f18, fun i hi => ?_⟩
      · rw [f33]
        exact RelS_ext (g2.fr (fun k hk => fr k 0 (by simp only [ZQ]; omega) (by omega))) fs
      · rw [hV3.1 27 0 (by decide) (by decide) (by decide) (by decide) (by decide) (by decide)]
        exact a5
      · obtain ⟨z1, z2, z3⟩ := a6 i hi
        obtain ⟨y1, y2, y3⟩ := c5 i hi
        rw [hV3.1 28 0 (by decide) (by decide) (by decide) (by decide) (by decide) (by decide), hV3.1 29 0 (by decide) (by decide) (by decide) (by decide) (by decide) (by decide), hV3.1 30 0 (by decide) (by decide) (by decide) (by decide) (by decide) (by decide), f39]
        exact ⟨z1.trans y1.symm, z2.trans y2.symm, z3.trans y3.symm⟩
  · simp only [if_neg c]
    exact ⟨-1, D, D, rfl, rfl, h⟩
