/-! the next event -/
def omin (a b : Option Nat) : Option Nat := match a, b with
  | none, y => y
  | some x, none => some x
  | some x, some y => some (if y < x then y else x)
theorem omin_assoc (a b c : Option Nat) : omin (omin a b) c = omin a (omin b c) := by
  cases a with
  | none => rfl
  | some x =>
    cases b with
    | none => rfl
    | some y =>
      cases c with
      | none => rfl
      | some z =>
        show some (if z < (if y < x then y else x) then z else (if y < x then y else x)) = some (if (if z < y then z else y) < x then (if z < y then z else y) else x)
        congr 1
        by_cases w1 : y < x
        · rw [if_pos w1]
          by_cases w2 : z < y
          · rw [if_pos w2, if_pos (by omega)]
          · rw [if_neg w2, if_pos w1]
        · rw [if_neg w1]
          by_cases w2 : z < y
          · rw [if_pos w2]
          · rw [if_neg w2, if_neg w1, if_neg (by omega)]
def bdE (o : Option Nat) : Prop := ∀ v, o = some v → v < 10999
theorem bdE_min {a b : Option Nat} (ha : bdE a) (hb : bdE b) : bdE (omin a b) := by
  cases a with
  | none => exact hb
  | some x =>
    cases b with
    | none => exact ha
    | some y =>
      intro v hv
      have h1 := ha x rfl
      have h2 := hb y rfl
      change some (if y < x then y else x) = some v at hv
      injection hv with hv
      by_cases w : y < x
      · rw [if_pos w] at hv; omega
      · rw [if_neg w] at hv; omega
def eM (o : Option Nat) : Int32 := match o with
  | none => 10999
  | some n => nI n
theorem eM_min {o : Option Nat} {v : Nat} (ho : bdE o) (hv : v < 10999) : (if nI v < eM o then nI v else eM o) = eM (omin o (some v)) := by
  cases o with
  | none =>
    show (if nI v < (10999 : Int32) then nI v else 10999) = nI v
    rw [if_pos (show nI v < (10999 : Int32) from nI_lt (b := 10999) (by omega) (by decide))]
  | some x =>
    have := ho x rfl
    show (if nI v < nI x then nI v else nI x) = nI (if v < x then v else x)
    rw [if_lt (by omega) (by omega)]
    by_cases w : v < x
    · rw [if_pos w, if_pos w]
    · rw [if_neg w, if_neg w]
theorem o9_min {β : Type} {o : Option Nat} {v : Nat} {F : Int32 → β} (ho : bdE o) (hv : v < 10999) : (if o9 o = -9 then F (nI v) else if o9 o ≤ nI v then F (o9 o) else F (nI v)) = F (o9 (omin o (some v))) := by
  cases o with
  | none => rfl
  | some x =>
    have hx := ho x rfl
    have hne : ¬ nI x = (-9 : Int32) := by
      intro q
      have := congrArg Int32.toInt q
      rw [nI_toInt (by omega)] at this
      have e : (-9 : Int32).toInt = -9 := by decide
      rw [e] at this
      omega
    show (if nI x = -9 then F (nI v) else if nI x ≤ nI v then F (nI x) else F (nI v)) = F (nI (if v < x then v else x))
    rw [if_neg hne, if_le (by omega) (by omega)]
    by_cases w : v < x
    · rw [if_pos w, if_neg (by omega)]
    · rw [if_neg w, if_pos (by omega)]
def evt (s : Nat → Int32) (i j : Nat) : Option Nat := if s i = -1 then none else some (s j).toNatClampNeg
def okE (s : Nat → Int32) (i j : Nat) : Prop := s i = -1 ∨ ∃ a u, a < 2 ^ 31 ∧ u < 10999 ∧ s i = nI a ∧ s j = nI u
theorem okE_n {s : Nat → Int32} {i j : Nat} (h : s i = -1) : evt s i j = none := if_pos h
theorem okE_s {s : Nat → Int32} {i j : Nat} (h : okE s i j) (h2 : ¬ s i = -1) : ∃ u, u < 10999 ∧ s j = nI u ∧ evt s i j = some u := by
  rcases h with w | ⟨a, u, w1, w2, w3, w4⟩
  · exact absurd w h2
  · refine ⟨u, w2, w4, ?_⟩
    rw [evt, if_neg h2, w4, nI_clamp (by omega)]
theorem bdE_evt {s : Nat → Int32} {i j : Nat} (h : okE s i j) : bdE (evt s i j) := by
  intro v hv
  by_cases w : s i = -1
  · rw [okE_n w] at hv; cases hv
  · obtain ⟨u, h1, h2, h3⟩ := okE_s h w
    rw [h3] at hv
    injection hv with hv
    omega
theorem HoS.e2 {s : Nat → Int32} (h : HoS s) {i : Nat} (hi : i < 16) : okE s (74 + 6 * i + 2) (74 + 6 * i + 3) := by
  rcases (h i hi).2.1 with w | ⟨a, u, w1, w2, w3, w4⟩
  · exact Or.inl w
  · exact Or.inr ⟨a, u, by omega, w2, w3, w4⟩
theorem HoS.e4 {s : Nat → Int32} (h : HoS s) {i : Nat} (hi : i < 16) : okE s (74 + 6 * i + 4) (74 + 6 * i + 5) := by
  rcases (h i hi).2.2 with w | ⟨⟨a, u, w1, w2, w3, w4⟩, _⟩
  · exact Or.inl w
  · exact Or.inr ⟨a, u, by omega, w2, w3, w4⟩
theorem Good.en {s : Nat → Int32} (h : Good s) {n : Nat} (hn : n < 12) : okE s (14 + 5 * n + 2) (14 + 5 * n + 4) := by
  rcases h.2.1.nno hn with w | ⟨a, w1, w2⟩
  · exact Or.inl w
  · obtain ⟨e, e1, e2⟩ := h.1.2 n hn (by rw [w2]; exact nI_nm1 w1)
    exact Or.inr ⟨a, e, w1, e1, w2, e2⟩
def FE (s : Nat → Int32) : Nat → Option Nat
  | 0 => none
  | h + 1 => omin (omin (FE s h) (evt s (74 + 6 * h + 2) (74 + 6 * h + 3))) (evt s (74 + 6 * h + 4) (74 + 6 * h + 5))
def GE (s : Nat → Int32) (o : Option Nat) : Nat → Option Nat
  | 0 => o
  | n + 1 => omin (GE s o n) (evt s (14 + 5 * n + 2) (14 + 5 * n + 4))
theorem bdE_FE {s : Nat → Int32} (h : HoS s) : ∀ n, n ≤ 16 → bdE (FE s n) := by
  intro n
  induction n with
  | zero => intro _ v hv; cases hv
  | succ n ih => intro hn; exact bdE_min (bdE_min (ih (by omega)) (bdE_evt (h.e2 (by omega)))) (bdE_evt (h.e4 (by omega)))
theorem bdE_GE {s : Nat → Int32} (h : Good s) {o : Option Nat} (ho : bdE o) : ∀ n, n ≤ 12 → bdE (GE s o n) := by
  intro n
  induction n with
  | zero => intro _; exact ho
  | succ n ih => intro hn; exact bdE_min (ih (by omega)) (bdE_evt (h.en (by omega)))
theorem GE_min (s : Nat → Int32) (o : Option Nat) : ∀ n, GE s o n = omin o (GE s none n) := by
  intro n
  induction n with
  | zero => cases o <;> rfl
  | succ n ih =>
    simp only [GE]
    rw [ih, omin_assoc]
theorem p_firstEnd {D : Dt} {b : Nat} {s : Nat → Int32} (hR : RelH D b s) (hH : HoS s) : f_X2_firstEnd b D = some (eM (FE s 16)) := by
  have h : lp (l_X2_firstEnd_6 b D) FU ((10999 : Int32), (0 : Int32)) = some (eM (FE s 16)) := by
    apply lp_to (fun i => (eM (FE s i), nI i)) 16
    · rfl
    · exact FU_big (by decide)
    · intro i hi
      obtain ⟨r0, r2, r4, r1, r3, r5⟩ := hR i hi
      have hb := bdE_FE hH i (by omega)
      have hj : ∀ o, bdE o → j_X2_firstEnd_33_t3 b D (eM (FE s i), nI i) (eM o) = some (Sum.inl (eM (omin o (evt s (74 + 6 * i + 4) (74 + 6 * i + 5))), nI (i + 1))) := by
        intro o ho
        simp only [j_X2_firstEnd_33_t3]
        rw [rd_at rfl hi (by decide), rd_at rfl hi (by decide), r4, nI_1]
        by_cases w : s (74 + 6 * i + 4) = -1
        · rw [if_pos w, okE_n w]
          cases o <;> rfl
        · obtain ⟨u, u1, u2, u3⟩ := okE_s (hH.e4 hi) w
          rw [if_neg w, r5 w, u2, u3, eM_min ho u1]
      simp only [l_X2_firstEnd_6]
      rw [if_neg (g16 hi), rd_at rfl hi (by decide), rd_at rfl hi (by decide), r2]
      simp only [FE]
      by_cases w : s (74 + 6 * i + 2) = -1
      · rw [if_pos w, okE_n w, hj _ hb]
        have e : omin (FE s i) none = FE s i := by cases FE s i <;> rfl
        rw [e]
      · obtain ⟨u, u1, u2, u3⟩ := okE_s (hH.e2 hi) w
        rw [if_neg w, r3 w, u2, u3, eM_min hb u1, hj _ (bdE_min hb (fun v hv => by injection hv with hv; omega))]
    · rfl
  rw [f_X2_firstEnd, h, Option.bind_some]
theorem p_firstOverlapEnd {D : Dt} {b : Nat} {s : Nat → Int32} (hR : RelP D b s) (hG : Good s) : f_X5_firstOverlapEnd b D = some (eM (GE s none 12)) := by
  have h : lp (l_X5_firstOverlapEnd_6 b D) FU ((10999 : Int32), (0 : Int32)) = some (eM (GE s none 12)) := by
    apply lp_to (fun i => (eM (GE s none i), nI i)) 12
    · rfl
    · exact FU_big (by decide)
    · intro i hi
      obtain ⟨r0, r2, r1, r3⟩ := hR.2.2.2 i hi
      have hb := bdE_GE hG (o := none) (fun v hv => by cases hv) i (by omega)
      simp only [l_X5_firstOverlapEnd_6]
      rw [if_neg (g12 hi), hasOld_s hR hi, Option.bind_some, if_b', nI_1]
      simp only [GE]
      by_cases w : s (14 + 5 * i + 2) = -1
      · rw [if_pos w, okE_n w]
        have e : omin (GE s none i) none = GE s none i := by cases GE s none i <;> rfl
        rw [e]
      · obtain ⟨u, u1, u2, u3⟩ := okE_s (hG.en hi) w
        rw [if_neg w, rd_at rfl hi (by decide), (r3 w).2, u2, u3, eM_min hb u1]
    · rfl
  rw [f_X5_firstOverlapEnd, h, Option.bind_some]
theorem p_X10_ne18 {D : Dt} {s : Nat → Int32} (hs : D 33 0 = s) (hH : HoS s) {i : Nat} (hi : i < 16) {o : Option Nat} (ho : bdE o) (x : Int32) : lp (l_X10_nextEvent_18 D (x, nI i)) FU (o9 o, nI (74 + 6 * i + 2)) = some (o9 (omin (omin o (evt s (74 + 6 * i + 2) (74 + 6 * i + 3))) (evt s (74 + 6 * i + 4) (74 + 6 * i + 5)))) := by
  have st : ∀ L, okE s L (L + 1) → L ≤ 74 + 6 * i + 4 → ∀ o, bdE o → l_X10_nextEvent_18 D (x, nI i) (o9 o, nI L) = some (Sum.inl (o9 (omin o (evt s L (L + 1))), nI (L + 2))) := by
    intro L hL hle o ho
    simp only [l_X10_nextEvent_18]
    rw [p_X10_hostAt, Option.bind_some, show (4 : Int32) = nI 4 from rfl, nI_add, if_neg (nI_nlt hle (by omega)), rd_at rfl (show L < 170 by omega) (by decide), hs, nI_1, rd_at rfl (show L + 1 < 170 by omega) (by decide), hs, rd_at rfl (show L + 1 < 170 by omega) (by decide), hs, show (2 : Int32) = nI 2 from rfl, nI_add]
    have hnn : nn (s L) := by
      rcases hL with w | ⟨a, u, w1, _, w3, _⟩
      · exact Or.inl w
      · exact Or.inr ⟨a, w1, w3⟩
    rw [nn_lt hnn]
    by_cases w : s L = -1
    · rw [if_pos w, okE_n w]
      cases o <;> rfl
    · obtain ⟨u, u1, u2, u3⟩ := okE_s hL w
      rw [if_neg w, u2, u3]
      exact o9_min (F := fun z => some (Sum.inl (z, nI (L + 2)))) ho u1
  have b1 := bdE_min ho (bdE_evt (hH.e2 hi))
  apply lp_to (fun k => if k = 0 then (o9 o, nI (74 + 6 * i + 2)) else if k = 1 then (o9 (omin o (evt s (74 + 6 * i + 2) (74 + 6 * i + 3))), nI (74 + 6 * i + 4)) else (o9 (omin (omin o (evt s (74 + 6 * i + 2) (74 + 6 * i + 3))) (evt s (74 + 6 * i + 4) (74 + 6 * i + 5))), nI (74 + 6 * i + 6))) 2
  · rfl
  · exact FU_big (by decide)
  · intro k hk
    rcases (show k = 0 ∨ k = 1 by omega) with rfl | rfl
    · exact st (74 + 6 * i + 2) (hH.e2 hi) (by omega) o ho
    · exact st (74 + 6 * i + 4) (hH.e4 hi) (by omega) _ b1
  · show l_X10_nextEvent_18 D (x, nI i) (o9 (omin (omin o (evt s (74 + 6 * i + 2) (74 + 6 * i + 3))) (evt s (74 + 6 * i + 4) (74 + 6 * i + 5))), nI (74 + 6 * i + 6)) = _
    simp only [l_X10_nextEvent_18]
    rw [p_X10_hostAt, Option.bind_some, show (4 : Int32) = nI 4 from rfl, nI_add, if_pos (nI_lt (by omega) (by omega))]
theorem p_X10_nextEvent {D : Dt} {s : Nat → Int32} (hs : D 33 0 = s) (hG : Good s) : f_X10_nextEvent D = some (o9 (GE s (FE s 16) 12)) := by
  have h1 : lp (l_X10_nextEvent_5 D) FU ((-9 : Int32), (0 : Int32)) = some (o9 (FE s 16)) := by
    apply lp_to (fun i => (o9 (FE s i), nI i)) 16
    · rfl
    · exact FU_big (by decide)
    · intro i hi
      simp only [l_X10_nextEvent_5]
      rw [if_neg (g16 hi), p_X10_hostAt, Option.bind_some, show (2 : Int32) = nI 2 from rfl, nI_add, p_X10_ne18 hs hG.2.2 hi (bdE_FE hG.2.2 i (by omega)), Option.bind_some, nI_1]
      rfl
    · rfl
  have hb := bdE_FE hG.2.2 16 (Nat.le_refl _)
  have h2 : lp (l_X10_nextEvent_82 D) FU (o9 (FE s 16), (0 : Int32)) = some (o9 (GE s (FE s 16) 12)) := by
    apply lp_to (fun i => (o9 (GE s (FE s 16) i), nI i)) 12
    · rfl
    · exact FU_big (by decide)
    · intro i hi
      have hb2 := bdE_GE hG hb i (by omega)
      simp only [l_X10_nextEvent_82]
      rw [if_neg (g12 hi), p_X10_net, Option.bind_some, show (4 : Int32) = nI 4 from rfl, nI_add, rd_at rfl (show 14 + 5 * i + 4 < 170 by omega) (by decide), hs, X10_hasOld hs hG.2.1 hi, Option.bind_some, if_b', nI_1]
      simp only [GE]
      by_cases w : s (14 + 5 * i + 2) = -1
      · rw [if_pos w, okE_n w]
        have e : omin (GE s (FE s 16) i) none = GE s (FE s 16) i := by cases GE s (FE s 16) i <;> rfl
        rw [e]
      · obtain ⟨u, u1, u2, u3⟩ := okE_s (hG.en hi) w
        rw [if_neg w, u2, u3]
        exact o9_min (F := fun z => some (Sum.inl (z, nI (i + 1)))) hb2 u1
    · rfl
  rw [f_X10_nextEvent, h1, Option.bind_some, h2, Option.bind_some]
theorem ok_nextEvent : ∀ (_ : Unit) (D : Dt), Inv D → ∃ (r : Int32) (D1 D2 : Dt), (f_X9_nextEvent D).bind (fun r => some (r, D)) = some (r, D1) ∧ (f_X10_nextEvent D1).bind (fun r => some (r, D1)) = some (r, D2) ∧ Inv D2 := by
  intro _ D h
  refine ro_ok (F := f_X9_nextEvent) (G := f_X10_nextEvent) h ?_
  refine ⟨o9 (GE (D 33 0) (FE (D 33 0) 16) 12), ?_, p_X10_nextEvent rfl h.1⟩
  rw [f_X9_nextEvent, p_firstEnd h.2.1.2.2 h.1.2.2, Option.bind_some, p_firstOverlapEnd h.2.1.2.1 h.1, Option.bind_some, GE_min (D 33 0) (FE (D 33 0) 16) 12]
  have b1 := bdE_FE h.1.2.2 16 (Nat.le_refl _)
  have b2 := bdE_GE h.1 (o := none) (fun v hv => by cases hv) 12 (Nat.le_refl _)
  generalize FE (D 33 0) 16 = a at b1
  generalize GE (D 33 0) none 12 = b at b2
  have e : (if eM b < eM a then eM b else eM a) = eM (omin a b) := by
    cases b with
    | none =>
      rw [if_neg]
      · cases a <;> rfl
      · cases a with
        | none => decide
        | some x => exact nI_nlt (a := 10999) (by have := b1 x rfl; omega) (by decide)
    | some y => exact eM_min b1 (b2 y rfl)
  rw [e]
  have b3 := bdE_min b1 b2
  generalize omin a b = c at b3
  cases c with
  | none => rfl
  | some x =>
    show (if nI x = (10999 : Int32) then _ else _) = _
    rw [if_neg]
    · rfl
    · intro q
      have := (nI_eq (b := 10999) (by have := b3 x rfl; omega) (by decide)).mp q
      have := b3 x rfl
      omega
/-! the plan, the routes -/
theorem ok_plan : ∀ (x1 x2 : Int32) (D : Dt), Inv D → ∃ (r : Int32) (D1 D2 : Dt), (f_X9_plan x1 x2 D).bind (fun r => some (r, D)) = some (r, D1) ∧ (f_X10_plan x1 x2 D1).bind (fun r => some (r, D1)) = some (r, D2) ∧ Inv D2 := by
  intro x y D h
  refine ro_ok (F := f_X9_plan x y) (G := f_X10_plan x y) h ?_
  obtain ⟨m, m1, m2, m3, m4⟩ := h.2.2.2.2
  simp only [f_X9_plan, f_X10_plan, isIn_eq, in_eq, Option.bind_some, if_b, f_X3_isPlanned, m2, m3]
  by_cases c : x < 0
  · simp only [if_pos c]
    exact ⟨-1, rfl, rfl⟩
  · obtain ⟨t, ht, rfl⟩ := nI_of c
    simp only [if_neg c]
    by_cases c2 : (0 : Int32) ≤ y ∧ y ≤ 2
    · obtain ⟨j, hj, rfl⟩ := ixL 2 (by decide) c2.1 c2.2
      simp only [if_pos c2, if_le (show m < 2 ^ 31 by omega) ht]
      by_cases c3 : m ≤ t
      · simp only [if_pos c3, Option.bind_some, if_true]
        exact ⟨-9, rfl, rfl⟩
      · obtain ⟨p1, p2, p3⟩ := m4 t (by omega)
        simp only [if_neg c3, if_neg (g12 (show t < 12 by omega)), Option.bind_some, if_neg (show ¬ (1 : Int32) = 0 by decide), f_X3_planPart, show (3 : Int32) = nI 3 from rfl, pk_mul, nI_add, rd_at rfl (show t < 12 by omega) (show 12 < 2 ^ 31 by decide), rd_at rfl (show 3 * t + j < 36 by omega) (show 36 < 2 ^ 31 by decide)]
        rcases (show j = 0 ∨ j = 1 ∨ j = 2 by omega) with rfl | rfl | rfl
        · exact ⟨D 28 0 t, rfl, by rw [p1, Nat.add_zero]⟩
        · exact ⟨D 29 0 t, rfl, by rw [p2]⟩
        · exact ⟨D 30 0 t, rfl, by rw [p3]⟩
    · simp only [if_neg c2]
      exact ⟨-1, rfl, rfl⟩
theorem q_routes {D : Dt} (h : Inv D) : ∃ us N po l D1, RV (D 33 0) us ∧ Geo N po us ∧ f_X7_listRoutes 0 0 3 D = some D1 ∧ FSeg (Au us) 0 l 0 65536 ∧ l.length ≤ 24 ∧ BL D1 3 l ∧ Eqx ZQ D D1 ∧ D1 33 0 = D 33 0 := by
  obtain ⟨N, po, us, h1, h2, h3⟩ := h.1.2.1
  obtain ⟨D1, l, a1, a2, a3, a4, a5⟩ := p_listRoutes (b := 0) (b2 := 3) (h.2.1.2.1.spv h1) h3
  have a6 : Eqx ZQ D D1 := a5.mono (fun k b w => by
    simp only [SU, SB] at w
    simp only [ZQ]
    omega)
  exact ⟨us, N, po, l, D1, h1, h3, a1, a2, a3, a4, a6, a6 33 0 (by simp [ZQ])⟩
theorem ok_routeCount : ∀ (_ : Unit) (D : Dt), Inv D → ∃ (r : Int32) (D1 D2 : Dt), f_X9_routeCount D = some (r, D1) ∧ f_X10_routeCount D1 = some (r, D2) ∧ Inv D2 := by
  intro _ D h
  obtain ⟨us, N, po, l, D1, a1, a2, a3, a4, a5, a6, a7, a8⟩ := q_routes h
  refine ⟨nI l.length, D1, D1, ?_, ?_, Inv_q h a7 EqR.rf⟩
  · rw [f_X9_routeCount, a3, Option.bind_some, a6.1]
  · rw [f_X10_routeCount, p_findsRoute (t := l.length) (by rw [a8]; exact a1) a2 a4 a5 (fun j hj => ⟨fun q => absurd q (nI_nm1 (by omega)), fun q => by omega⟩), Option.bind_some, if_neg (by omega), if_neg (by decide)]
theorem ok_route : ∀ (x1 x2 : Int32) (D : Dt), Inv D → ∃ (r : Int32) (D1 D2 : Dt), f_X9_route x1 x2 D = some (r, D1) ∧ f_X10_route x1 x2 D1 = some (r, D2) ∧ Inv D2 := by
  intro x y D h
  simp only [f_X9_route, f_X10_route, isIn_eq, in_eq, Option.bind_some, if_b]
  by_cases c : x < 0
  · simp only [if_pos c]
    exact ⟨-1, D, D, rfl, rfl, h⟩
  · obtain ⟨t, ht, rfl⟩ := nI_of c
    simp only [if_neg c]
    by_cases c2 : (0 : Int32) ≤ y ∧ y ≤ 1
    · simp only [if_pos c2]
      obtain ⟨us, N, po, l, D1, a1, a2, a3, a4, a5, a6, a7, a8⟩ := q_routes h
      have hf := p_findsRoute (x := nI t) (t := t) (D := D1) (by rw [a8]; exact a1) a2 a4 a5 (fun j hj => nI_eq (by omega) ht)
      by_cases c3 : t < l.length
      · rw [if_pos c3] at hf
        have hxl : xA l t < 65536 := by
          have hm := List.mem_of_getElem? (getD_some c3)
          obtain ⟨w1, w2, w3⟩ := FSeg_mem _ _ _ a4 _ hm
          have := zz_pos (yA l t)
          simp only at w2
          omega
        have hne : ¬ nI (xA l t) = (-9 : Int32) := by
          intro q
          have := congrArg Int32.toInt q
          rw [nI_toInt (by omega)] at this
          have e : (-9 : Int32).toInt = -9 := by decide
          rw [e] at this
          omega
        refine ⟨if y = 0 then nI (xA l t) else nI (yA l t), D1, updD D1 32 0 15 (nI (yA l t)), ?_, ?_, Inv_q h a7 (EqR.u (by simp [JR]))⟩
        · rw [a3, Option.bind_some, f_X0_holds, if_neg c, a6.1, if_neg (nI_ge c3 (by omega)), if_neg (g292 (by omega)), Option.bind_some, if_neg (by decide), rd_at rfl (show t < 292 by omega) (by decide), rd_at rfl (show t < 292 by omega) (by decide), (a6.at c3).1, (a6.at c3).2]
          by_cases w : y = 0
          · rw [if_pos w, if_pos w]
          · rw [if_neg w, if_neg w]
        · rw [hf, Option.bind_some]
          simp only
          rw [if_neg hne]
          by_cases w : y = 0
          · rw [if_pos w, if_pos w]
          · rw [if_neg w, if_neg w]
            simp [updD]
      · rw [if_neg c3, if_pos (nI_pos' ht)] at hf
        refine ⟨-9, D1, D1, ?_, ?_, Inv_q h a7 EqR.rf⟩
        · rw [a3, Option.bind_some, f_X0_holds, if_neg c, a6.1, if_pos (nI_le (by omega) ht), Option.bind_some, if_pos rfl]
        · rw [hf, Option.bind_some]
          rfl
    · simp only [if_neg c2]
      exact ⟨-1, D, D, rfl, rfl, h⟩
