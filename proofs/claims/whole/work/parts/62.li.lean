/-! a set-up's items in the reference: hosts, the policy, the item, the loop -/
theorem jh117_w {D : Dt} {o1 o5 t : Int32} (h : D 32 0 14 = 1) : j_X10_readsHost_117_t10 o1 o5 t D = some D := by
  rw [j_X10_readsHost_117_t10, if_neg (n14 h)]
theorem jh92_w {D : Dt} {o1 o5 : Int32} (h : D 32 0 14 = 1) : j_X10_readsHost_92_t9 o1 o5 D 0 = some D := by
  rw [j_X10_readsHost_92_t9, if_pos (show (0 : Int32) = 0 from rfl), jh117_w h]
theorem jh69_w {D : Dt} {o1 o5 t : Int32} (h : D 32 0 14 = 1) : j_X10_readsHost_69_t7 o1 D o5 t = some D := by
  rw [j_X10_readsHost_69_t7, takes_w h, Option.bind_some, if_neg (n14 h), jh92_w h]
theorem jh69_n {D : Dt} {o1 o5 : Int32} (h : D 32 0 14 = 0) : j_X10_readsHost_69_t7 o1 D o5 0 = some (updD D 32 0 14 1) := by
  rw [j_X10_readsHost_69_t7, takes_n h, Option.bind_some, if_neg (n14 (u14 D)), jh92_w (u14 D)]
theorem jh33_n {D : Dt} {n p : Nat} {T : Nat → Nat} {o1 : Int32} (h : D 32 0 14 = 0) (hRT : RT D T n p) : j_X10_readsHost_33_t3 D o1 0 = some (updD D 32 0 14 1) := by
  rw [j_X10_readsHost_33_t3, takes_n h, Option.bind_some, number_rt hRT.u14, Option.bind_some, in_rt (a := (0 : Int32)) (b := (11 : Int32)) (lo := 0) (hi := 11) hRT rfl rfl (by decide) (by decide), Option.bind_some]
  by_cases c : okR T n p 0 11
  · have hk : tkV T n p < 12 := by have := c.2.2; omega
    rw [sIf_t c, if_neg (show ¬ (1 : Int32) = 0 by decide), nuV_3 c, p_X10_net, Option.bind_some, rd_at rfl (show 14 + 5 * tkV T n p < 170 by omega) (by decide), jh69_w (u14 D), jh69_w (u14 D)]
    by_cases d : updD D 32 0 14 1 33 0 (14 + 5 * tkV T n p) < 0
    · rw [if_pos d]
    · rw [if_neg d]
  · rw [sIf_f c, if_pos (show (0 : Int32) = 0 from rfl), jh69_w (u14 D)]
theorem cmp7 {D : Dt} {n p : Nat} {T : Nat → Nat} (hRT : RT D T n p) (h : D 32 0 12 = 1) : lg_cmp (mkL (D 32 0 13) (D 32 0 113)) (283437709 : Int64) = 0 ↔ tkK T n p = 7 := by
  have e := hRT.2.2.2.2.2.1 3 (by decide)
  rw [hsh_v.2.2.2.1] at e
  rw [lg_cmp_eq]
  constructor
  · intro q
    exact e.mpr ⟨h, q⟩
  · intro q
    exact (e.mp q).2
theorem p_rHost {D : Dt} {n p : Nat} {T : Nat → Nat} {u : Nat → Int32} (h14 : D 32 0 14 = 0) (hT : TXr D n T) (hRT : RT D T n p) (hp : p ≤ n) (h33 : D 33 0 = u) (hG : Good u) : ∃ D', (f_X10_readsHost D).bind zs = some D' ∧ RdR D D' T n (hostI T n p u) := by
  have hq := (tk_b (T := T) hp).2.2.1
  rw [hostI, f_X10_readsHost, number_rt hRT, Option.bind_some, in_rt (a := (0 : Int32)) (b := (15 : Int32)) (lo := 0) (hi := 15) hRT rfl rfl (by decide) (by decide), Option.bind_some]
  by_cases c1 : okR T n p 0 15
  · have hk : tkV T n p < 16 := by have := c1.2.2; omega
    rw [sIf_t c1, if_neg (show ¬ (1 : Int32) = 0 by decide), nuV_3 c1, p_X10_hostAt, Option.bind_some, rd_at rfl (show 74 + 6 * tkV T n p < 170 by omega) (by decide), h33, nn_ge (hG.2.2.nn0 hk)]
    by_cases c2 : u (74 + 6 * tkV T n p) = -1
    · obtain ⟨D4, t1, t2, t3, t4, t5⟩ := takes_rt h14 hT hRT hp
      have hT4 := hT.v t5
      rw [if_pos c2, sIf_t ⟨c1, c2⟩, j_X10_readsHost_33_t3, t1, Option.bind_some, number_rt t2, Option.bind_some, in_rt (a := (0 : Int32)) (b := (11 : Int32)) (lo := 0) (hi := 11) t2 rfl rfl (by decide) (by decide), Option.bind_some]
      by_cases c3 : okR T n (tkE T n p) 0 11
      · have hk2 : tkV T n (tkE T n p) < 12 := by have := c3.2.2; omega
        rw [sIf_t c3, if_neg (show ¬ (1 : Int32) = 0 by decide), nuV_3 c3, p_X10_net, Option.bind_some, rd_at rfl (show 14 + 5 * tkV T n (tkE T n p) < 170 by omega) (by decide), t4, h33, nn_lt (hG.2.1.nnc hk2)]
        by_cases c4 : u (14 + 5 * tkV T n (tkE T n p)) = -1
        · rw [if_pos c4, sIf_f (fun q => q.2 c4)]
          exact zs_no (jh69_n t3) t5 t2
        · obtain ⟨D8, w1, w2, w3, w4, w5⟩ := takes_rt t3 hT4 t2 hq
          have hr := (tk_b (T := T) hq).2.2.1
          have hT8 := hT4.v w5
          have g5 := t5.tr w5
          have hkk := RT_k w2
          rw [if_neg c4, sIf_t ⟨c3, c4⟩, j_X10_readsHost_69_t7, w1, Option.bind_some, if_pos w3]
          by_cases c5 : D8 32 0 12 = 1
          · rw [if_pos c5, j_X10_readsHost_92_t9, if_neg (show ¬ (1 : Int32) = 0 by decide)]
            by_cases c6 : tkK T n (tkE T n (tkE T n p)) = 7
            · obtain ⟨D9, y1, y2, y3, y4, y5⟩ := takes_rt w3 hT8 w2 hr
              rw [sIf_t c6, if_pos ((cmp7 w2 c5).mpr c6), y1, Option.bind_some, j_X10_readsHost_117_t10, if_pos y3, p_X10_hostAt, Option.bind_some, wr_at rfl (show 74 + 6 * tkV T n p < 170 by omega) (by decide), p_X10_hostAt, Option.bind_some, if_neg (show ¬ (1 : Int32) = 0 by decide), nI_1, wr_at rfl (show 74 + 6 * tkV T n p + 1 < 170 by omega) (by decide), updD_row D9 33 0, rowD_upd, y4, w4, t4, h33, Option.bind_some]
              exact zs_row y3 (hT8.v y5) y2 (tk_b (T := T) hr).2.2.1 (g5.tr y5)
            · rw [sIf_f c6, if_neg (fun q => c6 ((cmp7 w2 c5).mp q)), takes_n w3, Option.bind_some, semi, sIf_f (fun q => by have := hkk.2.2.2.1 c5; omega)]
              exact zs_no (jh117_w (u14 D8)) g5 w2
          · have c6 : ¬ tkK T n (tkE T n (tkE T n p)) = 7 := fun q => c5 (hkk.2.2.2.2 (by omega))
            rw [if_neg c5, sIf_f c6, j_X10_readsHost_92_t9, if_pos (show (0 : Int32) = 0 from rfl), j_X10_readsHost_117_t10, if_pos w3, p_X10_hostAt, Option.bind_some, wr_at rfl (show 74 + 6 * tkV T n p < 170 by omega) (by decide), p_X10_hostAt, Option.bind_some, if_pos (show (0 : Int32) = 0 from rfl), nI_1, wr_at rfl (show 74 + 6 * tkV T n p + 1 < 170 by omega) (by decide), updD_row D8 33 0, rowD_upd, w4, t4, h33, Option.bind_some]
            exact zs_row w3 hT8 w2 hr g5
      · rw [sIf_f c3, if_pos (show (0 : Int32) = 0 from rfl), sIf_f (fun q => c3 q.1)]
        exact zs_no (jh69_n t3) t5 t2
    · rw [if_neg c2, sIf_f (fun q => c2 q.2)]
      exact zs_no (jh33_n h14 hRT) EqX.rf hRT
  · rw [sIf_f c1, sIf_f (fun q => c1 q.1), if_pos (show (0 : Int32) = 0 from rfl)]
    exact zs_no (jh33_n h14 hRT) EqX.rf hRT
theorem rPol_w {D : Dt} {n p : Nat} {T : Nat → Nat} (h : D 32 0 14 = 1) (hRT : RT D T n p) : f_X10_readsPolicy D = some D := by
  rw [f_X10_readsPolicy, number_rt hRT, Option.bind_some, in_eq, Option.bind_some, takes_w h, Option.bind_some, if_neg (n14 h), rd_at (i := (3 : Int32)) (j := 3) rfl (by decide) (by decide), wr_at (i := (3 : Int32)) (j := 3) rfl (by decide) (by decide), updD_id rfl]
theorem p_rPol {D : Dt} {n p : Nat} {T : Nat → Nat} {u : Nat → Int32} (h14 : D 32 0 14 = 0) (hT : TXr D n T) (hRT : RT D T n p) (hp : p ≤ n) (h33 : D 33 0 = u) : ∃ D', (f_X10_readsPolicy D).bind zs = some D' ∧ RdR D D' T n (polI T n p u) := by
  have hq := (tk_b (T := T) hp).2.2.1
  rw [polI, f_X10_readsPolicy, number_rt hRT, Option.bind_some, in_rt (a := (0 : Int32)) (b := (3 : Int32)) (lo := 0) (hi := 3) hRT rfl rfl (by decide) (by decide), Option.bind_some]
  by_cases c1 : okR T n p 0 3
  · obtain ⟨D4, t1, t2, t3, t4, t5⟩ := takes_rt h14 hT hRT hp
    rw [sIf_t c1, sIf_t c1, t1, Option.bind_some, if_pos t3, nuV_3 c1, wr_at (i := (3 : Int32)) (j := 3) rfl (by decide) (by decide), updD_row D4 33 0, t4, h33, Option.bind_some]
    exact zs_row t3 (hT.v t5) t2 hq t5
  · rw [sIf_f c1, sIf_f c1, takes_n h14, Option.bind_some, if_neg (n14 (u14 D)), rd_at (i := (3 : Int32)) (j := 3) rfl (by decide) (by decide), wr_at (i := (3 : Int32)) (j := 3) rfl (by decide) (by decide), updD_id rfl]
    exact zs_no rfl EqX.rf hRT
theorem p_rItem {D : Dt} {n p : Nat} {T : Nat → Nat} {u : Nat → Int32} (h14 : D 32 0 14 = 0) (hT : TXr D n T) (hRT : RT D T n p) (hp : p ≤ n) (h33 : D 33 0 = u) (hG : Good u) : ∃ D', f_X10_readsItem D = some D' ∧ RdR D D' T n (itemI T n p u) := by
  have hq := (tk_b (T := T) hp).2.2.1
  have hkk := RT_k hRT
  obtain ⟨t1, ht, cm⟩ : ∃ t1, f_X10_readsItem D = j_X10_readsItem_18_t1 D t1 ∧ ∀ i, i < 5 → (t1 = lN (hsh i) ↔ tkK T n p = i + 4) := by
    rw [f_X10_readsItem]
    by_cases c : D 32 0 12 = 1
    · rw [if_pos c]
      refine ⟨_, rfl, fun i hi => ?_⟩
      have e := hRT.2.2.2.2.2.1 i hi
      constructor
      · intro q
        exact e.mpr ⟨c, q⟩
      · intro q
        exact (e.mp q).2
    · rw [if_neg c]
      refine ⟨_, rfl, fun i hi => ?_⟩
      constructor
      · intro q
        exfalso
        rcases (show i = 0 ∨ i = 1 ∨ i = 2 ∨ i = 3 ∨ i = 4 by omega) with rfl | rfl | rfl | rfl | rfl
        · rw [hsh_v.1] at q
          exact absurd q (by decide)
        · rw [hsh_v.2.1] at q
          exact absurd q (by decide)
        · rw [hsh_v.2.2.1] at q
          exact absurd q (by decide)
        · rw [hsh_v.2.2.2.1] at q
          exact absurd q (by decide)
        · rw [hsh_v.2.2.2.2] at q
          exact absurd q (by decide)
      · intro q
        exact absurd (hkk.2.2.2.2 (by omega)) c
  have k0 : lg_cmp t1 (326280 : Int64) = 0 ↔ tkK T n p = 4 := by
    have := cm 0 (by decide)
    rw [hsh_v.1] at this
    rw [lg_cmp_eq]
    exact this
  have k1 : lg_cmp t1 (10361 : Int64) = 0 ↔ tkK T n p = 5 := by
    have := cm 1 (by decide)
    rw [hsh_v.2.1] at this
    rw [lg_cmp_eq]
    exact this
  have k2 : lg_cmp t1 (168932 : Int64) = 0 ↔ tkK T n p = 6 := by
    have := cm 2 (by decide)
    rw [hsh_v.2.2.1] at this
    rw [lg_cmp_eq]
    exact this
  have k4 : lg_cmp t1 (237796990 : Int64) = 0 ↔ tkK T n p = 8 := by
    have := cm 4 (by decide)
    rw [hsh_v.2.2.2.2] at this
    rw [lg_cmp_eq]
    exact this
  rw [ht, j_X10_readsItem_18_t1, itemI]
  obtain ⟨D4, t1, t2, t3, t4, t5⟩ := takes_rt h14 hT hRT hp
  have hT4 := hT.v t5
  by_cases c4 : tkK T n p = 4
  · obtain ⟨us, hV, hP, hGe⟩ := GeoS_po hG.2.1
    have hN := hGe.1
    rw [if_pos (k0.mpr c4), if_pos c4, rd_at (i := (5 : Int32)) (j := 5) rfl (by decide) (by decide), h33, hP.1, show (4 : Int32) = nI 4 from rfl, if_le (by decide) (by omega)]
    by_cases d : 4 ≤ pnV' u
    · rw [if_pos d, poolI, sIf_t d, j_X10_readsItem_43_t16, takes_n h14, Option.bind_some, rPool_w (u14 D) hRT.u14 (fun q => by have := q.1; omega)]
      exact zs_no rfl EqX.rf hRT
    · rw [if_neg d, j_X10_readsItem_43_t16, t1, Option.bind_some]
      obtain ⟨D', e1, e2⟩ := p_rPool (st := tkS T n p) t3 hT4 t2 hq (t4.trans h33) hG.2.1 (by omega)
      exact ⟨D', e1, e2.pre t5⟩
  · rw [if_neg (fun q => c4 (k0.mp q)), if_neg c4]
    by_cases c5 : tkK T n p = 5
    · rw [if_pos (k1.mpr c5), if_pos c5, t1, Option.bind_some]
      obtain ⟨D', e1, e2⟩ := p_rNet t3 hT4 t2 hq (t4.trans h33) hG
      exact ⟨D', e1, e2.pre t5⟩
    · rw [if_neg (fun q => c5 (k1.mp q)), if_neg c5]
      by_cases c6 : tkK T n p = 6
      · rw [if_pos (k2.mpr c6), if_pos c6, t1, Option.bind_some]
        obtain ⟨D', e1, e2⟩ := p_rHost t3 hT4 t2 hq (t4.trans h33) hG
        exact ⟨D', e1, e2.pre t5⟩
      · rw [if_neg (fun q => c6 (k2.mp q)), if_neg c6]
        by_cases c8 : tkK T n p = 8
        · rw [if_pos (k4.mpr c8), if_pos c8, j_X10_readsItem_107_t2, t1, Option.bind_some]
          obtain ⟨D', e1, e2⟩ := p_rPol t3 hT4 t2 hq (t4.trans h33)
          exact ⟨D', e1, e2.pre t5⟩
        · rw [if_neg (fun q => c8 (k4.mp q)), if_neg c8, j_X10_readsItem_107_t2, takes_n h14, Option.bind_some, rPol_w (u14 D) hRT.u14]
          exact zs_no rfl EqX.rf hRT
/-- how the reference's reading ends -/
def LrQ (T : Nat → Nat) (n : Nat) (u0 : Nat → Int32) (D : Dt) (e : Int32 × Dt) : Prop := ∃ i p u, Pth T n u0 i p u ∧ EqX D e.2 ∧ ((tkK T n p = 1 ∧ e.1 = nI i ∧ e.2 32 0 14 = 0 ∧ e.2 33 0 = u) ∨ (tkK T n p ≠ 1 ∧ ∃ st, itemI T n p u = Sum.inl st ∧ e.2 32 0 14 = 1 ∧ e.2 32 0 11 = nI st))
def LrI (T : Nat → Nat) (n : Nat) (u0 : Nat → Int32) (D : Dt) (i : Nat) (z : Int32 × Dt) : Prop := EqX D z.2 ∧ ((∃ p u, z.1 = nI i ∧ Pth T n u0 i p u ∧ RT z.2 T n p ∧ z.2 32 0 14 = 0 ∧ z.2 33 0 = u) ∨ (∃ i' p u st, Pth T n u0 i' p u ∧ tkK T n p ≠ 1 ∧ itemI T n p u = Sum.inl st ∧ z.2 32 0 14 = 1 ∧ z.2 32 0 11 = nI st))
theorem p_ldR {D : Dt} {n : Nat} {T : Nat → Nat} {u0 : Nat → Int32} (hT : TXr D n T) (hRT : RT D T n 0) (h14 : D 32 0 14 = 0) (h33 : D 33 0 = u0) (hG : Good u0) : ∃ e, lp l_X10_load_24 FU ((0 : Int32), D) = some e ∧ LrQ T n u0 D e := by
  have hn := hT.2.1
  refine lp_n (LrI T n u0 D) (LrQ T n u0 D) 150 ⟨EqX.rf, Or.inl ⟨0, u0, rfl, ⟨rfl, rfl⟩, hRT, h14, h33⟩⟩ (by decide) ?_
  rintro i ⟨z1, Dz⟩ hi ⟨q0, ⟨p, u, q1, q2, q3, q4, q5⟩ | ⟨i', p, u, st, q1, q2, q3, q4, q5⟩⟩
  · simp only at q0 q1 q3 q4 q5
    subst q1
    obtain ⟨g1, g2, g3⟩ := Pth_good hG q2
    have hk := (RT_k q3).2.1
    by_cases c : tkK T n p = 1
    · right
      refine ⟨(nI i, Dz), ?_, i, p, u, q2, q0, Or.inl ⟨c, rfl, q4, q5⟩⟩
      simp only [l_X10_load_24]
      rw [if_pos q4, if_pos (hk.mpr c)]
    · left
      obtain ⟨D4, e1, e2⟩ := p_rItem q4 (hT.v q0) q3 g3 q5 g1
      refine ⟨by omega, (nI (i + 1), D4), ?_, q0.tr e2.1, ?_⟩
      · simp only [l_X10_load_24]
        rw [if_pos q4, if_neg (fun q => c (hk.mp q)), e1, Option.bind_some, nI_1]
      · cases hit : itemI T n p u with
        | inl st =>
          obtain ⟨r1, r2⟩ := e2.2.1 st hit
          exact Or.inr ⟨i, p, u, st, q2, c, hit, r1, r2⟩
        | inr w =>
          obtain ⟨p', u'⟩ := w
          obtain ⟨r1, r2, r3⟩ := e2.2.2 p' u' hit
          exact Or.inl ⟨p', u', rfl, ⟨p, u, q2, c, hit⟩, r2, r1, r3⟩
  · right
    simp only at q0 q4 q5
    refine ⟨(z1, Dz), ?_, i', p, u, q1, q0, Or.inr ⟨q2, st, q3, q4, q5⟩⟩
    simp only [l_X10_load_24]
    rw [if_neg (n14 q4)]
theorem Pth_fun {T : Nat → Nat} {n i : Nat} {u0 : Nat → Int32} : ∀ {p p' : Nat} {u u' : Nat → Int32}, Pth T n u0 i p u → Pth T n u0 i p' u' → p = p' ∧ u = u' := by
  induction i with
  | zero =>
    rintro p p' u u' ⟨rfl, rfl⟩ ⟨rfl, rfl⟩
    exact ⟨rfl, rfl⟩
  | succ i ih =>
    rintro p p' u u' ⟨q, v, a1, a2, a3⟩ ⟨q', v', b1, b2, b3⟩
    obtain ⟨rfl, rfl⟩ := ih a1 b1
    rw [a3] at b3
    cases b3
    exact ⟨rfl, rfl⟩
theorem Pth_le {T : Nat → Nat} {n i d p' : Nat} {u0 u' : Nat → Int32} (h : Pth T n u0 (i + 1 + d) p' u') : ∃ p u q v, Pth T n u0 i p u ∧ tkK T n p ≠ 1 ∧ itemI T n p u = Sum.inr (q, v) := by
  induction d generalizing p' u' with
  | zero =>
    obtain ⟨p, u, a1, a2, a3⟩ := h
    exact ⟨p, u, p', u', a1, a2, a3⟩
  | succ d ih =>
    obtain ⟨p, u, a1, a2, a3⟩ := h
    exact ih a1
def PFin (T : Nat → Nat) (n p : Nat) (u : Nat → Int32) : Prop := tkK T n p = 1 ∨ ∃ st, itemI T n p u = Sum.inl st
theorem Pth_fin {T : Nat → Nat} {n i i' p p' : Nat} {u0 u u' : Nat → Int32} (h : Pth T n u0 i p u) (hf : PFin T n p u) (h' : Pth T n u0 i' p' u') (hf' : PFin T n p' u') : i = i' ∧ p = p' ∧ u = u' := by
  have key : ∀ {j j' q q' : Nat} {v v' : Nat → Int32}, Pth T n u0 j q v → PFin T n q v → Pth T n u0 j' q' v' → ¬ j < j' := by
    intro j j' q q' v v' a1 a2 a3 a4
    obtain ⟨d, rfl⟩ : ∃ d, j' = j + 1 + d := ⟨j' - (j + 1), by omega⟩
    obtain ⟨x, y, q2, v2, b1, b2, b3⟩ := Pth_le a3
    obtain ⟨rfl, rfl⟩ := Pth_fun a1 b1
    rcases a2 with w | ⟨st, w⟩
    · exact b2 w
    · rw [w] at b3
      cases b3
  have e : i = i' := by
    have := key h hf h'
    have := key h' hf' h
    omega
  subst e
  exact ⟨rfl, Pth_fun h h'⟩
