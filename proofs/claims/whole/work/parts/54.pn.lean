/-! moves that would help -/
def EqP (D D' : Dt) : Prop := (∀ k b, ¬ ZQ k b → k ≠ 27 → D' k b = D k b) ∧ D' 27 0 11 = D 27 0 11
theorem EqP.rf {D : Dt} : EqP D D := ⟨fun _ _ _ _ => rfl, rfl⟩
theorem EqP.tr {D D1 D2 : Dt} (h : EqP D D1) (g : EqP D1 D2) : EqP D D2 := ⟨fun k b a1 a2 => (g.1 k b a1 a2).trans (h.1 k b a1 a2), g.2.trans h.2⟩
theorem EqP.q {D D' : Dt} (h : Eqx ZQ D D') : EqP D D' := ⟨fun k b a1 _ => h k b a1, by rw [h 27 0 (by simp [ZQ])]⟩
theorem EqP.u {D : Dt} {j : Nat} {x : Int32} (h : j ≠ 11) : EqP D (updD D 27 0 j x) := ⟨fun k b _ a2 => updD_other _ _ _ (by omega), by rw [updD_at, if_neg (by omega)]⟩
theorem EqP.s {D : Dt} {i : Nat} {x : Int32} : EqP D (updD D 4 8 i x) := EqP.q (Eqx.upd (by simp [ZQ]))
theorem Inv_p {D D1 D2 : Dt} (h : Inv D) (h1 : EqP D D1) (h2 : EqR JR D1 D2) : Inv D2 := by
  have hI1 : Inv D1 := by
    obtain ⟨a1, a2, a3, a4, a5⟩ := h
    have e33 : D1 33 0 = D 33 0 := h1.1 33 0 (by simp [ZQ]) (by decide)
    refine ⟨by rw [e33]; exact a1, ?_, a3.fr ⟨fun k b k1 k2 k3 => h1.1 k b (by simp only [ZQ]; omega) (by omega), h1.1 24 0 (by simp [ZQ]) (by decide), by rw [h1.1 32 0 (by simp [ZQ]) (by decide)], h1.1 34 0 (by simp [ZQ]) (by decide)⟩, a4.fr ⟨by rw [h1.1 22 0 (by simp [ZQ]) (by decide)], h1.1 23 0 (by simp [ZQ]) (by decide), by rw [h1.1 32 0 (by simp [ZQ]) (by decide)], h1.1 35 0 (by simp [ZQ]) (by decide)⟩, a5.fr ⟨h1.2, h1.1 28 0 (by simp [ZQ]) (by decide), h1.1 29 0 (by simp [ZQ]) (by decide), h1.1 30 0 (by simp [ZQ]) (by decide), by rw [h1.1 32 0 (by simp [ZQ]) (by decide)], h1.1 39 0 (by simp [ZQ]) (by decide)⟩⟩
    rw [e33]
    exact a2.fr (fun k hk => h1.1 k 0 (by simp only [ZQ]; omega) (by omega))
  exact Inv_q hI1 Eqx.rf h2
theorem upd_upd {s : Nat → Int32} {j : Nat} {x y : Int32} : upd (upd s j x) j y = upd s j y := by
  funext i
  by_cases w : i = j
  · rw [w, pk_us, pk_us]
  · rw [pk_un w, pk_un w, pk_un w]
theorem GeoS_mv1 {s : Nat → Int32} {n g m : Nat} (hn : n < 12) (h1 : s (14 + 5 * n + 1) = nI m) (h5 : 5 ≤ m) (h16 : m ≤ 16) (h : Plac s g m) : GeoS (upd s (14 + 5 * n) (nI g)) := by
  have := GeoS_pc hn h5 h16 h
  rw [pcM, upd_id (by rw [pk_un (by omega)]; exact h1)] at this
  exact this
theorem RelP_u4 {D : Dt} {b n : Nat} {x : Int32} {s : Nat → Int32} (h : RelP D b s) (hn : n < 12) (h0 : s (14 + 5 * n) ≠ -1) : RelP (updD D 4 b n x) b (upd s (14 + 5 * n) x) := by
  unfold RelP at *
  simp only [updD, upd]
  refine ⟨by grind, by grind, by grind, fun m hm => ?_⟩
  obtain ⟨h1, h2, h3, h4⟩ := h.2.2.2 m hm
  grind (splits := 30)
def PS (D : Dt) (s : Nat → Int32) (l : List (Nat × Nat)) : Prop := RelP D 8 s ∧ BL D 1 l
theorem p_imagine {D : Dt} {s : Nat → Int32} (hR : RelP D 0 s) (hG : GeoS s) : ∃ D', f_X3_imagine 0 D = some D' ∧ PS D' s (FLl s) ∧ Eqx ZQ D D' := by
  obtain ⟨D1, a1, a2, a3⟩ := p_copySpace (D := D) (b := 8) (b1 := 0) (by decide)
  have h8 := a2 s hR
  obtain ⟨f1, f2, f3, f4⟩ := FLl_spec hG
  obtain ⟨D2, b1, b2, b3⟩ := f3 D1 1 8 h8
  refine ⟨D2, ?_, ⟨h8.fr (fun k k1 k2 => b3 k 8 (fun w => by have := w.1; omega)), b2⟩, (a3.mono (fun k b w => Or.inr ⟨by have := w.1; omega, Or.inr w.2⟩)).tr (b3.mono SV_ZQ)⟩
  rw [f_X3_imagine, a1, Option.bind_some, b1, Option.bind_some]
theorem BL.fr {D D' : Dt} {b : Nat} {l : List (Nat × Nat)} (h : BL D b l) (h1 : D' 19 b = D 19 b) (h2 : D' 20 b = D 20 b) (h3 : D' 21 b = D 21 b) : BL D' b l := by
  unfold BL
  rw [h1, h2, h3]
  exact h
theorem PS.fr {D D' : Dt} {s : Nat → Int32} {l : List (Nat × Nat)} (h : PS D s l) (h1 : ∀ k, 1 ≤ k → k ≤ 8 → D' k 8 = D k 8) (h2 : ∀ k, 19 ≤ k → k ≤ 21 → D' k 1 = D k 1) : PS D' s l := ⟨h.1.fr h1, h.2.fr (h2 19 (by decide) (by decide)) (h2 20 (by decide) (by decide)) (h2 21 (by decide) (by decide))⟩
noncomputable def ia (s : Nat → Int32) (n : Nat) : Option Nat := (plF s (s (14 + 5 * n + 1)).toNatClampNeg).map (fun g => fiN (FLl (upd s (14 + 5 * n) (nI g))))
theorem p_tryMove {D : Dt} {s : Nat → Int32} {n m : Nat} (hS : PS D s (FLl s)) (hG : GeoS s) (hP : PolS s) (hn : n < 12) (h0 : s (14 + 5 * n) ≠ -1) (h1 : s (14 + 5 * n + 1) = nI m) (h5 : 5 ≤ m) (h16 : m ≤ 16) : ∃ D', f_X3_tryMove (nI n) D = some (if plF s m = none then 0 else 1, D') ∧ PS D' s (FLl s) ∧ EqP D D' ∧ (∀ j, j ≠ 3 → j ≠ 4 → D' 27 0 j = D 27 0 j) ∧ ∀ g, plF s m = some g → D' 27 0 3 = nI g ∧ D' 27 0 4 = nI (fiN (FLl (upd s (14 + 5 * n) (nI g)))) := by
  obtain ⟨P, p1, p2⟩ := hP
  obtain ⟨f1, f2, f3, f4⟩ := FLl_spec hG
  obtain ⟨v0, v2, v1, v3⟩ := hS.1.2.2.2 n hn
  have e5 : D 5 8 n = nI m := (v1 h0).trans h1
  have hpl : f_X0_placeBy 1 (D 1 8 0) (nI m) D = some (oI (plF s m)) := by
    rw [hS.1.1, p1, p_placeBy hS.2 f1 p2 h16, plF, p1, nI_clamp (by omega)]
  cases hp : plF s m with
  | none =>
    rw [hp] at hpl
    refine ⟨updD D 27 0 3 (-1), ?_, hS.fr (fun k k1 k2 => updD_other _ _ _ (by omega)) (fun k k1 k2 => updD_other _ _ _ (by omega)), EqP.u (by decide), fun j j1 j2 => by rw [updD_at, if_neg (by omega)], fun g hg => by cases hg⟩
    rw [f_X3_tryMove, rd_at rfl hn (by decide), rd_at rfl hn (by decide), e5, hpl, Option.bind_some, oI_n]
    simp only [pu]
    rw [show updD D 27 0 3 (-1) 27 0 3 = -1 by simp [updD_at], if_pos rfl, if_pos trivial]
  | some g =>
    rw [hp] at hpl
    have hpla := plF_plac hG hp
    have hg := hpla.lt
    have hG1 := GeoS_mv1 hn h1 h5 h16 hpla
    have hR1 : RelP (updD (updD D 27 0 3 (nI g)) 4 8 n (nI g)) 8 (upd s (14 + 5 * n) (nI g)) := RelP_u4 (hS.1.fr (fun k k1 k2 => updD_other _ _ _ (by omega))) hn h0
    obtain ⟨q1, q2, q3, q4⟩ := FLl_spec hG1
    obtain ⟨D6, b1, b2, b3⟩ := q3 _ 2 8 hR1
    have hR2 : RelP (updD (updD D6 27 0 4 (nI (fiN (FLl (upd s (14 + 5 * n) (nI g)))))) 4 8 n (s (14 + 5 * n))) 8 s := by
      have hR6 : RelP D6 8 (upd s (14 + 5 * n) (nI g)) := hR1.fr (fun k k1 k2 => b3 k 8 (fun w => by have := w.1; omega))
      have hR7 : RelP (updD D6 27 0 4 (nI (fiN (FLl (upd s (14 + 5 * n) (nI g)))))) 8 (upd s (14 + 5 * n) (nI g)) := hR6.fr (fun k k1 k2 => updD_other _ _ _ (by omega))
      have := RelP_u4 (x := s (14 + 5 * n)) hR7 hn (by rw [pk_us]; exact nI_nm1 (by omega))
      rw [upd_upd, upd_id rfl] at this
      exact this
    have e27 : D6 27 0 = updD D 27 0 3 (nI g) 27 0 := by
      rw [b3 27 0 (fun w => by have := w.2.1; omega), updD_other _ _ _ (by omega)]
    refine ⟨updD (updD D6 27 0 4 (nI (fiN (FLl (upd s (14 + 5 * n) (nI g)))))) 4 8 n (s (14 + 5 * n)), ?_, ⟨hR2, ?_⟩, ?_, ?_, ?_⟩
    · rw [f_X3_tryMove, rd_at rfl hn (by decide), rd_at rfl hn (by decide), e5, v0, hpl, Option.bind_some, oI_s]
      simp only [pu]
      rw [show updD D 27 0 3 (nI g) 27 0 3 = nI g by simp [updD_at], if_neg (nI_nm1 (by omega)), wr_at rfl hn (by decide), b1, Option.bind_some, p_fragIndex b2 q1, Option.bind_some, wr_at rfl hn (by decide), if_neg (by simp)]
    · refine hS.2.fr ?_ ?_ ?_
      · rw [updD_other _ _ _ (by omega), updD_other _ _ _ (by omega), b3 19 1 (fun w => by have := w.2.2; omega), updD_other _ _ _ (by omega), updD_other _ _ _ (by omega)]
      · rw [updD_other _ _ _ (by omega), updD_other _ _ _ (by omega), b3 20 1 (fun w => by have := w.2.2; omega), updD_other _ _ _ (by omega), updD_other _ _ _ (by omega)]
      · rw [updD_other _ _ _ (by omega), updD_other _ _ _ (by omega), b3 21 1 (fun w => by have := w.2.2; omega), updD_other _ _ _ (by omega), updD_other _ _ _ (by omega)]
    · exact ((((EqP.u (by decide)).tr EqP.s).tr (EqP.q (b3.mono SV_ZQ))).tr (EqP.u (by decide))).tr EqP.s
    · intro j j1 j2
      rw [updD_at, if_neg (by omega), updD_at, if_neg (by omega), e27, updD_at, if_neg (by omega)]
    · intro g' hg'
      cases hg'
      refine ⟨?_, ?_⟩
      · rw [updD_at, if_neg (by omega), updD_at, if_neg (by omega), e27, updD_at, if_pos ⟨rfl, rfl, rfl⟩]
      · rw [updD_at, if_neg (by omega), updD_at, if_pos ⟨rfl, rfl, rfl⟩]
def J16 : Nat → Prop := fun j => j = 8 ∨ j = 9 ∨ j = 16
theorem J16_JR : ∀ j, J16 j → JR j := fun j h => by
  simp only [J16, JR] at *
  omega
theorem J89_J16 : ∀ j, J89 j → J16 j := fun j h => by
  simp only [J16, J89] at *
  omega
theorem p_indexAfter {D : Dt} {s : Nat → Int32} {n m : Nat} (hs : D 33 0 = s) (hG : GeoS s) (hP : PolS s) (hn : n < 12) (h1 : s (14 + 5 * n + 1) = nI m) (h5 : 5 ≤ m) (h16 : m ≤ 16) : ∃ D', f_X10_indexAfter (nI n) D = some (o9 (ia s n), D') ∧ EqR J16 D D' ∧ D' 32 0 16 = oI (plF s m) := by
  obtain ⟨D1, a1, a2⟩ := plF_ref (m := m) hs hG hP h16
  have e33 : D1 33 0 = s := (a2.1 33 0 (by decide) (by decide) (by decide)).trans hs
  have hia : ia s n = (plF s m).map (fun g => fiN (FLl (upd s (14 + 5 * n) (nI g)))) := by rw [ia, h1, nI_clamp (by omega)]
  have st : f_X10_indexAfter (nI n) D = if 0 ≤ oI (plF s m) then ((f_X10_index (updD (updD D1 32 0 16 (oI (plF s m))) 33 0 (14 + 5 * n) (oI (plF s m)))).bind (fun o9 => wr o9.2 33 0 170 (nI (14 + 5 * n)) (s (14 + 5 * n)) (fun D11 => some (o9.1, D11)))) else some (-9, updD D1 32 0 16 (oI (plF s m))) := by
    rw [f_X10_indexAfter, p_X10_net, Option.bind_some, rd_at rfl (show 14 + 5 * n < 170 by omega) (by decide), Option.bind_some, nI_1, rd_at rfl (show 14 + 5 * n + 1 < 170 by omega) (by decide), hs, h1, a1, Option.bind_some]
    simp only [pu, p_X10_net, Option.bind_some]
    rw [show updD D1 32 0 16 (oI (plF s m)) 32 0 16 = oI (plF s m) by simp [updD_at], wr_at rfl (show 14 + 5 * n < 170 by omega) (by decide)]
  rw [st, oI_0 (plF_lt hG), hia]
  cases hp : plF s m with
  | none =>
    rw [if_pos rfl]
    exact ⟨_, rfl, (a2.mono J89_J16).tr (EqR.u (by simp [J16])), by simp [updD_at]⟩
  | some g =>
    have hpla := plF_plac hG hp
    have hG1 := GeoS_mv1 hn h1 h5 h16 hpla
    rw [if_neg (by simp), oI_s]
    have f33 : updD (updD D1 32 0 16 (nI g)) 33 0 (14 + 5 * n) (nI g) 33 0 = upd s (14 + 5 * n) (nI g) := by
      rw [updD_same, updD_other _ _ _ (by omega), e33]
    obtain ⟨D2, b1, b2⟩ := idx_ref f33 hG1
    have g33 : D2 33 0 = upd s (14 + 5 * n) (nI g) := (b2.1 33 0 (by decide) (by decide) (by decide)).trans f33
    rw [b1, Option.bind_some]
    simp only
    rw [wr_at rfl (show 14 + 5 * n < 170 by omega) (by decide)]
    refine ⟨_, rfl, ⟨fun k b k1 k2 k3 => ?_, fun j hj => ?_⟩, ?_⟩
    · by_cases w : k = 33 ∧ b = 0
      · obtain ⟨rfl, rfl⟩ := w
        rw [updD_same, g33, upd_upd, upd_id rfl, hs]
      · rw [updD_other _ _ _ w, b2.1 k b k1 k2 k3, updD_other _ _ _ w, updD_other _ _ _ (by omega)]
        exact a2.1 k b k1 k2 k3
    · rw [updD_at, if_neg (by omega), b2.2 j (fun q => hj (J89_J16 j q)), updD_at, if_neg (by omega), updD_at, if_neg (fun q => hj (by rw [q.2.2]; simp [J16]))]
      exact a2.2 j (fun q => hj (J89_J16 j q))
    · rw [updD_at, if_neg (by omega), b2.2 16 (by simp [J89]), updD_at, if_neg (by omega), updD_at, if_pos ⟨rfl, rfl, rfl⟩]
theorem ok_fragmentationAfter : ∀ (x1 : Int32) (D : Dt), Inv D → ∃ (r : Int32) (D1 D2 : Dt), f_X9_fragmentationAfter x1 D = some (r, D1) ∧ f_X10_fragmentationAfter x1 D1 = some (r, D2) ∧ Inv D2 := by
  intro x D h
  simp only [f_X9_fragmentationAfter, f_X10_fragmentationAfter, isNetwork_eq, X10_isNet, Option.bind_some, if_b]
  by_cases c : (0 : Int32) ≤ x ∧ x < 12
  · obtain ⟨n, hn, rfl⟩ := ixN 12 (by decide) c.1 c.2
    simp only [if_pos c]
    by_cases c3 : D 33 0 (14 + 5 * n) ≠ -1 ∧ D 33 0 (14 + 5 * n + 2) = -1
    · obtain ⟨g0, m, b1, b2, b3, b4, b5, b6, b7⟩ := h.1.2.1.blk hn c3.1
      obtain ⟨Di, a1, a2, a3⟩ := p_imagine h.2.1.2.1 h.1.2.1
      obtain ⟨Dt', t1, t2, t3, t4, t5⟩ := p_tryMove a2 h.1.2.1 h.1.pol hn c3.1 b2 b3 b4
      have hEP := (EqP.q a3).tr t3
      have e33 : Dt' 33 0 = D 33 0 := hEP.1 33 0 (by simp [ZQ]) (by decide)
      obtain ⟨D2, r1, r2, r3⟩ := p_indexAfter e33 h.1.2.1 h.1.pol hn b2 b3 b4
      have hia : ia (D 33 0) n = (plF (D 33 0) m).map (fun g => fiN (FLl (upd (D 33 0) (14 + 5 * n) (nI g)))) := by rw [ia, b2, nI_clamp (by omega)]
      refine ⟨o9 (ia (D 33 0) n), Dt', D2, ?_, ?_, Inv_p h hEP (r2.mono J16_JR)⟩
      · rw [isMovable_s h.2.1.2.1 hn, Option.bind_some, if_b, if_pos c3, a1, Option.bind_some, t1, Option.bind_some, hia]
        simp only
        rw [if_b']
        cases hp : plF (D 33 0) m with
        | none => rw [if_pos rfl]; rfl
        | some g => rw [if_neg (by simp), (t5 g hp).2]; rfl
      · rw [X10_hasBlock e33 h.1.2.1 hn, Option.bind_some, if_b', if_neg c3.1, X10_hasOld e33 h.1.2.1 hn, Option.bind_some, if_b', if_pos c3.2, r1, Option.bind_some]
    · refine ⟨-2, D, D, ?_, ?_, h⟩
      · rw [isMovable_s h.2.1.2.1 hn, Option.bind_some, if_b, if_neg c3]
      · rw [X10_hasBlock rfl h.1.2.1 hn, Option.bind_some, if_b', X10_hasOld rfl h.1.2.1 hn, Option.bind_some, if_b']
        by_cases w : D 33 0 (14 + 5 * n) = -1
        · rw [if_pos w]
        · rw [if_neg w, if_neg (fun q => c3 ⟨w, q⟩)]
  · simp only [if_neg c]
    exact ⟨-1, D, D, rfl, rfl, h⟩
/-- the best move -/
def bsU (n : Nat) (w : Option Nat × Nat) (o : Option Nat) : Option Nat × Nat := match o with
  | none => w
  | some f => if f < w.2 then (some n, f) else w
theorem bsU_n (n : Nat) (w : Option Nat × Nat) : bsU n w none = w := rfl
theorem bsU_s (n : Nat) (w : Option Nat × Nat) (f : Nat) : bsU n w (some f) = if f < w.2 then (some n, f) else w := rfl
noncomputable def bs (s : Nat → Int32) : Nat → Option Nat × Nat
  | 0 => (none, fiN (FLl s))
  | n + 1 => if s (14 + 5 * n) ≠ -1 ∧ s (14 + 5 * n + 2) = -1 then bsU n (bs s n) (ia s n) else bs s n
theorem bs_0 (s : Nat → Int32) : bs s 0 = (none, fiN (FLl s)) := by
  simp only [bs]
theorem ia_le {s : Nat → Int32} {n f : Nat} (h : ia s n = some f) : f ≤ 1000 := by
  simp only [ia] at h
  cases hp : plF s (s (14 + 5 * n + 1)).toNatClampNeg with
  | none => rw [hp] at h; cases h
  | some g =>
    rw [hp] at h
    simp at h
    rw [← h]
    exact fiN_le _
theorem bs_le {s : Nat → Int32} : ∀ n, (bs s n).2 ≤ 1000 := by
  intro n
  induction n with
  | zero => rw [bs_0]; exact fiN_le _
  | succ n ih =>
    simp only [bs]
    by_cases c : s (14 + 5 * n) ≠ -1 ∧ s (14 + 5 * n + 2) = -1
    · rw [if_pos c]
      cases hi : ia s n with
      | none => rw [bsU_n]; exact ih
      | some f =>
        rw [bsU_s]
        by_cases c2 : f < (bs s n).2
        · rw [if_pos c2]; exact ia_le hi
        · rw [if_neg c2]; exact ih
    · rw [if_neg c]; exact ih
theorem bs_k {s : Nat → Int32} : ∀ n k, (bs s n).1 = some k → k < n ∧ (s (14 + 5 * k) ≠ -1 ∧ s (14 + 5 * k + 2) = -1) ∧ ia s k = some (bs s n).2 := by
  intro n
  induction n with
  | zero => intro k h; rw [bs_0] at h; cases h
  | succ n ih =>
    intro k h
    simp only [bs] at h ⊢
    by_cases c : s (14 + 5 * n) ≠ -1 ∧ s (14 + 5 * n + 2) = -1
    · rw [if_pos c] at h ⊢
      cases hi : ia s n with
      | none =>
        rw [hi, bsU_n] at h
        rw [bsU_n]
        have := ih k h
        exact ⟨by omega, this.2⟩
      | some f =>
        rw [hi, bsU_s] at h
        rw [bsU_s]
        by_cases c2 : f < (bs s n).2
        · rw [if_pos c2] at h ⊢
          simp only at h ⊢
          injection h with h
          subst h
          exact ⟨by omega, c, hi⟩
        · rw [if_neg c2] at h ⊢
          have := ih k h
          exact ⟨by omega, this.2⟩
    · rw [if_neg c] at h ⊢
      have := ih k h
      exact ⟨by omega, this.2⟩
theorem p_findBest {D : Dt} {s : Nat → Int32} (hS : PS D s (FLl s)) (hG : GeoS s) (hP : PolS s) : ∃ D', f_X3_findBest D = some (if (bs s 12).1 = none then 0 else 1, D') ∧ PS D' s (FLl s) ∧ EqP D D' ∧ D' 27 0 5 = oI (bs s 12).1 ∧ D' 27 0 7 = nI (bs s 12).2 ∧ ∀ k, (bs s 12).1 = some k → ∃ g, plF s (s (14 + 5 * k + 1)).toNatClampNeg = some g ∧ D' 27 0 6 = nI g := by
  obtain ⟨f1, f2, f3, f4⟩ := FLl_spec hG
  have key : ∃ e, lp l_X3_findBest_21 FU ((0 : Int32), updD (updD D 27 0 5 (-1)) 27 0 7 (nI (fiN (FLl s)))) = some e ∧ (PS e s (FLl s) ∧ EqP D e ∧ e 27 0 5 = oI (bs s 12).1 ∧ e 27 0 7 = nI (bs s 12).2 ∧ ∀ k, (bs s 12).1 = some k → ∃ g, plF s (s (14 + 5 * k + 1)).toNatClampNeg = some g ∧ e 27 0 6 = nI g) := by
    apply lp_n (fun i x => x.1 = nI i ∧ PS x.2 s (FLl s) ∧ EqP D x.2 ∧ x.2 27 0 5 = oI (bs s i).1 ∧ x.2 27 0 7 = nI (bs s i).2 ∧ ∀ k, (bs s i).1 = some k → ∃ g, plF s (s (14 + 5 * k + 1)).toNatClampNeg = some g ∧ x.2 27 0 6 = nI g) _ 12
    · rw [bs_0]
      refine ⟨rfl, hS.fr (fun k k1 k2 => (updD_other _ _ _ (by omega)).trans (updD_other _ _ _ (by omega))) (fun k k1 k2 => (updD_other _ _ _ (by omega)).trans (updD_other _ _ _ (by omega))), (EqP.u (by decide)).tr (EqP.u (by decide)), ?_, ?_, fun k hk => by cases hk⟩
      · simp [updD_at]; rfl
      · simp [updD_at]
    · decide
    · rintro i ⟨y, E⟩ hi ⟨x1, x2, x3, x4, x5, x6⟩
      simp only at x1 x2 x3 x4 x5 x6
      subst x1
      simp only [l_X3_findBest_21]
      by_cases w : i = 12
      · right
        subst w
        rw [if_pos (by decide)]
        exact ⟨_, rfl, x2, x3, x4, x5, x6⟩
      · left
        have hi2 : i < 12 := by omega
        refine ⟨hi2, ?_⟩
        rw [if_neg (g12 hi2), isMovable_s x2.1 hi2, Option.bind_some, if_b, nI_1]
        by_cases c : s (14 + 5 * i) ≠ -1 ∧ s (14 + 5 * i + 2) = -1
        · obtain ⟨g0, m, b1, b2, b3, b4, b5, b6, b7⟩ := hG.blk hi2 c.1
          obtain ⟨E2, t1, t2, t3, t4, t5⟩ := p_tryMove x2 hG hP hi2 c.1 b2 b3 b4
          have hia : ia s i = (plF s m).map (fun g => fiN (FLl (upd s (14 + 5 * i) (nI g)))) := by rw [ia, b2, nI_clamp (by omega)]
          have hbs : bs s (i + 1) = bsU i (bs s i) (ia s i) := by
            simp only [bs]
            rw [if_pos c]
          rw [if_pos c, t1, Option.bind_some]
          simp only
          rw [if_b', hbs, hia]
          cases hp : plF s m with
          | none =>
            rw [if_pos rfl]
            show ∃ t, _ ∧ _
            simp only [Option.map_none, bsU_n]
            exact ⟨_, rfl, rfl, t2, x3.tr t3, (t4 5 (by decide) (by decide)).trans x4, (t4 7 (by decide) (by decide)).trans x5, fun k hk => by
              obtain ⟨g', q1, q2⟩ := x6 k hk
              exact ⟨g', q1, (t4 6 (by decide) (by decide)).trans q2⟩⟩
          | some g =>
            obtain ⟨u1, u2⟩ := t5 g hp
            have h1000 := bs_le (s := s) i
            have hf1000 := fiN_le (FLl (upd s (14 + 5 * i) (nI g)))
            rw [if_neg (by simp), t4 7 (by decide) (by decide), x5, u2, if_le (by omega) (by omega)]
            simp only [Option.map_some, bsU_s]
            by_cases c2 : (bs s i).2 ≤ fiN (FLl (upd s (14 + 5 * i) (nI g)))
            · rw [if_pos c2, if_neg (by omega)]
              exact ⟨_, rfl, rfl, t2, x3.tr t3, (t4 5 (by decide) (by decide)).trans x4, (t4 7 (by decide) (by decide)).trans x5, fun k hk => by
              obtain ⟨g', q1, q2⟩ := x6 k hk
              exact ⟨g', q1, (t4 6 (by decide) (by decide)).trans q2⟩⟩
            · rw [if_neg c2, if_pos (by omega)]
              simp only [pu]
              refine ⟨_, rfl, rfl, ?_, ?_, ?_, ?_, fun k hk => ?_⟩
              · exact t2.fr (fun k k1 k2 => by simp only; rw [updD_other _ _ _ (by omega), updD_other _ _ _ (by omega), updD_other _ _ _ (by omega)]) (fun k k1 k2 => by simp only; rw [updD_other _ _ _ (by omega), updD_other _ _ _ (by omega), updD_other _ _ _ (by omega)])
              · exact (((x3.tr t3).tr (EqP.u (by decide))).tr (EqP.u (by decide))).tr (EqP.u (by decide))
              · simp [updD_at]; rfl
              · simp [updD_at, u2]
              · injection hk with hk
                subst hk
                rw [b2, nI_clamp (by omega)]
                exact ⟨g, hp, by simp [updD_at, u1]⟩
        · have hbs : bs s (i + 1) = bs s i := by
            simp only [bs]
            rw [if_neg c]
          rw [if_neg c, hbs]
          exact ⟨_, rfl, rfl, x2, x3, x4, x5, x6⟩
  obtain ⟨E, k1, k2, k3, k4, k5, k6⟩ := key
  refine ⟨E, ?_, k2, k3, k4, k5, k6⟩
  rw [f_X3_findBest]
  simp only [pu]
  have hB : BL (updD D 27 0 5 (-1)) 1 (FLl s) := hS.2.fr (updD_other _ _ _ (by omega)) (updD_other _ _ _ (by omega)) (updD_other _ _ _ (by omega))
  rw [p_fragIndex hB f1, Option.bind_some, k1, Option.bind_some, k4, oI_m1 (fun k hk => by have := (bs_k 12 k hk).1; omega)]
  by_cases c : (bs s 12).1 = none
  · rw [if_pos c, if_pos c]
  · rw [if_neg c, if_neg c]
theorem p_best {D : Dt} {s : Nat → Int32} (hs : D 33 0 = s) (hG : GeoS s) (hP : PolS s) : ∃ D', f_X10_best D = some (o9 (bs s 12).1, D') ∧ EqR J16 D D' := by
  obtain ⟨D1, a1, a2⟩ := idx_ref hs hG
  have key : ∃ e, lp l_X10_best_10 FU ((-9 : Int32), nI (fiN (FLl s)), (0 : Int32), D1) = some e ∧ (e.1 = o9 (bs s 12).1 ∧ EqR J16 D e.2) := by
    apply lp_n (fun i x => x.1 = o9 (bs s i).1 ∧ x.2.1 = nI (bs s i).2 ∧ x.2.2.1 = nI i ∧ EqR J16 D x.2.2.2) _ 12
    · rw [bs_0]
      exact ⟨rfl, rfl, rfl, a2.mono J89_J16⟩
    · decide
    · rintro i ⟨p, q, y, E⟩ hi ⟨x1, x2, x3, x4⟩
      simp only at x1 x2 x3 x4
      subst x1
      subst x2
      subst x3
      have e33 : E 33 0 = s := (x4.1 33 0 (by decide) (by decide) (by decide)).trans hs
      simp only [l_X10_best_10]
      by_cases w : i = 12
      · right
        subst w
        rw [if_pos (by decide)]
        exact ⟨_, rfl, rfl, x4⟩
      · left
        have hi2 : i < 12 := by omega
        refine ⟨hi2, ?_⟩
        have j9 : ∀ F : Dt, j_X10_best_42_t4 (o9 (bs s i).1, nI (bs s i).2, nI i, E) ((-9 : Int32), F) = some (Sum.inl (o9 (bs s i).1, nI (bs s i).2, nI (i + 1), F)) := by
          intro F
          simp only [j_X10_best_42_t4]
          rw [if_pos trivial, nI_1]
        rw [if_neg (g12 hi2), X10_hasBlock e33 hG hi2, Option.bind_some, if_b', X10_hasOld e33 hG hi2, Option.bind_some, if_b', j9]
        by_cases c0 : s (14 + 5 * i) = -1
        · have hbs : bs s (i + 1) = bs s i := by
            simp only [bs]
            rw [if_neg (fun q => q.1 c0)]
          rw [if_pos c0, hbs]
          exact ⟨_, rfl, rfl, rfl, rfl, x4⟩
        · rw [if_neg c0]
          by_cases c1 : s (14 + 5 * i + 2) = -1
          · obtain ⟨g0, m, b1, b2, b3, b4, b5, b6, b7⟩ := hG.blk hi2 c0
            obtain ⟨E2, t1, t2, t3⟩ := p_indexAfter e33 hG hP hi2 b2 b3 b4
            have hbs : bs s (i + 1) = bsU i (bs s i) (ia s i) := by
              simp only [bs]
              rw [if_pos ⟨c0, c1⟩]
            rw [if_pos c1, t1, Option.bind_some, hbs]
            cases hia : ia s i with
            | none =>
              rw [bsU_n, show o9 none = (-9 : Int32) from rfl, j9]
              exact ⟨_, rfl, rfl, rfl, rfl, x4.tr t2⟩
            | some f =>
              have hf := ia_le hia
              have h1000 := bs_le (s := s) i
              have hne : ¬ nI f = (-9 : Int32) := by
                intro q
                have := congrArg Int32.toInt q
                rw [nI_toInt (by omega)] at this
                have e : (-9 : Int32).toInt = -9 := by decide
                rw [e] at this
                omega
              simp only [j_X10_best_42_t4]
              rw [show o9 (some f) = nI f from rfl, if_neg hne, if_le (by omega) (by omega), bsU_s, nI_1]
              by_cases c2 : (bs s i).2 ≤ f
              · rw [if_pos c2, if_neg (by omega)]
                exact ⟨_, rfl, rfl, rfl, rfl, x4.tr t2⟩
              · rw [if_neg c2, if_pos (by omega)]
                exact ⟨_, rfl, rfl, rfl, rfl, x4.tr t2⟩
          · have hbs : bs s (i + 1) = bs s i := by
              simp only [bs]
              rw [if_neg (fun q => c1 q.2)]
            rw [if_neg c1, hbs]
            exact ⟨_, rfl, rfl, rfl, rfl, x4⟩
  obtain ⟨⟨p, E⟩, k1, k2, k3⟩ := key
  simp only at k2 k3
  refine ⟨E, ?_, k3⟩
  rw [f_X10_best, a1, Option.bind_some]
  simp only
  rw [k1, Option.bind_some, k2]
theorem ok_bestMove : ∀ (_ : Unit) (D : Dt), Inv D → ∃ (r : Int32) (D1 D2 : Dt), f_X9_bestMove D = some (r, D1) ∧ f_X10_bestMove D1 = some (r, D2) ∧ Inv D2 := by
  intro _ D h
  obtain ⟨Di, a1, a2, a3⟩ := p_imagine h.2.1.2.1 h.1.2.1
  obtain ⟨D1, b1, b2, b3, b4, b5, b6⟩ := p_findBest a2 h.1.2.1 h.1.pol
  have hEP := (EqP.q a3).tr b3
  have e33 : D1 33 0 = D 33 0 := hEP.1 33 0 (by simp [ZQ]) (by decide)
  obtain ⟨D2, c1, c2⟩ := p_best e33 h.1.2.1 h.1.pol
  refine ⟨o9 (bs (D 33 0) 12).1, D1, D2, ?_, ?_, Inv_p h hEP (c2.mono J16_JR)⟩
  · rw [f_X9_bestMove, a1, Option.bind_some, b1, Option.bind_some]
    simp only
    rw [if_b', b4]
    cases hb : (bs (D 33 0) 12).1 with
    | none => rw [if_pos rfl]; rfl
    | some k => rw [if_neg (by simp)]; rfl
  · rw [f_X10_bestMove, c1, Option.bind_some]
