/-! what is free in a pool; pool, removePool -/
theorem take_s {l : List (Nat × Nat)} {i : Nat} (hi : i < l.length) : l.take (i + 1) = l.take i ++ [(xA l i, yA l i)] := by
  rw [List.take_succ, getD_some hi]
  rfl
theorem p_addressesIn {D : Dt} {b pb pl : Nat} {l : List (Nat × Nat)} (hB : BL D b l) (hl : LB l) (hpb : pb < 65536) (hpl : pl ≤ 16) : f_X0_addressesIn b (nI pb) (nI pl) D = some (nI (sz (l.filter (fun q => cov (some (pb, pl)) q.1)))) := by
  have hn := hl.1
  have h : lp (l_X0_addressesIn_5 b (nI pb) (nI pl) D) FU ((0 : Int32), (0 : Int32)) = some (nI (sz ((l.take l.length).filter (fun q => cov (some (pb, pl)) q.1)))) := by
    apply lp_to (fun i => (nI (sz ((l.take i).filter (fun q => cov (some (pb, pl)) q.1))), nI i)) l.length
    · simp [sz]; rfl
    · exact FU_big (by omega)
    · intro i hi
      have hx := hl.2.1 i hi
      have hzp := zz_pos (yA l i)
      have o1 : OB (nI pb) (nI pl) (some (pb, pl)) := ⟨rfl, rfl, hpb, hpl⟩
      simp only [l_X0_addressesIn_5, hB.1]
      rw [st292 hi hl.1, rd_at rfl (show i < 292 by omega) (by decide), rd_at rfl (show i < 292 by omega) (by decide), (hB.at hi).1, (hB.at hi).2, covers_ob o1 (by omega), Option.bind_some, b01_0, sizeOf_eq hx.2, Option.bind_some, take_s hi, List.filter_append, sz_app, nI_1]
      by_cases w : cov (some (pb, pl)) (xA l i) = true
      · have e : [(xA l i, yA l i)].filter (fun q => cov (some (pb, pl)) q.1) = [(xA l i, yA l i)] := by simp [w]
        rw [if_pos w, e, nI_add]
        simp [sz]
      · have e : [(xA l i, yA l i)].filter (fun q => cov (some (pb, pl)) q.1) = [] := by simp [w]
        rw [if_neg w, e, show (0 : Int32) = nI 0 from rfl, nI_add]
        simp [sz]
    · simp only [l_X0_addressesIn_5, hB.1]
      rw [ex292 hl.1]
  rw [f_X0_addressesIn, h, Option.bind_some, List.take_length]
theorem p_blocksIn {D : Dt} {b pb pl : Nat} {l : List (Nat × Nat)} (hB : BL D b l) (hl : LB l) (hpb : pb < 65536) (hpl : pl ≤ 16) : f_X0_blocksIn b (nI pb) (nI pl) D = some (nI (l.filter (fun q => cov (some (pb, pl)) q.1)).length) := by
  have hn := hl.1
  have h : lp (l_X0_blocksIn_5 b (nI pb) (nI pl) D) FU ((0 : Int32), (0 : Int32)) = some (nI ((l.take l.length).filter (fun q => cov (some (pb, pl)) q.1)).length) := by
    apply lp_to (fun i => (nI ((l.take i).filter (fun q => cov (some (pb, pl)) q.1)).length, nI i)) l.length
    · simp; rfl
    · exact FU_big (by omega)
    · intro i hi
      have hx := hl.2.1 i hi
      have hzp := zz_pos (yA l i)
      have o1 : OB (nI pb) (nI pl) (some (pb, pl)) := ⟨rfl, rfl, hpb, hpl⟩
      simp only [l_X0_blocksIn_5, hB.1]
      rw [st292 hi hl.1, rd_at rfl (show i < 292 by omega) (by decide), (hB.at hi).1, covers_ob o1 (by omega), Option.bind_some, b01_0, take_s hi, List.filter_append, List.length_append, nI_1 i]
      by_cases w : cov (some (pb, pl)) (xA l i) = true
      · have e : [(xA l i, yA l i)].filter (fun q => cov (some (pb, pl)) q.1) = [(xA l i, yA l i)] := by simp [w]
        rw [if_pos w, e, nI_1]
        rfl
      · have e : [(xA l i, yA l i)].filter (fun q => cov (some (pb, pl)) q.1) = [] := by simp [w]
        rw [if_neg w, e, show (0 : Int32) = nI 0 from rfl, nI_add]
        rfl
    · simp only [l_X0_blocksIn_5, hB.1]
      rw [ex292 hl.1]
  rw [f_X0_blocksIn, h, Option.bind_some, List.take_length]
theorem filter_cat {N : Nat} {po : Nat → Nat × Nat} {us : Nat → Option (Nat × Nat)} {ls : Nat → List (Nat × Nat)} (hG : Geo N po us) (hL : FLs N po us ls) {p : Nat} (hp : p < N) : (cat ls N).filter (fun q => cov (some ((po p).1, (po p).2)) q.1) = ls p := by
  have key : ∀ n, n ≤ N → (cat ls n).filter (fun q => cov (some ((po p).1, (po p).2)) q.1) = if p < n then ls p else [] := by
    intro n
    induction n with
    | zero => intro _; rfl
    | succ n ih =>
      intro hn
      simp only [cat]
      rw [List.filter_append, ih (by omega)]
      by_cases w : n = p
      · subst w
        rw [if_neg (by omega), if_pos (by omega), List.nil_append, List.filter_eq_self]
        intro q hq
        obtain ⟨a1, a2, _⟩ := FSeg_mem _ _ _ (hL n hp) q hq
        have := zz_pos q.2
        simp only [cov, Bool.and_eq_true, decide_eq_true_eq]
        omega
      · have e : (ls n).filter (fun q => cov (some ((po p).1, (po p).2)) q.1) = [] := by
          rw [List.filter_eq_nil_iff]
          intro q hq
          obtain ⟨a1, a2, _⟩ := FSeg_mem _ _ _ (hL n (by omega)) q hq
          have := zz_pos q.2
          have := hG.2.2.1 n p (by omega) hp w
          simp only [cov, Bool.and_eq_true, decide_eq_true_eq]
          omega
        rw [e, List.append_nil]
        by_cases w2 : p < n
        · rw [if_pos w2, if_pos (by omega)]
        · rw [if_neg w2, if_neg (by omega)]
  rw [key N (Nat.le_refl _), if_pos hp]
theorem FSeg_sz {F : Nat → Prop} {pl : Nat} : ∀ (l : List (Nat × Nat)) (a b : Nat), a ≤ b → FSeg F pl l a b → sz l ≤ b - a ∧ (AllF F a b → sz l = b - a) ∧ (∀ y, a ≤ y → y < b → ¬ F y → sz l < b - a) := by
  intro l
  induction l with
  | nil =>
    intro a b hab h
    refine ⟨Nat.zero_le _, fun hA => ?_, fun y y1 y2 _ => by simp only [sz]; omega⟩
    simp only [sz]
    by_cases w : a = b
    · omega
    · exact absurd (hA a (Nat.le_refl _) (by omega)) (h a (Nat.le_refl _) (by omega))
  | cons q r ih =>
    intro a b hab h
    obtain ⟨g1, g2, g3, g4, g5⟩ := h
    obtain ⟨i1, i2, i3⟩ := ih _ b g2 g5
    simp only [sz]
    refine ⟨by omega, fun hA => ?_, fun y y1 y2 hy => ?_⟩
    · have e : q.1 = a := by
        rcases Nat.lt_or_ge a q.1 with w | w
        · exact absurd (hA a (Nat.le_refl _) (by omega)) (g3 a (Nat.le_refl _) w)
        · omega
      have := i2 (fun y y1 y2 => hA y (by omega) y2)
      omega
    · rcases Nat.lt_or_ge y q.1 with w | w
      · omega
      · rcases Nat.lt_or_ge y (q.1 + zz q.2) with w2 | w2
        · exact absurd (g4.2.2.2.1 y w w2) hy
        · have := i3 y w2 y2 hy
          omega
theorem ok_pool : ∀ (x1 x2 : Int32) (D : Dt), Inv D → ∃ (r : Int32) (D1 D2 : Dt), f_X9_pool x1 x2 D = some (r, D1) ∧ f_X10_pool x1 x2 D1 = some (r, D2) ∧ Inv D2 := by
  intro x y D h
  obtain ⟨l, D1, a1, a2, a3, a4, ⟨N, po, us, ls, hV, hP, hG, hL, rfl⟩, a6, _⟩ := q_take h
  have hN := hG.1
  have e5 : D 1 0 1 = nI N := h.2.1.2.1.2.1.trans hP.1
  by_cases c : 0 ≤ x ∧ x < nI N
  · obtain ⟨p, hp, rfl⟩ := ixN N (by omega) c.1 c.2
    obtain ⟨p1, p2, p3, p4⟩ := hG.2.1 p hp
    have hzp := zz_pos (po p).2
    have i1 : (6 : Int32) + (2 : Int32) * nI p = nI (6 + 2 * p) := by
      rw [show (6 : Int32) = nI 6 from rfl, show (2 : Int32) = nI 2 from rfl, pk_mul, nI_add]
    have q1 : D 2 0 p = nI (po p).1 := ((h.2.1.2.1.pov hP hN).2 p hp).1
    have q2 : D 3 0 p = nI (po p).2 := ((h.2.1.2.1.pov hP hN).2 p hp).2
    by_cases c2 : (0 : Int32) ≤ y ∧ y ≤ 3
    · obtain ⟨j, hj, rfl⟩ := ixL 3 (by decide) c2.1 c2.2
      have ref : ∀ E, E 33 0 = D 33 0 → ∃ E2, f_X10_findsFree (nI p) (updD (updD E 32 0 8 0) 32 0 9 0) = some E2 ∧ BR E2 (ls p) ∧ EqR J89 E E2 := by
        intro E e
        have hB0 : BR (updD (updD E 32 0 8 0) 32 0 9 0) [] := ⟨by simp [updD_at]; rfl, by simp [updD_at, sz]; rfl, fun i x y hx => by simp at hx⟩
        have e33 : updD (updD E 32 0 8 0) 32 0 9 0 33 0 = D 33 0 := by rw [updD_other _ _ _ (by omega), updD_other _ _ _ (by omega)]; exact e
        obtain ⟨E2, k1, k2, k3⟩ := p_findsFree (l0 := []) (r0 := ls p) (by rw [e33]; exact hV) (show p < 4 by omega) (by rw [e33]; exact (hP.2 p hp).1) (by rw [e33]; exact (hP.2 p hp).2) (by omega) p4 (hL p hp) hB0 (by
          have := cat_bound hG hL
          obtain ⟨r, hr⟩ := cat_le (ls := ls) (m := p + 1) N (by omega)
          rw [hr, List.length_append] at this
          simp only [cat, List.length_append] at this
          rw [List.nil_append]
          omega)
        exact ⟨E2, k1, k2, ((EqR.u (Or.inl rfl)).tr (EqR.u (Or.inr rfl))).tr k3⟩
      have hf := filter_cat hG hL hp
      by_cases cj : j < 2
      · obtain ⟨E2, k1, k2, k3⟩ := ref D rfl
        have f33 : E2 33 0 = D 33 0 := k3.1 33 0 (by decide) (by decide) (by decide)
        refine ⟨D 33 0 (6 + 2 * p + j), D, E2, ?_, ?_, Inv_q h Eqx.rf (k3.mono J89_JR)⟩
        · rw [f_X9_pool, isPool_eq hN e5, Option.bind_some, if_b, if_pos c, isIn_eq, Option.bind_some, if_b, if_pos c2, rd_at rfl (show p < 4 by omega) (by decide), rd_at rfl (show p < 4 by omega) (by decide), q1, q2]
          rcases (show j = 0 ∨ j = 1 by omega) with rfl | rfl
          · rw [if_pos (by decide), Nat.add_zero, (hP.2 p hp).1]
          · rw [if_neg (by decide), if_pos (by decide), (hP.2 p hp).2]
        · rw [f_X10_pool, X10_isPool hN hP.1, Option.bind_some, if_b, if_pos c, in_eq, Option.bind_some, if_b, if_pos c2]
          simp only [pu]
          rw [k1, Option.bind_some, if_neg (show ¬ (2 : Int32) ≤ nI j from nI_ge (b := 2) cj (by decide)), i1, nI_add, rd_at rfl (show 6 + 2 * p + j < 170 by omega) (by decide), f33]
      · obtain ⟨E2, k1, k2, k3⟩ := ref D1 a6
        refine ⟨if j = 2 then nI (sz (ls p)) else nI (ls p).length, D1, E2, ?_, ?_, Inv_q h a4 (k3.mono J89_JR)⟩
        · have n0 : ¬ nI j = (0 : Int32) := fun q => by
            have := (nI_eq (b := 0) (by omega) (by decide)).mp q
            omega
          have n1 : ¬ nI j = (1 : Int32) := fun q => by
            have := (nI_eq (b := 1) (by omega) (by decide)).mp q
            omega
          rw [f_X9_pool, isPool_eq hN e5, Option.bind_some, if_b, if_pos c, isIn_eq, Option.bind_some, if_b, if_pos c2, rd_at rfl (show p < 4 by omega) (by decide), rd_at rfl (show p < 4 by omega) (by decide), q1, q2, if_neg n0, if_neg n1, a1, Option.bind_some, p_addressesIn a2 a3 (by omega) (by omega), p_blocksIn a2 a3 (by omega) (by omega), hf, Option.bind_some, Option.bind_some, show (2 : Int32) = nI 2 from rfl, if_eq (by omega) (by decide)]
          by_cases w : j = 2
          · rw [if_pos w, if_pos w]
          · rw [if_neg w, if_neg w]
        · rw [f_X10_pool, X10_isPool hN (by rw [a6]; exact hP.1), Option.bind_some, if_b, if_pos c, in_eq, Option.bind_some, if_b, if_pos c2]
          simp only [pu]
          rw [k1, Option.bind_some, if_pos (show (2 : Int32) ≤ nI j from nI_le (a := 2) (by omega) (by omega)), k2.1, k2.2.1, show (2 : Int32) = nI 2 from rfl, if_eq (by omega) (by decide)]
          by_cases w : j = 2
          · rw [if_pos w, if_pos w]
          · rw [if_neg w, if_neg w]
    · refine ⟨-1, D, D, ?_, ?_, h⟩
      · rw [f_X9_pool, isPool_eq hN e5, Option.bind_some, if_b, if_pos c, isIn_eq, Option.bind_some, if_b, if_neg c2]
      · rw [f_X10_pool, X10_isPool hN hP.1, Option.bind_some, if_b, if_pos c, in_eq, Option.bind_some, if_b, if_neg c2]
  · refine ⟨-1, D, D, ?_, ?_, h⟩
    · rw [f_X9_pool, isPool_eq hN e5, Option.bind_some, if_b, if_neg c]
    · rw [f_X10_pool, X10_isPool hN hP.1, Option.bind_some, if_b, if_neg c]
/-! removePool -/
def rpM (s : Nat → Int32) (lo n : Nat) : Nat → Int32 := fun j => if lo ≤ j ∧ j < lo + n then s (j + 2) else s j
theorem rpM_s (s : Nat → Int32) (lo n : Nat) : upd (rpM s lo n) (lo + n) (rpM s lo n (lo + n + 2)) = rpM s lo (n + 1) := by
  funext j
  simp only [upd, rpM]
  rw [if_neg (show ¬ (lo ≤ lo + n + 2 ∧ lo + n + 2 < lo + n) by omega)]
  by_cases w : j = lo + n
  · rw [if_pos w, if_pos (by omega), w]
  · rw [if_neg w]
    by_cases w2 : lo ≤ j ∧ j < lo + n
    · rw [if_pos w2, if_pos (by omega)]
    · rw [if_neg w2, if_neg (by omega)]
def poX (po : Nat → Nat × Nat) (g i p : Nat) : Nat × Nat := if g ≤ p ∧ p < g + i then po (p + 1) else po p
theorem p_dropPool {D : Dt} {b N g : Nat} {po : Nat → Nat × Nat} (hP : PoV D b N po) (hN : N ≤ 4) (hg : g < N) : ∃ D', f_X5_dropPool b (nI g) D = some D' ∧ D' 1 b 0 = D 1 b 0 ∧ PoV D' b (N - 1) (poX po g (N - 1 - g)) ∧ Eqx (fun k b' => (k = 1 ∨ k = 2 ∨ k = 3) ∧ b' = b) D D' := by
  have key : ∃ e, lp (l_X5_dropPool_2 b) FU (nI g, D) = some e ∧ (e 1 b = D 1 b ∧ (∀ p, p < N → e 2 b p = nI (poX po g (N - 1 - g) p).1 ∧ e 3 b p = nI (poX po g (N - 1 - g) p).2) ∧ Eqx (fun k b' => (k = 1 ∨ k = 2 ∨ k = 3) ∧ b' = b) D e) := by
    apply lp_n (fun i s => s.1 = nI (g + i) ∧ s.2 1 b = D 1 b ∧ (∀ p, p < N → s.2 2 b p = nI (poX po g i p).1 ∧ s.2 3 b p = nI (poX po g i p).2) ∧ Eqx (fun k b' => (k = 1 ∨ k = 2 ∨ k = 3) ∧ b' = b) D s.2) _ (N - 1 - g)
    · refine ⟨rfl, rfl, fun p hp => ?_, Eqx.rf⟩
      rw [poX, if_neg (by omega)]
      exact hP.2 p hp
    · omega
    · rintro i ⟨x, E⟩ hi ⟨ex, h1, h2, hE⟩
      simp only at ex h1 h2 hE
      subst ex
      have e5 : E 1 b 1 = nI N := by rw [h1]; exact hP.1
      have ci : 0 ≤ nI (g + i) ∧ nI (g + i) < nI N := ⟨nI_pos' (by omega), nI_lt (by omega) (by omega)⟩
      simp only [l_X5_dropPool_2]
      rw [isPool_eq hN e5, Option.bind_some, if_b, if_pos ci, nI_1, e5]
      by_cases w : i = N - 1 - g
      · right
        subst w
        by_cases w2 : N = 4
        · rw [if_pos (show (4 : Int32) ≤ nI (g + (N - 1 - g) + 1) from nI_le (a := 4) (by omega) (by omega))]
          exact ⟨_, rfl, h1, h2, hE⟩
        · rw [if_neg (g4 (by omega)), if_pos (nI_le (by omega) (by omega))]
          exact ⟨_, rfl, h1, h2, hE⟩
      · left
        refine ⟨by omega, ?_⟩
        rw [if_neg (g4 (by omega)), if_neg (nI_ge (by omega) (by omega)), rd_at rfl (show g + i + 1 < 4 by omega) (by decide), wr_at rfl (show g + i < 4 by omega) (by decide), rd_at rfl (show g + i + 1 < 4 by omega) (by decide), wr_at rfl (show g + i < 4 by omega) (by decide)]
        have f3 : updD E 2 b (g + i) (E 2 b (g + i + 1)) 3 b (g + i + 1) = E 3 b (g + i + 1) := by rw [updD_other _ _ _ (by omega)]
        have hx : poX po g i (g + i + 1) = po (g + i + 1) := by rw [poX, if_neg (by omega)]
        rw [f3, (h2 (g + i + 1) (by omega)).1, (h2 (g + i + 1) (by omega)).2, hx]
        refine ⟨_, rfl, rfl, ?_, fun p hp => ?_, (hE.tr (Eqx.upd ⟨Or.inr (Or.inl rfl), rfl⟩)).tr (Eqx.upd ⟨Or.inr (Or.inr rfl), rfl⟩)⟩
        · simp only
          rw [updD_other _ _ _ (by omega), updD_other _ _ _ (by omega)]
          exact h1
        · simp only
          by_cases v : p = g + i
          · subst v
            have hx2 : poX po g (i + 1) (g + i) = po (g + i + 1) := by rw [poX, if_pos (by omega)]
            rw [hx2]
            refine ⟨?_, ?_⟩
            · rw [updD_at, if_neg (by omega), updD_at, if_pos ⟨rfl, rfl, rfl⟩]
            · rw [updD_at, if_pos ⟨rfl, rfl, rfl⟩]
          · have hx2 : poX po g (i + 1) p = poX po g i p := by
              simp only [poX]
              by_cases u : g ≤ p ∧ p < g + i
              · rw [if_pos u, if_pos (by omega)]
              · rw [if_neg u, if_neg (by omega)]
            rw [hx2, updD_at, if_neg (by omega), updD_at, if_neg (by omega), updD_at, if_neg (by omega), updD_at, if_neg (by omega)]
            exact h2 p hp
  obtain ⟨e, h1, h2, h3, h4⟩ := key
  refine ⟨updD e 1 b 1 (nI (N - 1)), ?_, ?_, ⟨by simp [updD_at], fun p hp => ?_⟩, h4.tr (Eqx.upd ⟨Or.inl rfl, rfl⟩)⟩
  · rw [f_X5_dropPool, h1, Option.bind_some]
    simp only [pu]
    rw [h2, hP.1, show nI N - (1 : Int32) = nI (N - 1) from pk_sub (b := 1) (by omega)]
  · rw [updD_at, if_neg (by omega), h2]
  · rw [updD_other _ _ _ (by omega), updD_other _ _ _ (by omega)]
    exact h3 p (by omega)
theorem p_rp65 {E : Dt} {s : Nat → Int32} {N g : Nat} (hN : N ≤ 4) (hg : g < N) (h5 : s 5 = nI (N - 1)) : lp l_X10_removePool_65 FU (nI (6 + 2 * g), rowD E 33 0 s) = some (rowD E 33 0 (rpM s (6 + 2 * g) (2 * (N - 1 - g)))) := by
  apply lp_to (fun i => (nI (6 + 2 * g + i), rowD E 33 0 (rpM s (6 + 2 * g) i))) (2 * (N - 1 - g))
  · have e0 : rpM s (6 + 2 * g) 0 = s := by
      funext j
      simp only [rpM]
      rw [if_neg (by omega)]
    simp only [Nat.add_zero, e0]
  · exact FU_big (by omega)
  · intro i hi
    have e5 : rpM s (6 + 2 * g) i 5 = nI (N - 1) := by
      simp only [rpM]
      rw [if_neg (by omega)]
      exact h5
    simp only [l_X10_removePool_65]
    rw [rd_at (i := (5 : Int32)) (j := 5) rfl (by decide) (by decide), rowD_at, e5, show (6 : Int32) = nI 6 from rfl, show (2 : Int32) = nI 2 from rfl, pk_mul, nI_add, nI_add, if_neg (nI_ge (by omega) (by omega)), rd_at rfl (show 6 + 2 * g + i + 2 < 170 by omega) (by decide), wr_at rfl (show 6 + 2 * g + i < 170 by omega) (by decide), rowD_at, rowD_upd, rpM_s, nI_1]
    rfl
  · have e5 : rpM s (6 + 2 * g) (2 * (N - 1 - g)) 5 = nI (N - 1) := by
      simp only [rpM]
      rw [if_neg (by omega)]
      exact h5
    simp only [l_X10_removePool_65]
    rw [rd_at (i := (5 : Int32)) (j := 5) rfl (by decide) (by decide), rowD_at, e5, show (6 : Int32) = nI 6 from rfl, show (2 : Int32) = nI 2 from rfl, pk_mul, nI_add, if_pos (nI_le (by omega) (by omega))]
theorem ok_removePool : ∀ (x1 : Int32) (D : Dt), Inv D → ∃ (r : Int32) (D1 D2 : Dt), f_X9_removePool x1 D = some (r, D1) ∧ f_X10_removePool x1 D1 = some (r, D2) ∧ Inv D2 := by
  intro x D h
  obtain ⟨l, D1, a1, a2, a3, a4, ⟨N, po, us, ls, hV, hP, hG, hL, rfl⟩, a6, _⟩ := q_take h
  have hN := hG.1
  have e5 : D 1 0 1 = nI N := h.2.1.2.1.2.1.trans hP.1
  have hI1 : Inv D1 := Inv_q h a4 EqR.rf
  by_cases c : 0 ≤ x ∧ x < nI N
  · obtain ⟨p, hp, rfl⟩ := ixN N (by omega) c.1 c.2
    obtain ⟨p1, p2, p3, p4⟩ := hG.2.1 p hp
    have hzp := zz_pos (po p).2
    have hzl := zz_le (po p).2
    have i1 : (6 : Int32) + (2 : Int32) * nI p = nI (6 + 2 * p) := by
      rw [show (6 : Int32) = nI 6 from rfl, show (2 : Int32) = nI 2 from rfl, pk_mul, nI_add]
    have q1 : D 2 0 p = nI (po p).1 := ((h.2.1.2.1.pov hP hN).2 p hp).1
    have q2 : D 3 0 p = nI (po p).2 := ((h.2.1.2.1.pov hP hN).2 p hp).2
    have hf := filter_cat hG hL hp
    obtain ⟨z1, z2, z3⟩ := FSeg_sz _ _ _ (show (po p).1 ≤ (po p).1 + zz (po p).2 by omega) (hL p hp)
    have hsz : sz (ls p) = zz (po p).2 ↔ AllF (Fr us) (po p).1 ((po p).1 + zz (po p).2) := by
      constructor
      · intro w y y1 y2 hy
        have := z3 y y1 y2 (fun q => q hy)
        omega
      · intro w
        have := z2 w
        omega
    have hso := sov_0 (us := us) (show (po p).1 < (po p).1 + zz (po p).2 by omega)
    have hsl := sov_le us (po p).1 ((po p).1 + zz (po p).2) 24
    have as1 : ∀ E, E 33 0 = D 33 0 → f_X10_assignedIn (nI (po p).1) (nI (po p).2) E = some (nI (sov us (po p).1 ((po p).1 + zz (po p).2) 24)) := fun E e => p_assignedIn (by rw [e]; exact hV) (by omega) (by omega)
    by_cases c2 : sz (ls p) = zz (po p).2
    · obtain ⟨Dk, k1, k2, k3, k4, k5, k6⟩ := cls_keep hI1
      obtain ⟨D3, d1, d2, d3, d4⟩ := p_dropPool (k5.2.1.pov (by rw [a6]; exact hP) hN) hN hp
      have hE : Eqx ZC Dk D3 := d4.mono (fun k b w => by
        have := w.1
        have := w.2
        simp only [ZC]
        omega)
      have e33 : D3 33 0 = D 33 0 := (hE 33 0 (by simp [ZC])).trans (k6.trans a6)
      obtain ⟨Dn, b1, b2, b3, b4⟩ := ref_note k2 hE EqR.rf (by rw [e33, a6])
      rw [a6] at b4
      refine ⟨nI (N - 1), D3, rowD Dn 33 0 (rpM (upd (D 33 0) 5 (nI (N - 1))) (6 + 2 * p) (2 * (N - 1 - p))), ?_, ?_, fin_m hI1 k3 k4 hE EqR.rf b3 b2 E33.row ?_ ?_⟩
      · rw [f_X9_removePool, isPool_eq hN e5, Option.bind_some, if_b, if_pos c, rd_at rfl (show p < 4 by omega) (by decide), rd_at rfl (show p < 4 by omega) (by decide), q1, q2, a1, Option.bind_some, p_addressesIn a2 a3 (by omega) (by omega), Option.bind_some, hf, sizeOf_eq (by omega), Option.bind_some, if_eq (by omega) (by omega), if_pos c2, k1, Option.bind_some, d1, Option.bind_some, d3.1]
      · have g5 : upd (D 33 0) 5 (nI (N - 1)) 5 = nI (N - 1) := pk_us
        rw [f_X10_removePool, X10_isPool hN (by rw [e33]; exact hP.1), Option.bind_some, if_b, if_pos c, i1, nI_1, rd_at rfl (show 6 + 2 * p < 170 by omega) (by decide), rd_at rfl (show 6 + 2 * p + 1 < 170 by omega) (by decide), e33, (hP.2 p hp).1, (hP.2 p hp).2, as1 D3 e33, Option.bind_some, if_le0 (by omega), if_pos (hso.mpr (hsz.mp c2)), b1, Option.bind_some, rd_at (i := (5 : Int32)) (j := 5) rfl (by decide) (by decide), b4, hP.1, wr_at (i := (5 : Int32)) (j := 5) rfl (by decide) (by decide), show nI N - (1 : Int32) = nI (N - 1) from pk_sub (b := 1) (by omega), updD_row Dn 33 0, b4, p_rp65 hN hp g5, Option.bind_some, rd_at (i := (5 : Int32)) (j := 5) rfl (by decide) (by decide), rowD_at]
        have g6 : rpM (upd (D 33 0) 5 (nI (N - 1))) (6 + 2 * p) (2 * (N - 1 - p)) 5 = nI (N - 1) := by
          simp only [rpM]
          rw [if_neg (by omega)]
          exact g5
        rw [g6]
      · rw [rowD_at]
        have ne : ∀ j, (j < 5 ∨ 14 ≤ j) → rpM (upd (D 33 0) 5 (nI (N - 1))) (6 + 2 * p) (2 * (N - 1 - p)) j = D 33 0 j := by
          intro j hj
          simp only [rpM]
          rw [if_neg (by omega), pk_un (by omega)]
        obtain ⟨t1, t2, t3⟩ := h.1
        refine ⟨t1.fx (ne 0 (by omega)) (ne 1 (by omega)) (ne 2 (by omega)) (ne 3 (by omega)) (fun j j1 j2 => ne j (by omega)), ?_, HoS_ext t3 (fun j j1 j2 => ne j (by omega))⟩
        obtain ⟨g1, g2, g3, g4', g5⟩ := hG
        have hall := hsz.mp c2
        refine ⟨N - 1, poX po p (N - 1 - p), us, RV_ext hV (fun j j1 j2 => ne j (by omega)), ⟨?_, fun r hr => ?_⟩, by omega, fun r hr => ?_, fun r r' hr hr' hne => ?_, fun k g l hk hu => ?_, g5⟩
        · simp only [rpM]
          rw [if_neg (by omega), pk_us]
        · simp only [rpM, poX]
          by_cases w : p ≤ r
          · rw [if_pos (by omega), if_pos (by omega), if_pos (by omega), pk_un (by omega), pk_un (by omega)]
            exact hP.2 (r + 1) (by omega)
          · rw [if_neg (by omega), if_neg (by omega), if_neg (by omega), pk_un (by omega), pk_un (by omega)]
            exact hP.2 r (by omega)
        · simp only [poX]
          by_cases w : p ≤ r
          · rw [if_pos (by omega)]; exact g2 (r + 1) (by omega)
          · rw [if_neg (by omega)]; exact g2 r (by omega)
        · simp only [poX]
          by_cases w : p ≤ r
          · rw [if_pos (by omega)]
            by_cases w' : p ≤ r'
            · rw [if_pos (by omega)]; exact g3 _ _ (by omega) (by omega) (by omega)
            · rw [if_neg (by omega)]; exact g3 _ _ (by omega) (by omega) (by omega)
          · rw [if_neg (by omega)]
            by_cases w' : p ≤ r'
            · rw [if_pos (by omega)]; exact g3 _ _ (by omega) (by omega) (by omega)
            · rw [if_neg (by omega)]; exact g3 _ _ (by omega) (by omega) (by omega)
        · obtain ⟨m1, m2, m3, r, n1, n2, n3⟩ := g4' k g l hk hu
          have hzg := zz_pos l
          refine ⟨m1, m2, m3, ?_⟩
          have hrp : r ≠ p := by
            intro w
            subst w
            exact hall g n2 (by omega) ⟨k, g, l, hk, hu, Nat.le_refl _, by omega⟩
          by_cases w : r < p
          · refine ⟨r, by omega, ?_⟩
            rw [poX, if_neg (by omega)]
            exact ⟨n2, n3⟩
          · refine ⟨r - 1, by omega, ?_⟩
            rw [poX, if_pos (by omega), show r - 1 + 1 = r by omega]
            exact ⟨n2, n3⟩
      · rw [rowD_at]
        rw [a6] at k5
        obtain ⟨r1, r2, r3⟩ := k5
        have ne : ∀ j, (j < 5 ∨ 14 ≤ j) → rpM (upd (D 33 0) 5 (nI (N - 1))) (6 + 2 * p) (2 * (N - 1 - p)) j = D 33 0 j := by
          intro j hj
          simp only [rpM]
          rw [if_neg (by omega), pk_un (by omega)]
        have fD : ∀ k, ¬ (k = 1 ∨ k = 2 ∨ k = 3) → D3 k 0 = Dk k 0 := fun k hk => d4 k 0 (fun w => hk w.1)
        refine ⟨r1.fx (fD 0 (by omega)) (ne 0 (by omega)) (ne 1 (by omega)) (ne 2 (by omega)) (ne 4 (by omega)), ⟨?_, ?_, fun r hr hr2 => ?_, fun n hn => ?_⟩, r3.fx (fun k k1 k2 => fD k (by omega)) (fun j j1 j2 => ne j (by omega))⟩
        · rw [d2, ne 3 (by omega)]
          exact r2.1
        · rw [d3.1]
          simp only [rpM]
          rw [if_neg (by omega), pk_us]
        · have hr3 : r < N - 1 := by
            simp only [rpM] at hr2
            rw [if_neg (by omega), pk_us] at hr2
            exact (nI_ltI (by omega) (by omega)).mp hr2
          rw [(d3.2 r hr3).1, (d3.2 r hr3).2]
          simp only [rpM, poX]
          by_cases w : p ≤ r
          · rw [if_pos (by omega), if_pos (by omega), if_pos (by omega), pk_un (by omega), pk_un (by omega)]
            have := hP.2 (r + 1) (by omega)
            exact ⟨this.1.symm, this.2.symm⟩
          · rw [if_neg (by omega), if_neg (by omega), if_neg (by omega), pk_un (by omega), pk_un (by omega)]
            have := hP.2 r (by omega)
            exact ⟨this.1.symm, this.2.symm⟩
        · rw [fD 4 (by omega), fD 5 (by omega), fD 6 (by omega), fD 7 (by omega), fD 8 (by omega), ne (14 + 5 * n) (by omega), ne (14 + 5 * n + 1) (by omega), ne (14 + 5 * n + 2) (by omega), ne (14 + 5 * n + 3) (by omega), ne (14 + 5 * n + 4) (by omega)]
          exact r2.2.2.2 n hn
    · refine ⟨-2, D1, D1, ?_, ?_, hI1⟩
      · rw [f_X9_removePool, isPool_eq hN e5, Option.bind_some, if_b, if_pos c, rd_at rfl (show p < 4 by omega) (by decide), rd_at rfl (show p < 4 by omega) (by decide), q1, q2, a1, Option.bind_some, p_addressesIn a2 a3 (by omega) (by omega), Option.bind_some, hf, sizeOf_eq (by omega), Option.bind_some, if_eq (by omega) (by omega), if_neg c2]
      · rw [f_X10_removePool, X10_isPool hN (by rw [a6]; exact hP.1), Option.bind_some, if_b, if_pos c, i1, nI_1, rd_at rfl (show 6 + 2 * p < 170 by omega) (by decide), rd_at rfl (show 6 + 2 * p + 1 < 170 by omega) (by decide), a6, (hP.2 p hp).1, (hP.2 p hp).2, as1 D1 a6, Option.bind_some, if_le0 (by omega), if_neg (fun w => c2 (hsz.mpr (hso.mp w)))]
  · refine ⟨-1, D, D, ?_, ?_, h⟩
    · rw [f_X9_removePool, isPool_eq hN e5, Option.bind_some, if_b, if_neg c]
    · rw [f_X10_removePool, X10_isPool hN hP.1, Option.bind_some, if_b, if_neg c]
