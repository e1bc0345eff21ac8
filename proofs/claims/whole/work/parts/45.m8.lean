/-! a moved network is good; renumber -/
theorem Good_mvB {s : Nat → Int32} {n g m : Nat} (h : Good s) (hn : n < 12) (h0 : s (14 + 5 * n) ≠ -1) (h2 : s (14 + 5 * n + 2) = -1) (h5 : 5 ≤ m) (h16 : m ≤ 16) (hp : Plac s g m) : Good (mvB s n (nI g) (nI m)) ∧ mvB s n (nI g) (nI m) (14 + 5 * n + 2) ≠ -1 := by
  have hlt := hp.lt
  obtain ⟨g1, g2, g3⟩ := h
  have e0 : mvB s n (nI g) (nI m) (14 + 5 * n) = nI g := by rw [mvB, pk_un (by omega), pk_us]
  have e1 : mvB s n (nI g) (nI m) (14 + 5 * n + 1) = nI m := by rw [mvB, pk_us]
  have e2 : mvB s n (nI g) (nI m) (14 + 5 * n + 2) = s (14 + 5 * n) := by rw [mvB, pk_un (by omega), pk_un (by omega), pk_un (by omega), pk_un (by omega), pk_us]
  have e3 : mvB s n (nI g) (nI m) (14 + 5 * n + 3) = s (14 + 5 * n + 1) := by rw [mvB, pk_un (by omega), pk_un (by omega), pk_un (by omega), pk_us]
  have e4 : mvB s n (nI g) (nI m) (14 + 5 * n + 4) = s 0 + s 2 := by rw [mvB, pk_un (by omega), pk_un (by omega), pk_us]
  refine ⟨⟨⟨?_, fun k hk => ?_⟩, ?_, ?_⟩, by rw [e2]; exact h0⟩
  · rw [mvB_ne (by omega), mvB_ne (by omega), mvB_ne (by omega), mvB_ne (by omega)]
    exact g1.1
  · by_cases w : k = n
    · subst w
      intro _
      obtain ⟨T, L, O, P, t1, t2, t3, t4, t5, t6, t7, t8⟩ := g1.1
      exact ⟨T + O, by omega, by rw [e4, t1, t5, nI_add]⟩
    · rw [mvB_ne (by omega), mvB_ne (by omega)]
      exact g1.2 k hk
  · obtain ⟨N, po, us, p, hV, hP, hG, p1, p2, p3, p4, hF⟩ := hp
    have v1 := hV (2 * n) (by omega)
    rw [bix_e] at v1
    cases hu : us (2 * n) with
    | none =>
      rw [hu] at v1
      exact absurd v1 h0
    | some q =>
      obtain ⟨g0, l0⟩ := q
      rw [hu] at v1
      obtain ⟨o1, o2, o3, o4⟩ := v1
      simp only at o1 o2 o3 o4
      obtain ⟨b1, b2, b3, p0, b4, b5, b6⟩ := hG.2.2.2.1 (2 * n) g0 l0 (by omega) hu
      have hA := hG.2.2.2.2
      have GB := Geo_set (Geo_none hG (K := 2 * n)) (K := 2 * n + 1) b1 b2 b3 b4 b5 b6 (fun k g' l' hk hne hk2 => by
        by_cases w : k = 2 * n
        · rw [w, usX_eq] at hk2
          cases hk2
        · rw [usX_ne w] at hk2
          exact hA (2 * n) k g0 l0 g' l' (by omega) hk (fun q => w q.symm) hu hk2)
      have GC := Geo_set GB (K := 2 * n) h5 h16 p2 p1 p3 p4 (fun k g' l' hk hne hk2 => by
        by_cases w : k = 2 * n + 1
        · rw [w, usX_eq] at hk2
          cases hk2
          exact free_apart hF (2 * n) g0 l0 (by omega) hu
        · rw [usX_ne w, usX_ne hne] at hk2
          exact free_apart hF k g' l' hk hk2)
      refine ⟨N, po, _, fun k hk => ?_, PoR_ext hP hG.1 (fun j j1 j2 => mvB_ne (by omega)), GC⟩
      by_cases w : k = 2 * n
      · subst w
        rw [usX_eq, bix_e, e0, e1]
        exact ⟨rfl, rfl, hlt, h16⟩
      · rw [usX_ne w]
        by_cases w2 : k = 2 * n + 1
        · subst w2
          rw [usX_eq, bix_o, e2, show 14 + 5 * n + 2 + 1 = 14 + 5 * n + 3 by omega, e3]
          exact ⟨o1, o2, o3, o4⟩
        · have hb : bix k + 1 < 14 + 5 * n ∨ 14 + 5 * n + 5 ≤ bix k := by
            simp only [bix]
            omega
          rw [usX_ne w2, usX_ne w, mvB_ne (by omega), mvB_ne (by omega)]
          exact hV k hk
  · refine HoS_blk g3 (fun k hk w => ?_) (fun k hk w => ?_) (fun j j1 j2 => mvB_ne (by omega))
    · by_cases e : k = n
      · rw [e, e0]; exact nI_nm1 (by omega)
      · rw [mvB_ne (by omega)]; exact w
    · by_cases e : k = n
      · rw [e, e2]; exact h0
      · rw [mvB_ne (by omega)]; exact w
theorem HoS_lo {s : Nat → Int32} {n : Nat} (h : HoS s) (hn : n < 12) (h2 : s (14 + 5 * n + 2) ≠ -1) : ∀ k, k ≤ 16 → HoS (hL loM (nI n) s k) := by
  intro k
  induction k with
  | zero => intro _; exact h
  | succ k ih =>
    intro hk
    have hp := ih (by omega)
    rw [hL_s lo_Loc]
    by_cases c : s (74 + 6 * k) = nI n
    · rw [if_pos c]
      have lo0 : ∀ j, j < 74 → hL loM (nI n) s k j = s j := fun j hj => hL_out lo_Loc k j (by omega)
      have c' : hL loM (nI n) s k (74 + 6 * k) = nI n := by rw [hL_out lo_Loc k _ (by omega)]; exact c
      refine HoS_upd (k := k) hp (fun j j1 j2 => lo_Loc _ _ _ (by omega)) (fun i q i1 i2 i3 => lo_Loc _ _ _ (by omega)) ?_
      obtain ⟨k1, k2, k3⟩ := hp k (by omega)
      generalize hL loM (nI n) s k = u at *
      have f0 : loM u k (74 + 6 * k) = u (74 + 6 * k) := by rw [loM, pk_un (by omega), pk_un (by omega), pk_un (by omega)]
      have f1 : loM u k (74 + 6 * k + 1) = u (74 + 6 * k + 1) := by rw [loM, pk_un (by omega), pk_un (by omega), pk_un (by omega)]
      have f2 : loM u k (74 + 6 * k + 2) = -1 := by rw [loM, pk_us]
      have f4 : loM u k (74 + 6 * k + 4) = u (74 + 6 * k + 2) := by rw [loM, pk_un (by omega), pk_un (by omega), pk_us]
      have f5 : loM u k (74 + 6 * k + 5) = u (74 + 6 * k + 3) := by rw [loM, pk_un (by omega), pk_us]
      have fb : ∀ j, j < 74 → loM u k j = u j := fun j hj => lo_Loc _ _ _ (by omega)
      refine ⟨?_, Or.inl f2, ?_⟩
      · rw [f0, f1]
        rcases k1 with v | ⟨m, v1, v2, v3, v4⟩
        · exact Or.inl v
        · exact Or.inr ⟨m, v1, v2, by rw [fb _ (by omega)]; exact v3, v4⟩
      · rw [f0, f4, f5]
        rcases k2 with v | v
        · exact Or.inl v
        · exact Or.inr ⟨v, n, hn, c', by rw [fb _ (by omega), lo0 _ (by omega)]; exact h2⟩
    · rw [if_neg c]
      exact hp
theorem Good_mvL {s : Nat → Int32} {n g m : Nat} (h : Good s) (hn : n < 12) (h0 : s (14 + 5 * n) ≠ -1) (h2 : s (14 + 5 * n + 2) = -1) (h5 : 5 ≤ m) (h16 : m ≤ 16) (hp : Plac s g m) : Good (hL loM (nI n) (mvB s n (nI g) (nI m)) 16) := by
  obtain ⟨a1, a2⟩ := Good_mvB h hn h0 h2 h5 h16 hp
  have lo0 : ∀ j, j < 74 → hL loM (nI n) (mvB s n (nI g) (nI m)) 16 j = mvB s n (nI g) (nI m) j := fun j hj => hL_out lo_Loc 16 j (by omega)
  exact ⟨TimS_ext a1.1 lo0, GeoS_ext a1.2.1 (fun j _ hj => lo0 j hj), HoS_lo a1.2.2 hn a2 16 (Nat.le_refl _)⟩
theorem Good_mv {s : Nat → Int32} {n g m : Nat} (h : Good s) (hn : n < 12) (h0 : s (14 + 5 * n) ≠ -1) (h2 : s (14 + 5 * n + 2) = -1) (h5 : 5 ≤ m) (h16 : m ≤ 16) (hp : Plac s g m) : Good (mvM s n (nI g) (nI m)) := by
  have hl := Good_mvL h hn h0 h2 h5 h16 hp
  rw [mvM]
  by_cases c : s 2 = 0
  · rw [if_pos c]
    exact Good_gu hl hn
  · rw [if_neg c]
    exact hl
theorem isMovable_s {D : Dt} {b n : Nat} {s : Nat → Int32} (hR : RelP D b s) (hn : n < 12) : f_X5_isMovable b (nI n) D = some (if s (14 + 5 * n) ≠ -1 ∧ s (14 + 5 * n + 2) = -1 then 1 else 0) := by
  rw [f_X5_isMovable, hasBlock_s hR hn, Option.bind_some, if_b', hasOld_s hR hn, Option.bind_some, if_b']
  by_cases c : s (14 + 5 * n) = -1
  · rw [if_pos c, if_neg (fun q => q.1 c)]
  · rw [if_neg c]
    by_cases c2 : s (14 + 5 * n + 2) = -1
    · rw [if_pos c2, if_pos ⟨c, c2⟩]
    · rw [if_neg c2, if_neg (fun q => c2 q.2)]
theorem St_ZC {b : Nat} (hb : b = 0 ∨ b = 1) : ∀ k b', St b k b' → ZC k b' := fun k b' w => by
  have := w.1
  have := w.2
  simp only [ZC]
  omega
theorem ok_renumber : ∀ (x1 x2 : Int32) (D : Dt), Inv D → ∃ (r : Int32) (D1 D2 : Dt), f_X9_renumber x1 x2 D = some (r, D1) ∧ f_X10_renumber x1 x2 D1 = some (r, D2) ∧ Inv D2 := by
  intro x y D h
  simp only [f_X9_renumber, f_X10_renumber, isIn_eq, in_eq, isNetwork_eq, X10_isNet, Option.bind_some, if_b]
  by_cases c : (0 : Int32) ≤ x ∧ x < 12
  · obtain ⟨n, hn, rfl⟩ := ixN 12 (by decide) c.1 c.2
    simp only [if_pos c]
    by_cases c2 : (5 : Int32) ≤ y ∧ y ≤ 16
    · obtain ⟨m, rfl, h5, h16⟩ := arg5 c2
      simp only [if_pos c2]
      by_cases c3 : D 33 0 (14 + 5 * n) ≠ -1 ∧ D 33 0 (14 + 5 * n + 2) = -1
      · obtain ⟨P, hP3, hP4⟩ := h.1.pol
        obtain ⟨r, D1, a1, a2, a3, a4⟩ := two_place (b := 0) h.2.1.2.1 h.1.2.1 hP3 hP4 h16
        have hQ := a2.mono SV_ZQ
        have hI1 : Inv D1 := Inv_q h hQ EqR.rf
        have e33 : D1 33 0 = D 33 0 := hQ 33 0 (by simp [ZQ])
        have hlt : ∀ g, r = some g → g < 2 ^ 31 := fun g hg => by have := (a4 g hg).lt; omega
        cases r with
        | none =>
          obtain ⟨D2, b1, b2⟩ := a3 D1 e33
          refine ⟨-3, D1, D2, ?_, ?_, Inv_q h hQ (b2.mono J89_JR)⟩
          · rw [isMovable_s h.2.1.2.1 hn, Option.bind_some, if_b, if_pos c3, a1, Option.bind_some, oI_m1 hlt, if_pos rfl]
          · rw [X10_hasBlock e33 h.1.2.1 hn, Option.bind_some, if_b', if_neg c3.1, X10_hasOld e33 h.1.2.1 hn, Option.bind_some, if_b', if_pos c3.2, b1, Option.bind_some, oI_0 hlt, if_pos rfl]
        | some g =>
          have hpl := a4 g rfl
          obtain ⟨Dk, k1, k2, k3, k4, k5, k6⟩ := cls_keep hI1
          rw [e33] at k2 k5 k6
          obtain ⟨D3, d1, d2, d3⟩ := p_moveNetwork (x := nI g) (y := nI m) k5 hn c3.1
          have hE : Eqx ZC Dk D3 := d3.mono (St_ZC (Or.inl rfl))
          have e33' : D3 33 0 = D 33 0 := (hE 33 0 (by simp [ZC])).trans k6
          obtain ⟨D2, b1, b2⟩ := a3 _ e33'
          obtain ⟨Dn, n1, n2, n3, n4⟩ := ref_note k2 hE (b2.mono J89_JR) e33'
          have hmv := p_moves (E := Dn) (n := n) (x := nI g) (y := nI m) (s := D 33 0) hn (fun i hi => (Good_mvL h.1 hn c3.1 c3.2 h5 h16 hpl).2.2.nn4 hi)
          rw [← n4, rowD_self, n4] at hmv
          refine ⟨nI g, D3, rowD Dn 33 0 (mvM (D 33 0) n (nI g) (nI m)), ?_, ?_, fin_m hI1 k3 k4 hE (b2.mono J89_JR) n3 n2 E33.row ?_ ?_⟩
          · rw [isMovable_s h.2.1.2.1 hn, Option.bind_some, if_b, if_pos c3, a1, Option.bind_some, oI_m1 hlt, if_neg (by simp), k1, Option.bind_some, oI_s, d1, Option.bind_some]
          · rw [X10_hasBlock e33' h.1.2.1 hn, Option.bind_some, if_b', if_neg c3.1, X10_hasOld e33' h.1.2.1 hn, Option.bind_some, if_b', if_pos c3.2, b1, Option.bind_some, oI_0 hlt, if_neg (by simp), n1, Option.bind_some, oI_s, hmv, Option.bind_some]
          · rw [rowD_at]
            exact Good_mv h.1 hn c3.1 c3.2 h5 h16 hpl
          · rw [rowD_at]
            exact d2
      · refine ⟨-2, D, D, ?_, ?_, h⟩
        · rw [isMovable_s h.2.1.2.1 hn, Option.bind_some, if_b, if_neg c3]
        · rw [X10_hasBlock rfl h.1.2.1 hn, Option.bind_some, if_b', X10_hasOld rfl h.1.2.1 hn, Option.bind_some, if_b']
          by_cases w : D 33 0 (14 + 5 * n) = -1
          · rw [if_pos w]
          · rw [if_neg w, if_neg (fun q => c3 ⟨w, q⟩)]
    · simp only [if_neg c2]
      exact ⟨-1, D, D, rfl, rfl, h⟩
  · simp only [if_neg c]
    exact ⟨-1, D, D, rfl, rfl, h⟩
