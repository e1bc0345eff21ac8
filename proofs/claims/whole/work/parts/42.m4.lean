/-! placing a block; assign -/
def usX (us : Nat → Option (Nat × Nat)) (K : Nat) (o : Option (Nat × Nat)) : Nat → Option (Nat × Nat) := fun k => if k = K then o else us k
theorem usX_eq {us : Nat → Option (Nat × Nat)} {K : Nat} {o : Option (Nat × Nat)} : usX us K o K = o := if_pos rfl
theorem usX_ne {us : Nat → Option (Nat × Nat)} {K k : Nat} {o : Option (Nat × Nat)} (h : k ≠ K) : usX us K o k = us k := if_neg h
theorem Geo_set {N : Nat} {po : Nat → Nat × Nat} {us : Nat → Option (Nat × Nat)} (hG : Geo N po us) {K g m p : Nat} (h5 : 5 ≤ m) (h16 : m ≤ 16) (ha : g % zz m = 0) (hp : p < N) (h1 : (po p).1 ≤ g) (h2 : g + zz m ≤ (po p).1 + zz (po p).2) (hap : ∀ k g' l', k < 24 → k ≠ K → us k = some (g', l') → g + zz m ≤ g' ∨ g' + zz l' ≤ g) : Geo N po (usX us K (some (g, m))) := by
  obtain ⟨g1, g2, g3, g4', g5⟩ := hG
  refine ⟨g1, g2, g3, fun k g' l' hk hu => ?_, fun j k gj lj gk lk hj hk hjk hu hv => ?_⟩
  · by_cases w : k = K
    · subst w
      rw [usX_eq] at hu
      cases hu
      exact ⟨h5, h16, ha, p, hp, h1, h2⟩
    · rw [usX_ne w] at hu
      exact g4' k g' l' hk hu
  · by_cases w : j = K
    · subst w
      rw [usX_eq] at hu
      cases hu
      rw [usX_ne (fun q => hjk q.symm)] at hv
      exact hap k gk lk hk (fun q => hjk q.symm) hv
    · rw [usX_ne w] at hu
      by_cases w2 : k = K
      · subst w2
        rw [usX_eq] at hv
        cases hv
        have := hap j gj lj hj hjk hu
        omega
      · rw [usX_ne w2] at hv
        exact g5 j k gj lj gk lk hj hk hjk hu hv
theorem Geo_none {N : Nat} {po : Nat → Nat × Nat} {us : Nat → Option (Nat × Nat)} (hG : Geo N po us) {K : Nat} : Geo N po (usX us K none) := by
  obtain ⟨g1, g2, g3, g4', g5⟩ := hG
  refine ⟨g1, g2, g3, fun k g' l' hk hu => ?_, fun j k gj lj gk lk hj hk hjk hu hv => ?_⟩
  · by_cases w : k = K
    · subst w
      rw [usX_eq] at hu
      cases hu
    · rw [usX_ne w] at hu
      exact g4' k g' l' hk hu
  · by_cases w : j = K
    · subst w
      rw [usX_eq] at hu
      cases hu
    · rw [usX_ne w] at hu
      by_cases w2 : k = K
      · subst w2
        rw [usX_eq] at hv
        cases hv
      · rw [usX_ne w2] at hv
        exact g5 j k gj lj gk lk hj hk hjk hu hv
theorem free_apart {us : Nat → Option (Nat × Nat)} {g m : Nat} (hF : AllF (Fr us) g (g + zz m)) : ∀ k g' l', k < 24 → us k = some (g', l') → g + zz m ≤ g' ∨ g' + zz l' ≤ g := by
  intro k g' l' hk hu
  have z1 := zz_pos m
  have z2 := zz_pos l'
  apply Classical.byContradiction
  intro w
  rcases Nat.lt_or_ge g g' with v | v
  · exact hF g' (by omega) (by omega) ⟨k, g', l', hk, hu, by omega, by omega⟩
  · exact hF g (by omega) (by omega) ⟨k, g', l', hk, hu, by omega, by omega⟩
/-- a place: a block that fits in -/
def Plac (s : Nat → Int32) (g m : Nat) : Prop := ∃ N po us p, RV s us ∧ PoR s N po ∧ Geo N po us ∧ p < N ∧ g % zz m = 0 ∧ (po p).1 ≤ g ∧ g + zz m ≤ (po p).1 + zz (po p).2 ∧ AllF (Fr us) g (g + zz m)
theorem Plac_plc {s : Nat → Int32} {l : List (Nat × Nat)} {P m g : Nat} (hF : Fits s l) (h : plc P m l = some g) : Plac s g m := by
  obtain ⟨N, po, us, ls, hV, hP, hG, hL, rfl⟩ := hF
  simp only [plc] at h
  cases hb : bst P m (cat ls N) (cat ls N).length with
  | none => rw [hb] at h; cases h
  | some j =>
    rw [hb, plO_s] at h
    injection h with h
    obtain ⟨j1, j2⟩ := bst_lt _ _ hb
    have hm := List.mem_of_getElem? (getD_some j1)
    obtain ⟨p, p1, p2⟩ := (cat_mem N).mp hm
    obtain ⟨q1, q2, q3⟩ := FSeg_mem _ _ _ (hL p p1) _ p2
    simp only at q1 q2 q3
    obtain ⟨m1, m2, m3, m4, m5⟩ := q3
    have hz := zz_mono j2
    have hd := zz_dvd j2
    have hx : xA (cat ls N) j % zz m = 0 := zz_mod j2 m3
    refine ⟨N, po, us, p, hV, hP, hG, p1, ?_, ?_, ?_, ?_⟩
    · rw [← h]
      by_cases w : P = 3
      · rw [if_pos w]
        exact Nat.mod_eq_zero_of_dvd (Nat.dvd_add (Nat.dvd_of_mod_eq_zero hx) (Nat.dvd_sub hd (Nat.dvd_refl _)))
      · rw [if_neg w, Nat.add_zero]; exact hx
    · rw [← h]; omega
    · rw [← h]
      by_cases w : P = 3
      · rw [if_pos w]; omega
      · rw [if_neg w]; omega
    · intro y y1 y2
      refine m4 y ?_ ?_
      · omega
      · by_cases w : P = 3
        · rw [if_pos w] at h; omega
        · rw [if_neg w] at h; omega
theorem two_place {D : Dt} {b b1 P m : Nat} {s : Nat → Int32} (hR : RelP D b1 s) (hG : GeoS s) (h3 : s 3 = nI P) (hP : P < 4) (hm : m ≤ 16) : ∃ r D1, f_X7_place b b1 (nI m) D = some (oI r, D1) ∧ Eqx (SV b) D D1 ∧ (∀ D', D' 33 0 = s → ∃ D2, f_X10_places (nI m) D' = some (oI r, D2) ∧ EqR J89 D' D2) ∧ ∀ g, r = some g → Plac s g m := by
  obtain ⟨l, D1, a1, a2, a3, a4, a5, a6⟩ := two_take (b := b) hR hG
  refine ⟨plc P m l, D1, ?_, a4, fun D' e => ?_, fun g hg => Plac_plc a5 hg⟩
  · have e1 : D1 1 b1 0 = nI P := by
      rw [a4 1 b1 (fun w => by have := w.1; omega), hR.1, h3]
    rw [f_X7_place, a1, Option.bind_some, e1, p_placeBy a2 a3 hP hm, Option.bind_some]
  · obtain ⟨D2, b1', b2, b3⟩ := a6 D' e
    exact ⟨D2, p_places b1' b2 a3 hP (by rw [b3.1 33 0 (by decide) (by decide) (by decide), e]; exact h3) hm, b3⟩
theorem Plac.lt {s : Nat → Int32} {g m : Nat} (h : Plac s g m) : g < 65536 := by
  obtain ⟨N, po, us, p, hV, hP, hG, h1, h2, h3, h4, h5⟩ := h
  have := (hG.2.1 p h1).2.2.2
  have := zz_pos m
  omega
/-- the current block of a network set -/
def pcM (s : Nat → Int32) (n : Nat) (x y : Int32) : Nat → Int32 := upd (upd s (14 + 5 * n) x) (14 + 5 * n + 1) y
theorem pcM_ne {s : Nat → Int32} {n j : Nat} {x y : Int32} (h0 : j ≠ 14 + 5 * n) (h1 : j ≠ 14 + 5 * n + 1) : pcM s n x y j = s j := by
  rw [pcM, pk_un h1, pk_un h0]
theorem pcM_0 {s : Nat → Int32} {n : Nat} {x y : Int32} : pcM s n x y (14 + 5 * n) = x := by
  rw [pcM, pk_un (by omega), pk_us]
theorem pcM_1 {s : Nat → Int32} {n : Nat} {x y : Int32} : pcM s n x y (14 + 5 * n + 1) = y := by
  rw [pcM, pk_us]
theorem RelP_pc {D : Dt} {b n : Nat} {x y : Int32} {s : Nat → Int32} (h : RelP D b s) (hn : n < 12) : RelP (updD (updD D 4 b n x) 5 b n y) b (pcM s n x y) := by
  unfold RelP at *
  simp only [updD, upd, pcM]
  refine ⟨by grind, by grind, by grind, fun m hm => ?_⟩
  obtain ⟨h1, h2, h3, h4⟩ := h.2.2.2 m hm
  grind (splits := 30)
theorem RelS_pc {D : Dt} {b n : Nat} {x y : Int32} {s : Nat → Int32} (h : RelS D b s) (hn : n < 12) : RelS (updD (updD D 4 b n x) 5 b n y) b (pcM s n x y) := by
  obtain ⟨r1, r2, r3⟩ := h
  exact ⟨r1.fx (by rw [updD_other _ _ _ (by omega), updD_other _ _ _ (by omega)]) (pcM_ne (by omega) (by omega)) (pcM_ne (by omega) (by omega)) (pcM_ne (by omega) (by omega)) (pcM_ne (by omega) (by omega)), RelP_pc r2 hn, r3.fx (fun k k1 k2 => by rw [updD_other _ _ _ (by omega), updD_other _ _ _ (by omega)]) (fun j j1 j2 => pcM_ne (by omega) (by omega))⟩
theorem bix_inj {j k : Nat} (hj : j < 24) (hk : k < 24) (h : j ≠ k) : bix j ≠ bix k ∧ bix j + 1 ≠ bix k ∧ bix j ≠ bix k + 1 ∧ bix j + 1 ≠ bix k + 1 := by
  simp only [bix]
  omega
theorem RV_set {s : Nat → Int32} {us : Nat → Option (Nat × Nat)} {K g m : Nat} (hV : RV s us) (hK : K < 24) (hg : g < 65536) (hm : m ≤ 16) : RV (upd (upd s (bix K) (nI g)) (bix K + 1) (nI m)) (usX us K (some (g, m))) := by
  intro k hk
  by_cases w : k = K
  · subst w
    rw [usX_eq, pk_un (by omega), pk_us, pk_us]
    exact ⟨rfl, rfl, hg, hm⟩
  · obtain ⟨w1, w2, w3, w4⟩ := bix_inj hk hK w
    rw [usX_ne w, pk_un w3, pk_un w1, pk_un w4, pk_un w2]
    exact hV k hk
theorem GeoS_pc {s : Nat → Int32} {n g m : Nat} (hn : n < 12) (h5 : 5 ≤ m) (h16 : m ≤ 16) (h : Plac s g m) : GeoS (pcM s n (nI g) (nI m)) := by
  have hlt := h.lt
  obtain ⟨N, po, us, p, hV, hP, hG, h1, h2, h3, h4, hF⟩ := h
  refine ⟨N, po, usX us (2 * n) (some (g, m)), ?_, PoR_ext hP hG.1 (fun j j1 j2 => pcM_ne (by omega) (by omega)), Geo_set hG h5 h16 h2 h1 h3 h4 (fun k g' l' hk _ hu => free_apart hF k g' l' hk hu)⟩
  have := RV_set hV (show 2 * n < 24 by omega) hlt h16
  rw [bix_e] at this
  exact this
theorem HoS_blk {s s' : Nat → Int32} (h : HoS s) (hc : ∀ n, n < 12 → s (14 + 5 * n) ≠ -1 → s' (14 + 5 * n) ≠ -1) (ho : ∀ n, n < 12 → s (14 + 5 * n + 2) ≠ -1 → s' (14 + 5 * n + 2) ≠ -1) (e : ∀ j, 74 ≤ j → j < 170 → s' j = s j) : HoS s' := by
  intro i hi
  obtain ⟨h1, h2, h3⟩ := h i hi
  rw [e (74 + 6 * i) (by omega) (by omega), e (74 + 6 * i + 1) (by omega) (by omega), e (74 + 6 * i + 2) (by omega) (by omega), e (74 + 6 * i + 3) (by omega) (by omega), e (74 + 6 * i + 4) (by omega) (by omega), e (74 + 6 * i + 5) (by omega) (by omega)]
  refine ⟨?_, h2, ?_⟩
  · rcases h1 with w | ⟨n, w1, w2, w3, w4⟩
    · exact Or.inl w
    · exact Or.inr ⟨n, w1, w2, hc n w1 w3, w4⟩
  · rcases h3 with w | ⟨w0, n, w1, w2, w3⟩
    · exact Or.inl w
    · exact Or.inr ⟨w0, n, w1, w2, ho n w1 w3⟩
theorem HoS_pc {s : Nat → Int32} {n g : Nat} {y : Int32} (h : HoS s) (hn : n < 12) (hg : g < 65536) : HoS (pcM s n (nI g) y) := by
  refine HoS_blk h (fun m hm w => ?_) (fun m hm w => ?_) (fun j j1 j2 => pcM_ne (by omega) (by omega))
  · by_cases e : m = n
    · rw [e, pcM_0]; exact nI_nm1 (by omega)
    · rw [pcM_ne (by omega) (by omega)]; exact w
  · rw [pcM_ne (by omega) (by omega)]; exact w
theorem TimS_pc {s : Nat → Int32} {n : Nat} {x y : Int32} (h : TimS s) (hn : n < 12) : TimS (pcM s n x y) := by
  refine ⟨?_, fun m hm => ?_⟩
  · rw [pcM_ne (by omega) (by omega), pcM_ne (by omega) (by omega), pcM_ne (by omega) (by omega), pcM_ne (by omega) (by omega)]
    exact h.1
  · rw [pcM_ne (by omega) (by omega), pcM_ne (by omega) (by omega)]
    exact h.2 m hm
theorem Good.pol {s : Nat → Int32} (h : Good s) : ∃ P, s 3 = nI P ∧ P < 4 := by
  obtain ⟨T, L, O, P, t1, t2, t3, t4, t5, t6, t7, t8⟩ := h.1.1
  exact ⟨P, t7, t8⟩
theorem p_putCurrent {D : Dt} {b n : Nat} {x y : Int32} (hn : n < 12) : f_X5_putCurrent b (nI n) x y D = some (updD (updD D 4 b n x) 5 b n y) := by
  rw [f_X5_putCurrent, wr_at rfl hn (by decide), wr_at rfl hn (by decide)]
theorem oI_m1 {o : Option Nat} {β : Type} {x y : β} (h : ∀ g, o = some g → g < 2 ^ 31) : (if oI o = -1 then x else y) = if o = none then x else y := by
  cases o with
  | none => rfl
  | some g => rw [oI_s, if_neg (nI_nm1 (h g rfl)), if_neg (by simp)]
theorem oI_0 {o : Option Nat} {β : Type} {x y : β} (h : ∀ g, o = some g → g < 2 ^ 31) : (if 0 ≤ oI o then x else y) = if o = none then y else x := by
  cases o with
  | none => rfl
  | some g => rw [oI_s, if_pos (nI_pos' (h g rfl)), if_neg (by simp)]
theorem arg5 {y : Int32} (c : (5 : Int32) ≤ y ∧ y ≤ 16) : ∃ m, y = nI m ∧ 5 ≤ m ∧ m ≤ 16 := by
  obtain ⟨m, hm, rfl⟩ := ixL 16 (by decide) (by
    have := Int32.le_iff_toInt_le.mp c.1
    rw [Int32.le_iff_toInt_le]
    have e0 : (0 : Int32).toInt = 0 := by decide
    have e1 : (5 : Int32).toInt = 5 := by decide
    omega) c.2
  exact ⟨m, rfl, (nI_leI (a := 5) (by decide) (by omega)).mp c.1, hm⟩
theorem ok_assign : ∀ (x1 x2 : Int32) (D : Dt), Inv D → ∃ (r : Int32) (D1 D2 : Dt), f_X9_assign x1 x2 D = some (r, D1) ∧ f_X10_assign x1 x2 D1 = some (r, D2) ∧ Inv D2 := by
  intro x y D h
  simp only [f_X9_assign, f_X10_assign, isIn_eq, in_eq, isNetwork_eq, X10_isNet, Option.bind_some, if_b]
  by_cases c : (0 : Int32) ≤ x ∧ x < 12
  · obtain ⟨n, hn, rfl⟩ := ixN 12 (by decide) c.1 c.2
    simp only [if_pos c]
    by_cases c2 : (5 : Int32) ≤ y ∧ y ≤ 16
    · obtain ⟨m, rfl, h5, h16⟩ := arg5 c2
      simp only [if_pos c2]
      by_cases c3 : D 33 0 (14 + 5 * n) = -1
      · obtain ⟨P, hP3, hP4⟩ := h.1.pol
        obtain ⟨r, D1, a1, a2, a3, a4⟩ := two_place (b := 0) h.2.1.2.1 h.1.2.1 hP3 hP4 h16
        have hQ := a2.mono SV_ZQ
        have hI1 : Inv D1 := Inv_q h hQ EqR.rf
        have e33 : D1 33 0 = D 33 0 := hQ 33 0 (by simp [ZQ])
        have hlt : ∀ g, r = some g → g < 2 ^ 31 := fun g hg => by have := (a4 g hg).lt; omega
        cases r with
        | none =>
          obtain ⟨D2, b1, b2⟩ := a3 D1 e33
          refine ⟨-3, D1, D2, ?_, ?_, Inv_q h hQ (b2.mono J89_JR)⟩
          · rw [hasBlock_s h.2.1.2.1 hn, Option.bind_some, if_b', if_pos c3, a1, Option.bind_some, oI_m1 hlt, if_pos rfl]
          · rw [X10_hasBlock e33 h.1.2.1 hn, Option.bind_some, if_b', if_pos c3, b1, Option.bind_some, oI_0 hlt, if_pos rfl]
        | some g =>
          have hpl := a4 g rfl
          have hg := hpl.lt
          obtain ⟨Dk, k1, k2, k3, k4, k5, k6⟩ := cls_keep hI1
          rw [e33] at k2 k5 k6
          have hE : Eqx ZC Dk (updD (updD Dk 4 0 n (nI g)) 5 0 n (nI m)) := (Eqx.upd (by simp [ZC])).tr (Eqx.upd (by simp [ZC]))
          have e33' : updD (updD Dk 4 0 n (nI g)) 5 0 n (nI m) 33 0 = D 33 0 := by rw [updD_other _ _ _ (by omega), updD_other _ _ _ (by omega)]; exact k6
          obtain ⟨D2, b1, b2⟩ := a3 _ e33'
          obtain ⟨Dn, d1, d2, d3, d4⟩ := ref_note k2 hE (b2.mono J89_JR) e33'
          refine ⟨nI g, updD (updD Dk 4 0 n (nI g)) 5 0 n (nI m), rowD Dn 33 0 (pcM (D 33 0) n (nI g) (nI m)), ?_, ?_, fin_m hI1 k3 k4 hE (b2.mono J89_JR) d3 d2 E33.row ?_ ?_⟩
          · rw [hasBlock_s h.2.1.2.1 hn, Option.bind_some, if_b', if_pos c3, a1, Option.bind_some, oI_m1 hlt, if_neg (by simp), k1, Option.bind_some, p_putCurrent hn, Option.bind_some]
            rfl
          · rw [X10_hasBlock e33' h.1.2.1 hn, Option.bind_some, if_b', if_pos c3, b1, Option.bind_some, oI_0 hlt, if_neg (by simp), d1, Option.bind_some, p_X10_net, Option.bind_some, wr_at rfl (show 14 + 5 * n < 170 by omega) (by decide), p_X10_net, Option.bind_some, nI_1, wr_at rfl (show 14 + 5 * n + 1 < 170 by omega) (by decide), updD_row Dn 33 0, rowD_upd, d4]
            rfl
          · rw [rowD_at]
            exact ⟨TimS_pc h.1.1 hn, GeoS_pc hn h5 h16 hpl, HoS_pc h.1.2.2 hn hg⟩
          · rw [rowD_at]
            exact RelS_pc k5 hn
      · refine ⟨-2, D, D, ?_, ?_, h⟩
        · rw [hasBlock_s h.2.1.2.1 hn, Option.bind_some, if_b', if_neg c3]
        · rw [X10_hasBlock rfl h.1.2.1 hn, Option.bind_some, if_b', if_neg c3]
    · simp only [if_neg c2]
      exact ⟨-1, D, D, rfl, rfl, h⟩
  · simp only [if_neg c]
    exact ⟨-1, D, D, rfl, rfl, h⟩
