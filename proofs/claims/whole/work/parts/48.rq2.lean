/-! request -/
theorem GeoS.blk {s : Nat → Int32} (h : GeoS s) {n : Nat} (hn : n < 12) (h0 : s (14 + 5 * n) ≠ -1) : ∃ g m, s (14 + 5 * n) = nI g ∧ s (14 + 5 * n + 1) = nI m ∧ 5 ≤ m ∧ m ≤ 16 ∧ g + zz m ≤ 65536 ∧ g % zz m = 0 ∧ g < 65536 := by
  obtain ⟨N, po, us, hV, hP, hG⟩ := h
  have v1 := hV (2 * n) (by omega)
  rw [bix_e] at v1
  cases hu : us (2 * n) with
  | none =>
    rw [hu] at v1
    exact absurd v1 h0
  | some q =>
    obtain ⟨g, m⟩ := q
    rw [hu] at v1
    obtain ⟨o1, o2, o3, o4⟩ := v1
    simp only at o1 o2 o3 o4
    obtain ⟨b1, b2, b3, p0, b4, b5, b6⟩ := hG.2.2.2.1 (2 * n) g m (by omega) hu
    have := (hG.2.1 p0 b4).2.2.2
    exact ⟨g, m, o1, o2, b1, b2, by omega, b3, o3⟩
def rnM (s : Nat → Int32) (i : Nat) (x u : Int32) : Nat → Int32 := upd (upd s (74 + 6 * i + 2) x) (74 + 6 * i + 3) u
theorem rnM_ne {s : Nat → Int32} {i j : Nat} {x u : Int32} (h0 : j ≠ 74 + 6 * i + 2) (h1 : j ≠ 74 + 6 * i + 3) : rnM s i x u j = s j := by
  rw [rnM, pk_un h1, pk_un h0]
theorem RelS_rn {D : Dt} {b i : Nat} {x u : Int32} {s : Nat → Int32} (h : RelS D b s) (hi : i < 16) : RelS (updD (updD D 12 b i x) 13 b i u) b (rnM s i x u) := by
  obtain ⟨r1, r2, r3⟩ := h
  refine ⟨r1.fx (by rw [updD_other _ _ _ (by omega), updD_other _ _ _ (by omega)]) (rnM_ne (by omega) (by omega)) (rnM_ne (by omega) (by omega)) (rnM_ne (by omega) (by omega)) (rnM_ne (by omega) (by omega)), r2.fx (fun k k1 k2 => by rw [updD_other _ _ _ (by omega), updD_other _ _ _ (by omega)]) (fun j j1 j2 _ => rnM_ne (by omega) (by omega)), ?_⟩
  intro m hm
  obtain ⟨w0, w2, w4, w1, w3, w5⟩ := r3 m hm
  simp only [updD, upd, rnM]
  grind (splits := 20)
theorem RelS_ro {D : Dt} {b i : Nat} {u : Int32} {s : Nat → Int32} (h : RelS D b s) (hi : i < 16) : RelS (updD D 15 b i u) b (upd s (74 + 6 * i + 5) u) := by
  obtain ⟨r1, r2, r3⟩ := h
  refine ⟨r1.fx (updD_other _ _ _ (by omega)) (pk_un (by omega)) (pk_un (by omega)) (pk_un (by omega)) (pk_un (by omega)), r2.fx (fun k k1 k2 => updD_other _ _ _ (by omega)) (fun j j1 j2 _ => pk_un (by omega)), ?_⟩
  intro m hm
  obtain ⟨w0, w2, w4, w1, w3, w5⟩ := r3 m hm
  simp only [updD, upd]
  grind (splits := 20)
theorem Good_rn {s : Nat → Int32} {i a u : Nat} (h : Good s) (hi : i < 16) (ha : a < 65536) (hu : u < 10999) : Good (rnM s i (nI a) (nI u)) := by
  obtain ⟨g1, g2, g3⟩ := h
  obtain ⟨k1, k2, k3⟩ := g3 i hi
  refine ⟨TimS_ext g1 (fun j hj => rnM_ne (by omega) (by omega)), GeoS_ext g2 (fun j j1 j2 => rnM_ne (by omega) (by omega)), HoS_upd (k := i) g3 (fun j j1 j2 => rnM_ne (by omega) (by omega)) (fun m p m1 m2 m3 => rnM_ne (by omega) (by omega)) ⟨?_, ?_, ?_⟩⟩
  · rw [rnM_ne (by omega) (by omega), rnM_ne (by omega) (by omega)]
    rcases k1 with v | ⟨m, v1, v2, v3, v4⟩
    · exact Or.inl v
    · exact Or.inr ⟨m, v1, v2, by rw [rnM_ne (by omega) (by omega)]; exact v3, v4⟩
  · exact Or.inr ⟨a, u, ha, hu, by rw [rnM, pk_un (by omega), pk_us], by rw [rnM, pk_us]⟩
  · rw [rnM_ne (by omega) (by omega), rnM_ne (by omega) (by omega), rnM_ne (by omega) (by omega)]
    rcases k3 with v | ⟨v0, m, v1, v2, v3⟩
    · exact Or.inl v
    · exact Or.inr ⟨v0, m, v1, v2, by rw [rnM_ne (by omega) (by omega)]; exact v3⟩
theorem Good_ro {s : Nat → Int32} {i u : Nat} (h : Good s) (hi : i < 16) (hu : u < 10999) : Good (upd s (74 + 6 * i + 5) (nI u)) := by
  obtain ⟨g1, g2, g3⟩ := h
  obtain ⟨k1, k2, k3⟩ := g3 i hi
  refine ⟨TimS_ext g1 (fun j hj => pk_un (by omega)), GeoS_ext g2 (fun j j1 j2 => pk_un (by omega)), HoS_upd (k := i) g3 (fun j j1 j2 => pk_un (by omega)) (fun m p m1 m2 m3 => pk_un (by omega)) ⟨?_, ?_, ?_⟩⟩
  · rw [pk_un (by omega), pk_un (by omega)]
    rcases k1 with v | ⟨m, v1, v2, v3, v4⟩
    · exact Or.inl v
    · exact Or.inr ⟨m, v1, v2, by rw [pk_un (by omega)]; exact v3, v4⟩
  · rw [pk_un (by omega), pk_un (by omega)]
    exact k2
  · have f0 : upd s (74 + 6 * i + 5) (nI u) (74 + 6 * i) = s (74 + 6 * i) := pk_un (by omega)
    have f4 : upd s (74 + 6 * i + 5) (nI u) (74 + 6 * i + 4) = s (74 + 6 * i + 4) := pk_un (by omega)
    have f5 : upd s (74 + 6 * i + 5) (nI u) (74 + 6 * i + 5) = nI u := pk_us
    rw [f0, f4, f5]
    rcases k3 with v | ⟨⟨a, u0, q1, q2, q3, q4⟩, m, v1, v2, v3⟩
    · exact Or.inl v
    · exact Or.inr ⟨⟨a, u, q1, hu, q3, rfl⟩, m, v1, v2, by rw [pk_un (by omega)]; exact v3⟩
theorem renewsOld_s {D : Dt} {b i : Nat} {s : Nat → Int32} (hR : RelH D b s) (hi : i < 16) (hm : s (74 + 6 * i) ≠ -1) : f_X2_renewsOld b (nI i) D = some (if s (74 + 6 * i + 2) = -1 ∧ s (74 + 6 * i + 1) = 1 ∧ s (74 + 6 * i + 4) ≠ -1 then 1 else 0) := by
  obtain ⟨w0, w2, w4, w1, w3, w5⟩ := hR i hi
  rw [f_X2_renewsOld, rd_at rfl hi (by decide), rd_at rfl hi (by decide), rd_at rfl hi (by decide), w2, w4, w1 hm]
  by_cases c1 : s (74 + 6 * i + 2) = -1
  · by_cases c2 : s (74 + 6 * i + 1) = 1
    · by_cases c3 : s (74 + 6 * i + 4) = -1
      · simp [c1, c2, c3]
      · simp [c1, c2, c3]
    · simp [c1, c2]
  · simp [c1]
/-- the call's end where the new lease is set -/
theorem rq_new {D : Dt} {i a : Nat} (h : Inv D) (hi : i < 16) (ha : a < 65536) (hmem : D 33 0 (74 + 6 * i) ≠ -1) (hno : ¬ (D 33 0 (74 + 6 * i + 2) = -1 ∧ D 33 0 (74 + 6 * i + 1) = 1 ∧ D 33 0 (74 + 6 * i + 4) ≠ -1)) : ∃ D1 D2, (f_X1_keep 0 D).bind (fun D4 => (f_X6_grant 0 (nI i) (nI a) D4).bind (fun D5 => some (nI a, D5))) = some (nI a, D1) ∧ D1 33 0 = D 33 0 ∧ j_X10_request_154_t8 D1 (nI (74 + 6 * i)) (D 33 0 0) (D 33 0 1) (nI a) = some (nI a, D2) ∧ Inv D2 := by
  obtain ⟨T, L, O, P, t1, t2, t3, t4, t5, t6, t7, t8⟩ := h.1.1.1
  obtain ⟨Dk, a1, a2, a3, a4, a5, a6⟩ := cls_keep h
  have hu : D 33 0 0 + D 33 0 1 = nI (T + L) := by rw [t1, t3, nI_add]
  have hE : Eqx ZC Dk (updD (updD Dk 12 0 i (nI a)) 13 0 i (nI (T + L))) := (Eqx.upd (by simp [ZC])).tr (Eqx.upd (by simp [ZC]))
  have e33 : updD (updD Dk 12 0 i (nI a)) 13 0 i (nI (T + L)) 33 0 = D 33 0 := by rw [updD_other _ _ _ (by omega), updD_other _ _ _ (by omega)]; exact a6
  obtain ⟨Dn, b1, b2, b3, b4⟩ := ref_note a2 hE EqR.rf e33
  refine ⟨updD (updD Dk 12 0 i (nI a)) 13 0 i (nI (T + L)), rowD Dn 33 0 (rnM (D 33 0) i (nI a) (nI (T + L))), ?_, e33, ?_, fin_m h a3 a4 hE EqR.rf b3 b2 E33.row ?_ ?_⟩
  · rw [a1, Option.bind_some, f_X6_grant, rd_at rfl hi (by decide), renewsOld_s a5.2.2 hi hmem, Option.bind_some, if_b, if_neg hno, wr_at rfl hi (by decide), wr_at rfl hi (by decide), a5.1.1, a5.1.2.1, hu, Option.bind_some]
  · rw [j_X10_request_154_t8, if_pos (nI_pos' (by omega)), b1, Option.bind_some, show (2 : Int32) = nI 2 from rfl, nI_add, nI_1, wr_at rfl (show 74 + 6 * i + 2 < 170 by omega) (by decide), wr_at rfl (show 74 + 6 * i + 2 + 1 < 170 by omega) (by decide), updD_row Dn 33 0, rowD_upd, b4, hu]
    rfl
  · rw [rowD_at]
    exact Good_rn h.1 hi ha (by omega)
  · rw [rowD_at]
    exact RelS_rn a5 hi
theorem ok_request : ∀ (x1 : Int32) (D : Dt), Inv D → ∃ (r : Int32) (D1 D2 : Dt), f_X9_request x1 D = some (r, D1) ∧ f_X10_request x1 D1 = some (r, D2) ∧ Inv D2 := by
  intro x D h
  simp only [f_X9_request, f_X10_request, isHost_eq, X10_isHost, Option.bind_some, if_b]
  by_cases c : (0 : Int32) ≤ x ∧ x < 16
  · obtain ⟨i, hi, rfl⟩ := ixN 16 (by decide) c.1 c.2
    simp only [if_pos c, p_X10_hostAt, Option.bind_some]
    by_cases c1 : D 33 0 (74 + 6 * i) = -1
    · refine ⟨-2, D, D, ?_, ?_, h⟩
      · rw [isMember_s h.2.1.2.2 hi, Option.bind_some, if_b', if_pos c1]
      · rw [rd_at rfl (show 74 + 6 * i < 170 by omega) (by decide), nn_ge (h.1.2.2.nn0 hi), if_pos c1]
    · have t16 : j_X10_request_154_t16 = j_X10_request_154_t8 := rfl
      have t24 : j_X10_request_154_t24 = j_X10_request_154_t8 := rfl
      obtain ⟨g1, g2, g3⟩ := h.1.2.2 i hi
      have g1' : ∃ n, n < 12 ∧ D 33 0 (74 + 6 * i) = nI n ∧ D 33 0 (14 + 5 * n) ≠ -1 ∧ (D 33 0 (74 + 6 * i + 1) = 0 ∨ D 33 0 (74 + 6 * i + 1) = 1) := by
        rcases g1 with w | w
        · exact absurd w c1
        · exact w
      obtain ⟨n, hn, n1, n2, n3⟩ := g1'
      obtain ⟨w0, w2, w4, w1, w3, w5⟩ := h.2.1.2.2 i hi
      rw [isMember_s h.2.1.2.2 hi, Option.bind_some, if_b', if_neg c1]
      simp only [show (2 : Int32) = nI 2 from rfl, show (4 : Int32) = nI 4 from rfl, nI_add, nI_1, rd_at rfl (show 74 + 6 * i < 170 by omega) (show 170 < 2 ^ 31 by decide), rd_at rfl (show 74 + 6 * i + 1 < 170 by omega) (show 170 < 2 ^ 31 by decide), rd_at rfl (show 74 + 6 * i + 2 < 170 by omega) (show 170 < 2 ^ 31 by decide), rd_at rfl (show 74 + 6 * i + 4 < 170 by omega) (show 170 < 2 ^ 31 by decide), rd_at (i := (0 : Int32)) (j := 0) rfl (show 0 < 170 by decide) (show 170 < 2 ^ 31 by decide), rd_at (i := (1 : Int32)) (j := 1) rfl (show 1 < 170 by decide) (show 170 < 2 ^ 31 by decide), t16, t24]
      by_cases c2 : D 33 0 (74 + 6 * i + 2) = -1
      · by_cases c3 : D 33 0 (74 + 6 * i + 1) = 1 ∧ D 33 0 (74 + 6 * i + 4) ≠ -1
        · -- the old lease is renewed
          obtain ⟨⟨a, u0, q1, q2, q3, q4⟩, n', q5, q6, q7⟩ : (∃ a u, a < 65536 ∧ u < 10999 ∧ D 33 0 (74 + 6 * i + 4) = nI a ∧ D 33 0 (74 + 6 * i + 5) = nI u) ∧ ∃ n, n < 12 ∧ D 33 0 (74 + 6 * i) = nI n ∧ D 33 0 (14 + 5 * n + 2) ≠ -1 := by
            rcases g3 with w | w
            · exact absurd w c3.2
            · exact w
          have hnn' : n' = n := nI_inj (by omega) (by omega) (q6.symm.trans n1)
          subst hnn'
          obtain ⟨T, L, O, P, t1, t2, t3, t4, t5, t6, t7, t8⟩ := h.1.1.1
          obtain ⟨e, e1, e2⟩ := h.1.1.2 n' hn q7
          have hu : D 33 0 0 + D 33 0 1 = nI (T + L) := by rw [t1, t3, nI_add]
          obtain ⟨Dk, a1, a2, a3, a4, a5, a6⟩ := cls_keep h
          have hE : Eqx ZC Dk (updD Dk 15 0 i (nI (if e < T + L then e else T + L))) := Eqx.upd (by simp [ZC])
          have e33 : updD Dk 15 0 i (nI (if e < T + L then e else T + L)) 33 0 = D 33 0 := by rw [updD_other _ _ _ (by omega)]; exact a6
          obtain ⟨Dn, b1, b2, b3, b4⟩ := ref_note a2 hE EqR.rf e33
          refine ⟨nI a, updD Dk 15 0 i (nI (if e < T + L then e else T + L)), rowD Dn 33 0 (upd (D 33 0) (74 + 6 * i + 5) (nI (if e < T + L then e else T + L))), ?_, ?_, fin_m h a3 a4 hE EqR.rf b3 b2 E33.row ?_ ?_⟩
          · rw [f_X6_addressFor, rd_at rfl hi (by decide), w2, if_pos c2, renewsOld_s h.2.1.2.2 hi c1, Option.bind_some, if_b, if_pos ⟨c2, c3⟩, rd_at rfl hi (by decide), w4, q3, Option.bind_some, if_neg (nI_nm1 (by omega)), a1, Option.bind_some, f_X6_grant, rd_at rfl hi (by decide), (a5.2.2 i hi).1, n1, renewsOld_s a5.2.2 hi c1, Option.bind_some, if_b, if_pos ⟨c2, c3⟩, hasOld_s a5.2.1 hn, Option.bind_some, if_b', if_neg q7, rd_at rfl hn (by decide), ((a5.2.1.2.2.2 n' hn).2.2.2 q7).2, wr_at rfl hi (by decide), a5.1.1, a5.1.2.1, hu, e2, Option.bind_some, if_lt (by omega) (by omega)]
            by_cases v : e < T + L
            · rw [if_pos v, if_pos v]
            · rw [if_neg v, if_neg v]
          · simp only [e33]
            have ew : (if nI e ≤ nI (T + L) then nI e else nI (T + L)) = nI (if e < T + L then e else T + L) := by
              rw [if_le (by omega) (by omega)]
              by_cases v : e < T + L
              · rw [if_pos v, if_pos (by omega)]
              · rw [if_neg v]
                by_cases v2 : e ≤ T + L
                · rw [if_pos v2, show e = T + L by omega]
                · rw [if_neg v2]
            have fin : ∀ v : Int32, wr Dn 33 0 170 (nI (74 + 6 * i + 4 + 1)) v (fun D34 => some (D34 33 0 (74 + 6 * i + 4), D34)) = some (nI a, rowD Dn 33 0 (upd (D 33 0) (74 + 6 * i + 5) v)) := by
              intro v
              rw [wr_at rfl (show 74 + 6 * i + 4 + 1 < 170 by omega) (by decide), updD_row Dn 33 0, b4, rowD_at, pk_un (by omega), q3]
            rw [nn_ge (h.1.2.2.nn0 hi), if_neg c1, nn_ge (h.1.2.2.nn2 hi), if_pos c2, if_pos c3.1, nn_lt (h.1.2.2.nn4 hi), if_neg c3.2, b1, Option.bind_some, b4, n1, p_X10_net, Option.bind_some, nI_add, rd_at rfl (show 14 + 5 * n' + 4 < 170 by omega) (by decide), b4, e2, hu, fin, fin, ← ew]
            by_cases v : nI e ≤ nI (T + L)
            · rw [if_pos v, if_pos v]
            · rw [if_neg v, if_neg v]
          · rw [rowD_at]
            exact Good_ro h.1 hi (by
              by_cases v : e < T + L
              · rw [if_pos v]; omega
              · rw [if_neg v]; omega)
          · rw [rowD_at]
            exact RelS_ro a5 hi
        · -- an address is sought
          have hno : ¬ (D 33 0 (74 + 6 * i + 2) = -1 ∧ D 33 0 (74 + 6 * i + 1) = 1 ∧ D 33 0 (74 + 6 * i + 4) ≠ -1) := fun q => c3 q.2
          obtain ⟨g, m, k0, k1, k5, k16, kg, ka, kg2⟩ := h.1.2.1.blk hn n2
          have ho : D 33 0 (74 + 6 * i + 4) ≠ -1 → D 33 0 (14 + 5 * n + 2) ≠ -1 := by
            intro q
            rcases g3 with w | ⟨_, n', q5, q6, q7⟩
            · exact absurd w q
            · have hnn' : n' = n := nI_inj (by omega) (by omega) (q6.symm.trans n1)
              subst hnn'
              exact q7
          have af : f_X6_addressFor 0 (nI i) D = some (oI (naO (D 33 0) i n g m)) := by
            rw [f_X6_addressFor, rd_at rfl hi (by decide), w2, if_pos c2, renewsOld_s h.2.1.2.2 hi c1, Option.bind_some, if_b, if_neg hno, rd_at rfl hi (by decide), w0, n1, hasBlock_s h.2.1.2.1 hn, Option.bind_some, if_b', if_neg n2]
            exact p_newAddr h.2.1 hi hn k0 k1 kg2 k16 ho
          have hlt : ∀ a, naO (D 33 0) i n g m = some a → a < 2 ^ 31 := fun a ha => by have := naO_lt kg kg2 ha; omega
          have na : ∀ E, E 33 0 = D 33 0 → f_X10_newAddress (nI i) E = some (oI (naO (D 33 0) i n g m)) := fun E e => p_X10_newAddr e hi hn n1 k0 k1 kg2 k16 (h.1.2.2.nn4 hi)
          have ref : ∀ E, E 33 0 = D 33 0 → (if 0 ≤ E 33 0 (74 + 6 * i) then if 0 ≤ E 33 0 (74 + 6 * i + 2) then if E 33 0 (74 + 6 * i + 2) < 0 then (f_X10_newAddress (nI i) E).bind fun o12 => j_X10_request_154_t8 E (nI (74 + 6 * i)) (E 33 0 0) (E 33 0 1) o12 else j_X10_request_154_t8 E (nI (74 + 6 * i)) (E 33 0 0) (E 33 0 1) (E 33 0 (74 + 6 * i + 2)) else if E 33 0 (74 + 6 * i + 1) = 1 then if E 33 0 (74 + 6 * i + 4) < 0 then if E 33 0 (74 + 6 * i + 2) < 0 then (f_X10_newAddress (nI i) E).bind fun o28 => j_X10_request_154_t8 E (nI (74 + 6 * i)) (E 33 0 0) (E 33 0 1) o28 else j_X10_request_154_t8 E (nI (74 + 6 * i)) (E 33 0 0) (E 33 0 1) (E 33 0 (74 + 6 * i + 2)) else none else if E 33 0 (74 + 6 * i + 2) < 0 then (f_X10_newAddress (nI i) E).bind fun o20 => j_X10_request_154_t8 E (nI (74 + 6 * i)) (E 33 0 0) (E 33 0 1) o20 else j_X10_request_154_t8 E (nI (74 + 6 * i)) (E 33 0 0) (E 33 0 1) (E 33 0 (74 + 6 * i + 2)) else some (-2, E)) = j_X10_request_154_t8 E (nI (74 + 6 * i)) (D 33 0 0) (D 33 0 1) (oI (naO (D 33 0) i n g m)) := by
            intro E e
            rw [na E e]
            simp only [e, Option.bind_some]
            rw [nn_ge (h.1.2.2.nn0 hi), if_neg c1, nn_ge (h.1.2.2.nn2 hi), if_pos c2, nn_lt (h.1.2.2.nn2 hi), if_pos c2, nn_lt (h.1.2.2.nn4 hi)]
            by_cases v : D 33 0 (74 + 6 * i + 1) = 1
            · have v2 : D 33 0 (74 + 6 * i + 4) = -1 := by
                apply Classical.byContradiction
                intro q
                exact c3 ⟨v, q⟩
              rw [if_pos v, if_pos v2]
            · rw [if_neg v]
          cases ho2 : naO (D 33 0) i n g m with
          | none =>
            refine ⟨-3, D, D, ?_, ?_, h⟩
            · rw [af, Option.bind_some, ho2]
              rfl
            · have r := ref D rfl
              rw [ho2] at r
              rw [nn_ge (h.1.2.2.nn0 hi), if_neg c1, nn_ge (h.1.2.2.nn2 hi), if_pos c2] at r ⊢
              by_cases v : D 33 0 (74 + 6 * i + 1) = 1
              · have v2 : D 33 0 (74 + 6 * i + 4) = -1 := by
                  apply Classical.byContradiction
                  intro q
                  exact c3 ⟨v, q⟩
                rw [if_pos v, nn_lt (h.1.2.2.nn4 hi), if_pos v2] at r ⊢
                rw [r]
                rfl
              · rw [if_neg v] at r ⊢
                rw [r]
                rfl
          | some a =>
            have ha : a < 65536 := naO_lt kg kg2 ho2
            obtain ⟨D1, D2, z1, z2, z3, z4⟩ := rq_new h hi ha c1 hno
            refine ⟨nI a, D1, D2, ?_, ?_, z4⟩
            · rw [af, Option.bind_some, ho2, oI_s, if_neg (nI_nm1 (by omega))]
              exact z1
            · have r := ref D1 z2
              rw [ho2, oI_s, z3] at r
              simp only [z2] at r ⊢
              rw [nn_ge (h.1.2.2.nn0 hi), if_neg c1, nn_ge (h.1.2.2.nn2 hi), if_pos c2] at r ⊢
              by_cases v : D 33 0 (74 + 6 * i + 1) = 1
              · have v2 : D 33 0 (74 + 6 * i + 4) = -1 := by
                  apply Classical.byContradiction
                  intro q
                  exact c3 ⟨v, q⟩
                rw [if_pos v, nn_lt (h.1.2.2.nn4 hi), if_pos v2] at r ⊢
                exact r
              · rw [if_neg v] at r ⊢
                exact r
      · -- the new lease is renewed
        have hno : ¬ (D 33 0 (74 + 6 * i + 2) = -1 ∧ D 33 0 (74 + 6 * i + 1) = 1 ∧ D 33 0 (74 + 6 * i + 4) ≠ -1) := fun q => c2 q.1
        obtain ⟨a, u0, q1, q2, q3, q4⟩ : ∃ a u, a < 65536 ∧ u < 10999 ∧ D 33 0 (74 + 6 * i + 2) = nI a ∧ D 33 0 (74 + 6 * i + 3) = nI u := by
          rcases g2 with w | w
          · exact absurd w c2
          · exact w
        obtain ⟨D1, D2, z1, z2, z3, z4⟩ := rq_new h hi q1 c1 hno
        refine ⟨nI a, D1, D2, ?_, ?_, z4⟩
        · rw [f_X6_addressFor, rd_at rfl hi (by decide), w2, if_neg c2, rd_at rfl hi (by decide), w2, q3, Option.bind_some, if_neg (nI_nm1 (by omega))]
          exact z1
        · simp only [z2]
          rw [nn_ge (h.1.2.2.nn0 hi), if_neg c1, nn_ge (h.1.2.2.nn2 hi), if_neg c2, nn_lt (h.1.2.2.nn2 hi), if_neg c2, q3]
          exact z3
  · simp only [if_neg c]
    exact ⟨-1, D, D, rfl, rfl, h⟩
