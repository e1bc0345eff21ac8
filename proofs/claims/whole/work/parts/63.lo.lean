/-! load -/
def u0M (g : Nat → Int32) : Nat → Int32 := e3M (e2M (upd (upd (e1M g 170) 1 60) 2 100) 12) 16
theorem u0M_s {g : Nat → Int32} {j : Nat} (hj : j < 170) : u0M g j = s0M j := by
  rw [← e_s0 j]
  simp only [u0M, e3M, e2M, e1M, upd, if_pos hj]
theorem u0M_good (g : Nat → Int32) : Good (u0M g) := Good_ext (Inv_D0).1 (fun j hj => u0M_s hj)
theorem Eqx_fill {S : Nat → Nat → Prop} {D : Dt} {k b n : Nat} {x : Int32} (h : S k b) : Eqx S D (fillD D k b n x) := fun k' b' hn => funext (fun i => by
  rw [fillD_at, if_neg]
  rintro ⟨q1, q2, -⟩
  exact hn (by rw [q1, q2]; exact h))
theorem p_reset {D : Dt} (g : Nat → Int32) : ∃ Dr, f_X6_reset 1 D = some Dr ∧ Eqx ZQ D Dr ∧ RelS Dr 1 (u0M g) := by
  refine ⟨_, p_X6_reset 1 D, ?_, RelS_ext (s := s0M) ?_ (fun j hj => u0M_s hj)⟩
  · unfold hresD
    refine Eqx.tr (Eqx.tr (Eqx.tr (Eqx.tr (Eqx.tr (Eqx.tr (Eqx.tr (Eqx.tr (Eqx.tr (Eqx.tr (Eqx.upd ?_) (Eqx.upd ?_)) (Eqx_fill ?_)) (Eqx_fill ?_)) (Eqx_fill ?_)) (Eqx_fill ?_)) (Eqx_fill ?_)) (Eqx.upd ?_)) (Eqx.upd ?_)) (Eqx.upd ?_)) (Eqx.upd ?_)
    all_goals simp [ZQ]
  · have hb : ∀ n, n < 12 → s0M (14 + 5 * n) = -1 ∧ s0M (14 + 5 * n + 2) = -1 := by decide
    have hh : ∀ i, i < 16 → s0M (74 + 6 * i) = -1 ∧ s0M (74 + 6 * i + 2) = -1 ∧ s0M (74 + 6 * i + 4) = -1 := by decide
    have v0 : s0M 0 = 0 := rfl
    have v1 : s0M 1 = 60 := rfl
    have v2 : s0M 2 = 100 := rfl
    have v3 : s0M 3 = 0 := rfl
    have v4 : s0M 4 = 0 := rfl
    have v5 : s0M 5 = 0 := rfl
    refine ⟨⟨?_, ?_, ?_, ?_⟩, ⟨?_, ?_, fun p hp q => absurd q (by rw [v5]; exact nI_pos (by omega)), fun n hn => ?_⟩, fun i hi => ?_⟩
    · rw [v0]; simp [updD_at]
    · rw [v1]; simp [updD_at]
    · rw [v2]; simp [updD_at]
    · rw [v4]; simp [updD_at]
    · rw [v3]; simp [updD_at, hresD, fillD_at]
    · rw [v5]; simp [updD_at, hresD, fillD_at]
    · rw [(hb n hn).1, (hb n hn).2]
      refine ⟨?_, ?_, fun q => absurd rfl q, fun q => absurd rfl q⟩
      · simp [updD_at, hresD, fillD_at, hn]
      · simp [updD_at, hresD, fillD_at, hn]
    · rw [(hh i hi).1, (hh i hi).2.1, (hh i hi).2.2]
      refine ⟨?_, ?_, ?_, fun q => absurd rfl q, fun q => absurd rfl q, fun q => absurd rfl q⟩
      · simp [updD_at, hresD, fillD_at, hi]
      · simp [updD_at, hresD, fillD_at, hi]
      · simp [updD_at, hresD, fillD_at, hi]
theorem sIf_l {α β : Type} {P : Prop} {x : α ⊕ β} {a st : α} (h : sIf P x (Sum.inl a) = Sum.inl st) : st = a ∨ (P ∧ x = Sum.inl st) := by
  by_cases c : P
  · rw [sIf_t c] at h
    exact Or.inr ⟨c, h⟩
  · rw [sIf_f c] at h
    cases h
    exact Or.inl rfl
theorem tS_le {T : Nat → Nat} {n p : Nat} (hp : p ≤ n) : tkS T n p ≤ n := by
  obtain ⟨b1, b2, b3, b4⟩ := tk_b (T := T) hp
  omega
theorem tE_le {T : Nat → Nat} {n p : Nat} (hp : p ≤ n) : tkE T n p ≤ n := (tk_b (T := T) hp).2.2.1
theorem semi_l {T : Nat → Nat} {n p st : Nat} {u : Nat → Int32} (hp : p ≤ n) (h : semi T n p u = Sum.inl st) : st ≤ n := by
  rw [semi] at h
  rcases sIf_l h with rfl | ⟨_, h⟩
  · exact tS_le hp
  · cases h
theorem itemI_l {T : Nat → Nat} {n p st : Nat} {u : Nat → Int32} (hp : p ≤ n) (h : itemI T n p u = Sum.inl st) : st ≤ n := by
  have q1 := tE_le (T := T) hp
  have q2 := tE_le (T := T) q1
  have q3 := tE_le (T := T) q2
  have q4 := tE_le (T := T) q3
  rw [itemI] at h
  by_cases c4 : tkK T n p = 4
  · rw [if_pos c4, poolI] at h
    by_cases c : 4 ≤ pnV' u
    · rw [sIf_t c] at h
      cases h
      exact tS_le hp
    · rw [sIf_f c] at h
      rcases sIf_l h with rfl | ⟨_, h⟩
      · exact tS_le q1
      · rcases sIf_l h with rfl | ⟨_, h⟩
        · exact tS_le q2
        · exact semi_l q3 h
  · rw [if_neg c4] at h
    by_cases c5 : tkK T n p = 5
    · rw [if_pos c5, netI] at h
      rcases sIf_l h with rfl | ⟨_, h⟩
      · exact tS_le q1
      · rcases sIf_l h with rfl | ⟨_, h⟩
        · exact tS_le q2
        · cases hpl : plF u (tkV T n (tkE T n (tkE T n p))) with
          | none =>
            rw [hpl] at h
            simp only [netJ] at h
            cases h
            exact tS_le q2
          | some g =>
            rw [hpl] at h
            simp only [netJ] at h
            exact semi_l q3 h
    · rw [if_neg c5] at h
      by_cases c6 : tkK T n p = 6
      · rw [if_pos c6, hostI] at h
        rcases sIf_l h with rfl | ⟨_, h⟩
        · exact tS_le q1
        · rcases sIf_l h with rfl | ⟨_, h⟩
          · exact tS_le q2
          · by_cases c7 : tkK T n (tkE T n (tkE T n (tkE T n p))) = 7
            · rw [sIf_t c7] at h
              exact semi_l q4 h
            · rw [sIf_f c7] at h
              exact semi_l q3 h
      · rw [if_neg c6] at h
        by_cases c8 : tkK T n p = 8
        · rw [if_pos c8, polI] at h
          rcases sIf_l h with rfl | ⟨_, h⟩
          · exact tS_le q1
          · exact semi_l q2 h
        · rw [if_neg c8] at h
          cases h
          exact tS_le hp
theorem Inv_cl {D E : Dt} (h : Inv D) (hE : ECl D E) : Inv E := by
  obtain ⟨a1, a2, a3, a4, a5⟩ := h
  have f : ∀ k, (k = 23 ∨ k = 24 ∨ 27 ≤ k) → E k 0 = D k 0 := fun k hk => hE.1 k 0 (by simp only [ZQ]; omega) (by omega)
  refine ⟨by rw [f 33 (by decide)]; exact a1, ?_, a3.fr ⟨fun k b k1 k2 k3 => hE.1 k b (by simp only [ZQ]; omega) (by omega), f 24 (by decide), by rw [f 32 (by decide)], f 34 (by decide)⟩, a4.fr ⟨hE.2, f 23 (by decide), by rw [f 32 (by decide)], f 35 (by decide)⟩, a5.fr ⟨by rw [f 27 (by decide)], f 28 (by decide), f 29 (by decide), f 30 (by decide), by rw [f 32 (by decide)], f 39 (by decide)⟩⟩
  rw [f 33 (by decide)]
  exact a2.fr (fun k hk => hE.1 k 0 (by simp only [ZQ]; omega) (by omega))
theorem EqX.W {D D' : Dt} (h : EqX D D') : EqW JR D D' := ⟨fun k b a1 a2 a3 a4 a5 => h.1 k b a1 a3 a4 a5, h.2⟩
/-- the reference's reading, to its end -/
theorem p_ldE {E : Dt} {n : Nat} {T : Nat → Nat} {s : Nat → Int32} (hT : TXr E n T) (hs : E 33 0 = s) : ∃ e : Int32 × Dt, f_X10_load E = (f_X10_exchanges e.2).bind (fun D8 => if (D8 32 0 14) = 0 then ((f_X10_note D8).bind (fun D9 => (f_X10_exchanges D9).bind (fun D10 => pu D10 32 0 4 (0 : Int32) (fun D11 => some (e.1, D11))))) else (some ((-10 : Int32) - (D8 32 0 11), D8))) ∧ EqW JR E e.2 ∧ (∀ j, j < 170 → e.2 36 0 j = s j) ∧ ∃ i p u, Pth T n (u0M s) i p u ∧ ((tkK T n p = 1 ∧ e.1 = nI i ∧ e.2 32 0 14 = 0 ∧ e.2 33 0 = u) ∨ (tkK T n p ≠ 1 ∧ ∃ st, itemI T n p u = Sum.inl st ∧ e.2 32 0 14 = 1 ∧ e.2 32 0 11 = nI st)) := by
  have b0 : EqW JR E (rowD E 36 0 (cpM (E 36 0) s 170)) := EqW.row (Or.inr rfl)
  have b1 : EqX (rowD E 36 0 (cpM (E 36 0) s 170)) (rowD (rowD E 36 0 (cpM (E 36 0) s 170)) 33 0 (u0M s)) := EqX.w
  have b2 : EqX (rowD (rowD E 36 0 (cpM (E 36 0) s 170)) 33 0 (u0M s)) (updD (updD (rowD (rowD E 36 0 (cpM (E 36 0) s 170)) 33 0 (u0M s)) 32 0 10 0) 32 0 14 0) := (EqX.u (by simp [JR])).tr (EqX.u (by simp [JR]))
  have hT0 : TXr (rowD E 36 0 (cpM (E 36 0) s 170)) n T := hT.fr (by rw [rowD_ne _ _ (by omega)]) (by rw [rowD_ne _ _ (by omega)])
  have hT4 := hT0.v (b1.tr b2)
  obtain ⟨D5, a1, a2, a3⟩ := p_readsToken (p := 0) hT4 (by rw [updD_at, if_neg (by omega), updD_at, if_pos ⟨rfl, rfl, rfl⟩]; rfl) (by omega)
  have b3 := (b1.tr b2).tr (EqX.k a3)
  obtain ⟨e, c1, i, p, u, c2, c3, c4⟩ := p_ldR (u0 := u0M s) (hT0.v b3) a2 (by rw [a3.2 14 (by simp [KT]), updD_at, if_pos ⟨rfl, rfl, rfl⟩]) (by rw [a3.1 33 0 (by decide), updD_other _ _ _ (by omega), updD_other _ _ _ (by omega), rowD_at]) (u0M_good s)
  have b4 := b3.tr c3
  refine ⟨e, ?_, b0.tr b4.W, fun j hj => ?_, i, p, u, c2, c4⟩
  · rw [f_X10_load, p_keepsApart, hs, Option.bind_some, p_X10_empties, rowD_ne E _ (show ¬ ((33 : Nat) = 36 ∧ (0 : Nat) = 0) by omega), hs, Option.bind_some]
    simp only [pu, gd_i0]
    have a1' : f_X10_readsToken (updD (updD (rowD (rowD E 36 0 (cpM (E 36 0) s 170)) 33 0 (e3M (e2M (upd (upd (e1M s 170) 1 60) 2 100) 12) 16)) 32 0 10 0) 32 0 14 0) = some D5 := a1
    rw [a1', Option.bind_some, c1, Option.bind_some]
  · rw [b4.1 36 0 (by decide) (by decide) (by decide) (by decide), rowD_at]
    exact cpM_lt hj
theorem ex_note2 {D1 E2 : Dt} {u s : Nat → Int32} (hM : HisM D1 s) (hR : RelS D1 0 u) (hW : EqW JR D1 E2) (h33 : E2 33 0 = u) (h36 : ∀ j, j < 170 → E2 36 0 j = s j) (hG : Good u) : ∃ D22 D23 D2, f_X10_exchanges E2 = some D22 ∧ f_X10_note D22 = some D23 ∧ f_X10_exchanges D23 = some D2 ∧ D22 32 0 = E2 32 0 ∧ HisR D2 ∧ Good (D2 33 0) ∧ RelS D2 0 (D2 33 0) ∧ FP D1 D2 ∧ D2 22 0 = D1 22 0 := by
  have hx := p_exchanges (D := E2)
  rw [h33] at hx
  have hW3 : EqW JR E2 (rowD (rowD E2 33 0 (cpM u (E2 36 0) 170)) 36 0 (cpM (E2 36 0) u 170)) := (EqW.row (Or.inl rfl)).tr (EqW.row (Or.inr rfl))
  have f33 : rowD (rowD E2 33 0 (cpM u (E2 36 0) 170)) 36 0 (cpM (E2 36 0) u 170) 33 0 = cpM u (E2 36 0) 170 := by rw [rowD_ne _ _ (by omega), rowD_at]
  have hs' : ∀ j, j < 170 → cpM u (E2 36 0) 170 j = s j := fun j hj => by rw [cpM_lt hj]; exact h36 j hj
  have hM3 : HisM (rowD (rowD E2 33 0 (cpM u (E2 36 0) 170)) 36 0 (cpM (E2 36 0) u 170)) (cpM u (E2 36 0) 170) := HisM_ext ((hM.fr hW.FH').fr hW3.FH') hs'
  obtain ⟨Dn, n1, n2, n3⟩ := p_note hM3 f33
  have hx2 := p_exchanges (D := Dn)
  have d36 : ∀ j, j < 170 → Dn 36 0 j = u j := fun j hj => by
    rw [n3.1 36 0 (by decide) (by decide), rowD_at]
    exact cpM_lt hj
  have g33 : rowD (rowD Dn 33 0 (cpM (Dn 33 0) (Dn 36 0) 170)) 36 0 (cpM (Dn 36 0) (Dn 33 0) 170) 33 0 = cpM (Dn 33 0) (Dn 36 0) 170 := by rw [rowD_ne _ _ (by omega), rowD_at]
  have hu' : ∀ j, j < 170 → cpM (Dn 33 0) (Dn 36 0) 170 j = u j := fun j hj => by rw [cpM_lt hj]; exact d36 j hj
  have hW4 : EqW JR Dn (rowD (rowD Dn 33 0 (cpM (Dn 33 0) (Dn 36 0) 170)) 36 0 (cpM (Dn 36 0) (Dn 33 0) 170)) := (EqW.row (Or.inl rfl)).tr (EqW.row (Or.inr rfl))
  refine ⟨_, Dn, _, hx, n1, hx2, ?_, n2.fr hW4.FH', ?_, ?_, ((hW.FP'.tr hW3.FP').tr n3.P).tr hW4.FP', ?_⟩
  · rw [rowD_ne _ _ (by omega), rowD_ne _ _ (by omega)]
  · rw [g33]
    exact Good_ext hG hu'
  · rw [g33]
    refine RelS_ext (hR.fr (fun k hk => ?_)) hu'
    rw [hW4.1 k 0 (by omega) (by omega) (by omega) (by omega) (by omega), n3.1 k 0 (by omega) (by omega), hW3.1 k 0 (by omega) (by omega) (by omega) (by omega) (by omega), hW.1 k 0 (by omega) (by omega) (by omega) (by omega) (by omega)]
  · rw [hW4.1 22 0 (by decide) (by decide) (by decide) (by decide) (by decide), n3.1 22 0 (by decide) (by decide), hW3.1 22 0 (by decide) (by decide) (by decide) (by decide) (by decide), hW.1 22 0 (by decide) (by decide) (by decide) (by decide) (by decide)]
theorem ok_load : ∀ (_ : Unit) (D : Dt), Inv D → ∃ (r : Int32) (D1 D2 : Dt), f_X9_load D = some (r, D1) ∧ f_X10_load D1 = some (r, D2) ∧ Inv D2 := by
  intro _ D h
  obtain ⟨n, n1, n2, n3, n4⟩ := h.2.2.2.1
  have hTv : ∀ i, i < n → (D 23 0 i).toNatClampNeg < 256 ∧ D 23 0 i = nI (D 23 0 i).toNatClampNeg ∧ (D 35 0 i &&& 255) = nI (D 23 0 i).toNatClampNeg := by
    intro i hi
    obtain ⟨c, q1, q2, q3⟩ := n4 i hi
    rw [q2, nI_clamp (by omega)]
    exact ⟨q1, rfl, q3⟩
  have hTc : TXc D n (fun i => (D 23 0 i).toNatClampNeg) := ⟨n2, n1, fun i hi => ⟨(hTv i hi).1, (hTv i hi).2.1⟩⟩
  have hTr : TXr D n (fun i => (D 23 0 i).toNatClampNeg) := ⟨n3, n1, fun i hi => ⟨(hTv i hi).1, (hTv i hi).2.2⟩⟩
  generalize (fun i => (D 23 0 i).toNatClampNeg) = T at hTc hTr
  obtain ⟨Dr, r1, r2, r3⟩ := p_reset (D := D) (D 33 0)
  have hEr : ECl D (updD Dr 22 0 2 0) := (ECl.q r2).tr ⟨fun k b _ k2 => updD_other _ _ _ (by omega), by rw [updD_at, if_neg (by omega)]⟩
  obtain ⟨⟨rv, E⟩, l1, i, p, u, l2, l3, l4⟩ := p_ldC (hTc.cl hEr) (by rw [updD_at, if_pos ⟨rfl, rfl, rfl⟩]; rfl) (r3.fr (fun k hk => updD_other _ _ _ (by omega))) (u0M_good (D 33 0))
  simp only at l3 l4
  have hEE := hEr.tr l3
  have hIE := Inv_cl h hEE
  obtain ⟨pg1, pg2, pg3⟩ := Pth_good (u0M_good (D 33 0)) l2
  have eT : f_X4_readText D = some (rv, E) := by
    rw [f_X4_readText, r1, Option.bind_some, f_X8_rewind]
    simp only [pu, Option.bind_some]
    exact l1
  have e33 : E 33 0 = D 33 0 := hEE.1 33 0 (by simp [ZQ]) (by decide)
  have hTrE : TXr E n T := hTr.fr (by rw [hEE.1 32 0 (by simp [ZQ]) (by decide)]) (hEE.1 35 0 (by simp [ZQ]) (by decide))
  rcases l4 with ⟨k1, k2, k3⟩ | ⟨k1, st, k2, k3⟩
  · -- read to the end
    subst k2
    obtain ⟨D1, a1, Dk, a2, a3, a4, a5, a6, a7⟩ := p_adopt hIE e33 k3
    have u22 : ∀ k b, k ≠ 22 → updD D1 22 0 1 0 k b = D1 k b := fun k b hk => updD_other _ _ _ (by omega)
    have hM1 : HisM (updD D1 22 0 1 0) (D 33 0) := (a4.fr a5.FH).fr ⟨fun k b k1 k2 k3 => u22 k b (by omega), u22 24 0 (by decide), by rw [u22 32 0 (by decide)], u22 34 0 (by decide)⟩
    have hP1 : FP E (updD D1 22 0 1 0) := (a3.tr a5.FP).tr ⟨by rw [u22 27 0 (by decide)], u22 28 0 (by decide), u22 29 0 (by decide), u22 30 0 (by decide), by rw [u22 32 0 (by decide)], u22 39 0 (by decide)⟩
    have hFT := a2.tr a5.FT
    have hT1 : TXr (updD D1 22 0 1 0) n T := hTrE.fr (by rw [u22 32 0 (by decide)]; exact hFT.2.2.1) (by rw [u22 35 0 (by decide)]; exact hFT.2.2.2)
    have s1 : updD D1 22 0 1 0 33 0 = D 33 0 := by rw [u22 33 0 (by decide)]; exact a7
    obtain ⟨e, b1, b2, b3, i', p', u', b4, b5⟩ := p_ldE hT1 s1
    have hfin : i = i' ∧ p = p' ∧ u = u' := Pth_fin l2 (Or.inl k1) b4 (by
      rcases b5 with w | ⟨_, st, w, _⟩
      · exact Or.inl w.1
      · exact Or.inr ⟨st, w⟩)
    obtain ⟨rfl, rfl, rfl⟩ := hfin
    rcases b5 with ⟨_, w1, w2, w3⟩ | ⟨w, _⟩
    · obtain ⟨D22, D23, D2, x1, x2, x3, x4, x5, x6, x7, x8, x9⟩ := ex_note2 hM1 (a6.fr (fun k hk => u22 k 0 (by omega))) b2 w3 b3 pg1
      have v32 : ∀ k b, k ≠ 32 → updD D2 32 0 4 0 k b = D2 k b := fun k b hk => updD_other _ _ _ (by omega)
      refine ⟨nI i, updD D1 22 0 1 0, updD D2 32 0 4 0, ?_, ?_, ?_⟩
      · rw [f_X9_load, eT, Option.bind_some]
        simp only
        rw [if_neg (show ¬ nI i < 0 from fun q => absurd ((nI_ltI (b := 0) (by omega) (by decide)).mp q) (by omega)), a1, Option.bind_some]
        rfl
      · rw [b1, x1, Option.bind_some, x4, if_pos w2, x2, Option.bind_some, x3, Option.bind_some, w1]
        rfl
      · refine ⟨by rw [v32 33 0 (by decide)]; exact x6, ?_, x5.fr ⟨fun k b k1 k2 k3 => v32 k b (by omega), v32 24 0 (by decide), by rw [updD_at, if_neg (by omega)], v32 34 0 (by decide)⟩, ⟨0, by omega, ?_, ?_, fun i hi => by omega⟩, hIE.2.2.2.2.fr ((hP1.tr x8).tr ⟨by rw [v32 27 0 (by decide)], v32 28 0 (by decide), v32 29 0 (by decide), v32 30 0 (by decide), by rw [updD_at, if_neg (by omega)], v32 39 0 (by decide)⟩)⟩
        · rw [v32 33 0 (by decide)]
          exact x7.fr (fun k hk => v32 k 0 (by omega))
        · rw [v32 22 0 (by decide), x9, updD_at, if_pos ⟨rfl, rfl, rfl⟩]
          rfl
        · rw [updD_at, if_pos ⟨rfl, rfl, rfl⟩]
          rfl
    · exact absurd k1 w
  · -- a wrong word
    subst k3
    have hst := itemI_l pg3 k2
    have hneg : ∀ m, m < 151 → (-10 : Int32) - nI m < 0 := by decide +kernel
    obtain ⟨e, b1, b2, b3, i', p', u', b4, b5⟩ := p_ldE hTrE e33
    have hfin : i = i' ∧ p = p' ∧ u = u' := Pth_fin l2 (Or.inr ⟨st, k2⟩) b4 (by
      rcases b5 with w | ⟨_, st, w, _⟩
      · exact Or.inl w.1
      · exact Or.inr ⟨st, w⟩)
    obtain ⟨rfl, rfl, rfl⟩ := hfin
    rcases b5 with ⟨w, _⟩ | ⟨_, st', w1, w2, w3⟩
    · exact absurd w k1
    · rw [k2] at w1
      cases w1
      have hx := p_exchanges (D := e.2)
      refine ⟨-10 - nI st, E, rowD (rowD e.2 33 0 (cpM (e.2 33 0) (e.2 36 0) 170)) 36 0 (cpM (e.2 36 0) (e.2 33 0) 170), ?_, ?_, ?_⟩
      · rw [f_X9_load, eT, Option.bind_some]
        simp only
        rw [if_pos (hneg st (by omega))]
      · have e32 : rowD (rowD e.2 33 0 (cpM (e.2 33 0) (e.2 36 0) 170)) 36 0 (cpM (e.2 36 0) (e.2 33 0) 170) 32 0 = e.2 32 0 := by rw [rowD_ne _ _ (by omega), rowD_ne _ _ (by omega)]
        rw [b1, hx, Option.bind_some, e32, if_neg (n14 w2), w3]
      · refine Inv_w hIE (b2.tr ((EqW.row (Or.inl rfl)).tr (EqW.row (Or.inr rfl)))) (fun j hj => ?_)
        rw [rowD_ne _ _ (by omega), rowD_at, cpM_lt hj, e33]
        exact b3 j hj
