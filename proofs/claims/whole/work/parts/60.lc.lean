/-! a set-up's items keep a state good; the class's whole reading -/
theorem sIf_r {α β : Type} {P : Prop} {x : α ⊕ β} {a : α} {b : β} (h : sIf P x (Sum.inl a) = Sum.inr b) : P ∧ x = Sum.inr b := by
  by_cases c : P
  · rw [sIf_t c] at h
    exact ⟨c, h⟩
  · rw [sIf_f c] at h
    cases h
theorem semi_r {T : Nat → Nat} {n p p' : Nat} {u u' : Nat → Int32} (h : semi T n p u = Sum.inr (p', u')) : tkK T n p = 2 ∧ p' = tkE T n p ∧ u' = u := by
  rw [semi] at h
  obtain ⟨h1, h2⟩ := sIf_r h
  cases h2
  exact ⟨h1, rfl, rfl⟩
theorem semi_b {T : Nat → Nat} {n p p' : Nat} {u u' : Nat → Int32} (hp : p ≤ n) (h : semi T n p u = Sum.inr (p', u')) : p < p' ∧ p' ≤ n ∧ u' = u := by
  obtain ⟨h1, h2, h3⟩ := semi_r h
  obtain ⟨b1, b2, b3, b4⟩ := tk_b (T := T) hp
  have := b4 (by omega)
  exact ⟨by omega, by omega, h3⟩
theorem tk_lt {T : Nat → Nat} {n p : Nat} (hp : p ≤ n) (h : tkK T n p ≠ 1) : p < tkE T n p ∧ tkE T n p ≤ n := by
  obtain ⟨b1, b2, b3, b4⟩ := tk_b (T := T) hp
  have := b4 h
  omega
theorem poolI_good {T : Nat → Nat} {n st p p' : Nat} {u u' : Nat → Int32} (hG : Good u) (hp : p ≤ n) (h : poolI T n st p u = Sum.inr (p', u')) : Good u' ∧ p < p' ∧ p' ≤ n := by
  rw [poolI] at h
  by_cases c : 4 ≤ pnV' u
  · rw [sIf_t c] at h
    cases h
  · rw [sIf_f c] at h
    obtain ⟨c1, h⟩ := sIf_r h
    obtain ⟨⟨c2, c3, c4⟩, h⟩ := sIf_r h
    have b1 := tk_lt (T := T) hp (by have := c1.1; omega)
    have b2 := tk_lt (T := T) b1.2 (by have := c2.1; omega)
    obtain ⟨d1, d2, rfl⟩ := semi_b b2.2 h
    obtain ⟨us, hV, hP, hGe⟩ := GeoS_po hG.2.1
    obtain ⟨t1, t2, t3⟩ := hG
    have hg : tkV T n p ≤ 65535 := c1.2.2
    exact ⟨⟨t1.fx (apM_ne (by omega) (by omega) (by omega)) (apM_ne (by omega) (by omega) (by omega)) (apM_ne (by omega) (by omega) (by omega)) (apM_ne (by omega) (by omega) (by omega)) (fun j j1 j2 => apM_ne (by omega) (by omega) (by omega)), GeoS_ap hV hP hGe (by omega) c2.2.1 c2.2.2 (zz_al (by omega) c3) c3 (Bool.eq_false_iff.mpr c4), HoS_ext t3 (fun j j1 j2 => apM_ne (by omega) (by omega) (by omega))⟩, by omega, d2⟩
theorem netI_good {T : Nat → Nat} {n p p' : Nat} {u u' : Nat → Int32} (hG : Good u) (hp : p ≤ n) (h : netI T n p u = Sum.inr (p', u')) : Good u' ∧ p < p' ∧ p' ≤ n := by
  rw [netI] at h
  obtain ⟨⟨c1, c2⟩, h⟩ := sIf_r h
  obtain ⟨c3, h⟩ := sIf_r h
  have b1 := tk_lt (T := T) hp (by have := c1.1; omega)
  have b2 := tk_lt (T := T) b1.2 (by have := c3.1; omega)
  have hk : tkV T n p ≤ 11 := c1.2.2
  cases hpl : plF u (tkV T n (tkE T n p)) with
  | none =>
    rw [hpl] at h
    simp only [netJ] at h
    cases h
  | some g =>
    rw [hpl] at h
    simp only [netJ] at h
    obtain ⟨d1, d2, rfl⟩ := semi_b b2.2 h
    have hpc := plF_plac hG.2.1 hpl
    have hg := hpc.lt
    exact ⟨⟨TimS_pc hG.1 (by omega), GeoS_pc (by omega) c3.2.1 c3.2.2 hpc, HoS_pc hG.2.2 (by omega) hg⟩, by omega, d2⟩
theorem Good_hs {u : Nat → Int32} {i k q : Nat} (hG : Good u) (hi : i < 16) (hn : k < 12) (c4 : u (74 + 6 * i) = -1) (c5 : u (14 + 5 * k) ≠ -1) (hq : q ≤ 1) : Good (hsM u i k q) := by
  obtain ⟨g1, g2, g3⟩ := hG
  unfold hsM
  refine ⟨TimS_ext g1 (fun j j1 => by rw [pk_un (by omega), pk_un (by omega)]), GeoS_ext g2 (fun j j1 j2 => by rw [pk_un (by omega), pk_un (by omega)]), HoS_upd (k := i) g3 (fun j j1 j2 => by rw [pk_un (by omega), pk_un (by omega)]) (fun m p m1 m2 m3 => by rw [pk_un (by omega), pk_un (by omega)]) ?_⟩
  obtain ⟨k1, k2, k3⟩ := g3 i hi
  refine ⟨Or.inr ⟨k, hn, by rw [pk_un (by omega), pk_us], by rw [pk_un (by omega), pk_un (by omega)]; exact c5, ?_⟩, ?_, Or.inl ?_⟩
  · rw [pk_us]
    rcases (show q = 0 ∨ q = 1 by omega) with rfl | rfl
    · exact Or.inl rfl
    · exact Or.inr rfl
  · rw [pk_un (by omega), pk_un (by omega), pk_un (by omega), pk_un (by omega)]
    exact k2
  · rw [pk_un (by omega), pk_un (by omega)]
    rcases k3 with w | ⟨_, m, w1, w2, _⟩
    · exact w
    · rw [c4] at w2
      exact absurd w2.symm (nI_nm1 (by omega))
theorem hostI_good {T : Nat → Nat} {n p p' : Nat} {u u' : Nat → Int32} (hG : Good u) (hp : p ≤ n) (h : hostI T n p u = Sum.inr (p', u')) : Good u' ∧ p < p' ∧ p' ≤ n := by
  rw [hostI] at h
  obtain ⟨⟨c1, c2⟩, h⟩ := sIf_r h
  obtain ⟨⟨c3, c4⟩, h⟩ := sIf_r h
  have b1 := tk_lt (T := T) hp (by have := c1.1; omega)
  have b2 := tk_lt (T := T) b1.2 (by have := c3.1; omega)
  have hk : tkV T n p ≤ 15 := c1.2.2
  have hk2 : tkV T n (tkE T n p) ≤ 11 := c3.2.2
  by_cases c5 : tkK T n (tkE T n (tkE T n p)) = 7
  · rw [sIf_t c5] at h
    have b3 := tk_lt (T := T) b2.2 (by omega)
    obtain ⟨d1, d2, rfl⟩ := semi_b b3.2 h
    exact ⟨Good_hs hG (by omega) (by omega) c2 c4 (by omega), by omega, d2⟩
  · rw [sIf_f c5] at h
    obtain ⟨d1, d2, rfl⟩ := semi_b b2.2 h
    exact ⟨Good_hs hG (by omega) (by omega) c2 c4 (by omega), by omega, d2⟩
theorem polI_good {T : Nat → Nat} {n p p' : Nat} {u u' : Nat → Int32} (hG : Good u) (hp : p ≤ n) (h : polI T n p u = Sum.inr (p', u')) : Good u' ∧ p < p' ∧ p' ≤ n := by
  rw [polI] at h
  obtain ⟨c1, h⟩ := sIf_r h
  have b1 := tk_lt (T := T) hp (by have := c1.1; omega)
  obtain ⟨d1, d2, rfl⟩ := semi_b b1.2 h
  have hk : tkV T n p ≤ 3 := c1.2.2
  obtain ⟨g1, g2, g3⟩ := hG
  refine ⟨⟨⟨?_, ?_⟩, GeoS_ext g2 (fun j j1 j2 => pk_un (by omega)), HoS_ext g3 (fun j j1 j2 => pk_un (by omega))⟩, by omega, d2⟩
  · obtain ⟨T', L, O, P', t1, t2, t3, t4, t5, t6, t7, t8⟩ := g1.1
    exact ⟨T', L, O, tkV T n p, by rw [pk_un (by decide)]; exact t1, t2, by rw [pk_un (by decide)]; exact t3, t4, by rw [pk_un (by decide)]; exact t5, t6, pk_us, by omega⟩
  · intro m hm
    rw [pk_un (by omega), pk_un (by omega)]
    exact g1.2 m hm
theorem itemI_good {T : Nat → Nat} {n p p' : Nat} {u u' : Nat → Int32} (hG : Good u) (hp : p ≤ n) (h : itemI T n p u = Sum.inr (p', u')) : Good u' ∧ p + 2 ≤ p' ∧ p' ≤ n := by
  rw [itemI] at h
  by_cases c4 : tkK T n p = 4
  · rw [if_pos c4] at h
    have b := tk_lt hp (show tkK T n p ≠ 1 by omega)
    obtain ⟨r1, r2, r3⟩ := poolI_good hG b.2 h
    exact ⟨r1, by omega, r3⟩
  · rw [if_neg c4] at h
    by_cases c5 : tkK T n p = 5
    · rw [if_pos c5] at h
      have b := tk_lt hp (show tkK T n p ≠ 1 by omega)
      obtain ⟨r1, r2, r3⟩ := netI_good hG b.2 h
      exact ⟨r1, by omega, r3⟩
    · rw [if_neg c5] at h
      by_cases c6 : tkK T n p = 6
      · rw [if_pos c6] at h
        have b := tk_lt hp (show tkK T n p ≠ 1 by omega)
        obtain ⟨r1, r2, r3⟩ := hostI_good hG b.2 h
        exact ⟨r1, by omega, r3⟩
      · rw [if_neg c6] at h
        by_cases c8 : tkK T n p = 8
        · rw [if_pos c8] at h
          have b := tk_lt hp (show tkK T n p ≠ 1 by omega)
          obtain ⟨r1, r2, r3⟩ := polI_good hG b.2 h
          exact ⟨r1, by omega, r3⟩
        · rw [if_neg c8] at h
          cases h
/-- the place and the state after some items -/
def Pth (T : Nat → Nat) (n : Nat) (u0 : Nat → Int32) : Nat → Nat → (Nat → Int32) → Prop
  | 0, p, u => p = 0 ∧ u = u0
  | i + 1, p', u' => ∃ p u, Pth T n u0 i p u ∧ tkK T n p ≠ 1 ∧ itemI T n p u = Sum.inr (p', u')
theorem Pth_good {T : Nat → Nat} {n i p : Nat} {u0 u : Nat → Int32} (hG : Good u0) (h : Pth T n u0 i p u) : Good u ∧ 2 * i ≤ p ∧ p ≤ n := by
  induction i generalizing p u with
  | zero =>
    obtain ⟨rfl, rfl⟩ := h
    exact ⟨hG, by omega, by omega⟩
  | succ i ih =>
    obtain ⟨q, v, a, b, c⟩ := h
    obtain ⟨d1, d2, d3⟩ := ih a
    obtain ⟨r1, r2, r3⟩ := itemI_good d1 d3 c
    exact ⟨r1, by omega, r3⟩
theorem p_item {D D3 : Dt} {n p i : Nat} {T : Nat → Nat} {u : Nat → Int32} (hE : ECl D D3) (h : TXc D n T) (hC : CT D3 T n p) (hp : p ≤ n) (hR : RelS D3 1 u) (hG : Good u) (hi : i < 150) (hf : f_X8_readToken D = some D3) (hk : tkK T n p ≠ 1) : ∃ b D', l_X4_readText_20 (1, nI i, nI i, D) = some (Sum.inl (b01 b, nI (i + 1), nI (i + 1), D')) ∧ RdC D D' T n b (itemI T n p u) := by
  obtain ⟨b1, b2, b3, b4⟩ := tk_b (T := T) hp
  have hT3 := h.cl hE
  have h8 := tkK_le (T := T) (n := n) (p := p)
  simp only [l_X4_readText_20]
  rw [if_neg (show ¬ (150 : Int32) ≤ nI i from fun q => absurd ((nI_leI (a := 150) (by decide) (by omega)).mp q) (by omega)), if_neg (show ¬ (1 : Int32) = 0 by decide), hf, Option.bind_some, nI_1, hC.2.2.1, itemI]
  have er : ∀ {X : Option ((Int32 × Int32 × Int32 × Dt) ⊕ (Int32 × Dt))}, X = some (Sum.inl ((0 : Int32), nI (i + 1), nI (i + 1), D3)) → ∃ b D', X = some (Sum.inl (b01 b, nI (i + 1), nI (i + 1), D')) ∧ RdC D D' T n b (Sum.inl (tkS T n p)) := fun e => ⟨false, D3, e, RdC_err hE hC.2.1⟩
  rcases (show tkK T n p = 0 ∨ tkK T n p = 2 ∨ tkK T n p = 3 ∨ tkK T n p = 4 ∨ tkK T n p = 5 ∨ tkK T n p = 6 ∨ tkK T n p = 7 ∨ tkK T n p = 8 by omega) with c | c | c | c | c | c | c | c
  · rw [c, if_neg (show ¬ (0 : Nat) = 4 by decide), if_neg (show ¬ (0 : Nat) = 5 by decide), if_neg (show ¬ (0 : Nat) = 6 by decide), if_neg (show ¬ (0 : Nat) = 8 by decide)]
    exact er (by rw [if_neg (by decide), if_neg (by decide), if_neg (by decide), if_neg (by decide), if_neg (by decide), if_neg (by decide), if_neg (by decide), if_neg (by decide)])
  · rw [c, if_neg (show ¬ (2 : Nat) = 4 by decide), if_neg (show ¬ (2 : Nat) = 5 by decide), if_neg (show ¬ (2 : Nat) = 6 by decide), if_neg (show ¬ (2 : Nat) = 8 by decide)]
    exact er (by rw [if_neg (by decide), if_pos (by decide)])
  · rw [c, if_neg (show ¬ (3 : Nat) = 4 by decide), if_neg (show ¬ (3 : Nat) = 5 by decide), if_neg (show ¬ (3 : Nat) = 6 by decide), if_neg (show ¬ (3 : Nat) = 8 by decide)]
    exact er (by rw [if_neg (by decide), if_neg (by decide), if_pos (by decide)])
  · obtain ⟨b, D4, e1, e2⟩ := p_readPool hT3 hC.1 hC.2.1 b3 hR hG.2.1
    rw [c, if_pos (show (4 : Nat) = 4 from rfl)]
    refine ⟨b, D4, ?_, e2.pre hE⟩
    rw [if_neg (by decide), if_neg (by decide), if_neg (by decide), if_pos (by decide), e1, Option.bind_some]
  · obtain ⟨b, D4, e1, e2⟩ := p_readNet hT3 hC.1 b3 hR hG
    rw [c, if_neg (show ¬ (5 : Nat) = 4 by decide), if_pos (show (5 : Nat) = 5 from rfl)]
    refine ⟨b, D4, ?_, e2.pre hE⟩
    rw [if_neg (by decide), if_neg (by decide), if_neg (by decide), if_neg (by decide), if_pos (by decide), e1, Option.bind_some]
  · obtain ⟨b, D4, e1, e2⟩ := p_readHost hT3 hC.1 b3 hR
    rw [c, if_neg (show ¬ (6 : Nat) = 4 by decide), if_neg (show ¬ (6 : Nat) = 5 by decide), if_pos (show (6 : Nat) = 6 from rfl)]
    refine ⟨b, D4, ?_, e2.pre hE⟩
    rw [if_neg (by decide), if_neg (by decide), if_neg (by decide), if_neg (by decide), if_neg (by decide), if_pos (by decide), e1, Option.bind_some]
  · rw [c, if_neg (show ¬ (7 : Nat) = 4 by decide), if_neg (show ¬ (7 : Nat) = 5 by decide), if_neg (show ¬ (7 : Nat) = 6 by decide), if_neg (show ¬ (7 : Nat) = 8 by decide)]
    exact er (by rw [if_neg (by decide), if_neg (by decide), if_neg (by decide), if_neg (by decide), if_neg (by decide), if_neg (by decide), if_pos (by decide)])
  · obtain ⟨b, D4, e1, e2⟩ := p_readPolicy hT3 hC.1 b3 hR
    rw [c, if_neg (show ¬ (8 : Nat) = 4 by decide), if_neg (show ¬ (8 : Nat) = 5 by decide), if_neg (show ¬ (8 : Nat) = 6 by decide), if_pos (show (8 : Nat) = 8 from rfl)]
    refine ⟨b, D4, ?_, e2.pre hE⟩
    rw [if_neg (by decide), if_neg (by decide), if_neg (by decide), if_neg (by decide), if_neg (by decide), if_neg (by decide), if_neg (by decide), if_pos (by decide), e1, Option.bind_some]
/-- how a reading ends -/
def LdQ (T : Nat → Nat) (n : Nat) (u0 : Nat → Int32) (D : Dt) (e : Int32 × Dt) : Prop := ∃ i p u, Pth T n u0 i p u ∧ ECl D e.2 ∧ ((tkK T n p = 1 ∧ e.1 = nI i ∧ RelS e.2 1 u) ∨ (tkK T n p ≠ 1 ∧ ∃ st, itemI T n p u = Sum.inl st ∧ e.1 = -10 - nI st))
def LdI (T : Nat → Nat) (n : Nat) (u0 : Nat → Int32) (D : Dt) (i : Nat) (z : Int32 × Int32 × Int32 × Dt) : Prop := (∃ p u, z.1 = 1 ∧ z.2.1 = nI i ∧ z.2.2.1 = nI i ∧ Pth T n u0 i p u ∧ z.2.2.2 22 0 2 = nI p ∧ RelS z.2.2.2 1 u ∧ ECl D z.2.2.2) ∨ (z.1 = 0 ∧ ∃ i' p u st, Pth T n u0 i' p u ∧ tkK T n p ≠ 1 ∧ itemI T n p u = Sum.inl st ∧ z.2.2.2 22 0 4 = nI st ∧ ECl D z.2.2.2)
theorem p_ldC {D : Dt} {n : Nat} {T : Nat → Nat} {u0 : Nat → Int32} (h : TXc D n T) (h2 : D 22 0 2 = nI 0) (hR : RelS D 1 u0) (hG : Good u0) : ∃ e, lp l_X4_readText_20 FU ((1 : Int32), (0 : Int32), (0 : Int32), D) = some e ∧ LdQ T n u0 D e := by
  have hn := h.2.1
  refine lp_n (LdI T n u0 D) (LdQ T n u0 D) 150 (Or.inl ⟨0, u0, rfl, rfl, rfl, ⟨rfl, rfl⟩, h2, hR, ECl.rf⟩) (by decide) ?_
  rintro i ⟨z1, z2, z3, Dz⟩ hi (⟨p, u, q1, q2, q3, q4, q5, q6, q7⟩ | ⟨q1, i', p, u, st, q2, q3, q4, q5, q6⟩)
  · simp only at q1 q2 q3 q5 q6 q7
    subst q1 q2 q3
    obtain ⟨g1, g2, g3⟩ := Pth_good hG q4
    have hTz := h.cl q7
    obtain ⟨D3, a1, a2, a3⟩ := p_readToken hTz q5 g3
    have hE3 := ECl.t a3
    by_cases c : tkK T n p = 1
    · right
      refine ⟨(nI i, D3), ?_, i, p, u, q4, q7.tr hE3, Or.inl ⟨c, rfl, q6.fr (fun k hk => a3.1 k 1 (by omega))⟩⟩
      simp only [l_X4_readText_20]
      rw [if_neg (show ¬ (150 : Int32) ≤ nI i from fun q => absurd ((nI_leI (a := 150) (by decide) (by omega)).mp q) (by omega)), if_neg (show ¬ (1 : Int32) = 0 by decide), a1, Option.bind_some, a2.2.2.1, c, if_pos (by decide)]
    · left
      obtain ⟨b, D4, e1, e2⟩ := p_item (i := i) hE3 hTz a2 g3 (q6.fr (fun k hk => a3.1 k 1 (by omega))) g1 (by omega) a1 c
      refine ⟨by omega, _, e1, ?_⟩
      cases hit : itemI T n p u with
      | inl st =>
        obtain ⟨r1, r2⟩ := e2.2.1 st hit
        subst r1
        exact Or.inr ⟨rfl, i, p, u, st, q4, c, hit, r2, q7.tr e2.1⟩
      | inr w =>
        obtain ⟨p', u'⟩ := w
        obtain ⟨r1, r2, r3⟩ := e2.2.2 p' u' hit
        subst r1
        exact Or.inl ⟨p', u', rfl, rfl, rfl, ⟨p, u, q4, c, hit⟩, r2, r3, q7.tr e2.1⟩
  · right
    simp only at q1 q5 q6
    subst q1
    refine ⟨(-10 - nI st, Dz), ?_, i', p, u, q2, q6, Or.inr ⟨q3, st, q4, rfl⟩⟩
    simp only [l_X4_readText_20]
    rw [if_pos trivial, q5]
    by_cases c : (150 : Int32) ≤ z3
    · rw [if_pos c]
    · rw [if_neg c]
