/-! what holds between the calls -/
def RelP (D : Dt) (b : Nat) (s : Nat → Int32) : Prop := D 1 b 0 = s 3 ∧ D 1 b 1 = s 5 ∧ (∀ p, p < 4 → nI p < s 5 → D 2 b p = s (6 + 2 * p) ∧ D 3 b p = s (6 + 2 * p + 1)) ∧ ∀ n, n < 12 → D 4 b n = s (14 + 5 * n) ∧ D 6 b n = s (14 + 5 * n + 2) ∧ (s (14 + 5 * n) ≠ -1 → D 5 b n = s (14 + 5 * n + 1)) ∧ (s (14 + 5 * n + 2) ≠ -1 → D 7 b n = s (14 + 5 * n + 3) ∧ D 8 b n = s (14 + 5 * n + 4))
def RelH (D : Dt) (b : Nat) (s : Nat → Int32) : Prop := ∀ h, h < 16 → D 10 b h = s (74 + 6 * h) ∧ D 12 b h = s (74 + 6 * h + 2) ∧ D 14 b h = s (74 + 6 * h + 4) ∧ (s (74 + 6 * h) ≠ -1 → D 11 b h = s (74 + 6 * h + 1)) ∧ (s (74 + 6 * h + 2) ≠ -1 → D 13 b h = s (74 + 6 * h + 3)) ∧ (s (74 + 6 * h + 4) ≠ -1 → D 15 b h = s (74 + 6 * h + 5))
def RelT (D : Dt) (b : Nat) (s : Nat → Int32) : Prop := D 0 b 2 = s 0 ∧ D 0 b 3 = s 1 ∧ D 0 b 4 = s 2 ∧ D 0 b 5 = s 4
def RelS (D : Dt) (b : Nat) (s : Nat → Int32) : Prop := RelT D b s ∧ RelP D b s ∧ RelH D b s
def TimS (s : Nat → Int32) : Prop := (∃ T L O P : Nat, s 0 = nI T ∧ T ≤ 9999 ∧ s 1 = nI L ∧ L ≤ 500 ∧ s 2 = nI O ∧ O ≤ 500 ∧ s 3 = nI P ∧ P < 4) ∧ ∀ n, n < 12 → s (14 + 5 * n + 2) ≠ -1 → ∃ e, e < 10999 ∧ s (14 + 5 * n + 4) = nI e
def GeoS (s : Nat → Int32) : Prop := ∃ N po us, RV s us ∧ PoR s N po ∧ Geo N po us
def HoS (s : Nat → Int32) : Prop := ∀ h, h < 16 → (s (74 + 6 * h) = -1 ∨ ∃ n, n < 12 ∧ s (74 + 6 * h) = nI n ∧ s (14 + 5 * n) ≠ -1 ∧ (s (74 + 6 * h + 1) = 0 ∨ s (74 + 6 * h + 1) = 1)) ∧ (s (74 + 6 * h + 2) = -1 ∨ ∃ a u, a < 65536 ∧ u < 10999 ∧ s (74 + 6 * h + 2) = nI a ∧ s (74 + 6 * h + 3) = nI u) ∧ (s (74 + 6 * h + 4) = -1 ∨ ((∃ a u, a < 65536 ∧ u < 10999 ∧ s (74 + 6 * h + 4) = nI a ∧ s (74 + 6 * h + 5) = nI u) ∧ ∃ n, n < 12 ∧ s (74 + 6 * h) = nI n ∧ s (14 + 5 * n + 2) ≠ -1))
def Good (s : Nat → Int32) : Prop := TimS s ∧ GeoS s ∧ HoS s
theorem RelS.fr {D D' : Dt} {b : Nat} {s : Nat → Int32} (h : RelS D b s) (hE : ∀ k, k ≤ 15 → D' k b = D k b) : RelS D' b s := by
  unfold RelS RelT RelP RelH
  rw [hE 0 (by decide), hE 1 (by decide), hE 2 (by decide), hE 3 (by decide), hE 4 (by decide), hE 5 (by decide), hE 6 (by decide), hE 7 (by decide), hE 8 (by decide), hE 10 (by decide), hE 11 (by decide), hE 12 (by decide), hE 13 (by decide), hE 14 (by decide), hE 15 (by decide)]
  exact h
theorem RelP.fr {D D' : Dt} {b : Nat} {s : Nat → Int32} (h : RelP D b s) (hE : ∀ k, 1 ≤ k → k ≤ 8 → D' k b = D k b) : RelP D' b s := by
  unfold RelP
  rw [hE 1 (by decide) (by decide), hE 2 (by decide) (by decide), hE 3 (by decide) (by decide), hE 4 (by decide) (by decide), hE 5 (by decide) (by decide), hE 6 (by decide) (by decide), hE 7 (by decide) (by decide), hE 8 (by decide) (by decide)]
  exact h
theorem RelS_ext {D : Dt} {b : Nat} {s s' : Nat → Int32} (h : RelS D b s) (e : ∀ j, j < 170 → s' j = s j) : RelS D b s' := by
  obtain ⟨h1, h2, h3⟩ := h
  refine ⟨?_, ?_, ?_⟩
  · unfold RelT
    rw [e 0 (by decide), e 1 (by decide), e 2 (by decide), e 4 (by decide)]
    exact h1
  · refine ⟨by rw [e 3 (by decide)]; exact h2.1, by rw [e 5 (by decide)]; exact h2.2.1, fun p hp => ?_, fun n hn => ?_⟩
    · rw [e 5 (by decide), e (6 + 2 * p) (by omega), e (6 + 2 * p + 1) (by omega)]
      exact h2.2.2.1 p hp
    · rw [e (14 + 5 * n) (by omega), e (14 + 5 * n + 1) (by omega), e (14 + 5 * n + 2) (by omega), e (14 + 5 * n + 3) (by omega), e (14 + 5 * n + 4) (by omega)]
      exact h2.2.2.2 n hn
  · intro h hh
    rw [e (74 + 6 * h) (by omega), e (74 + 6 * h + 1) (by omega), e (74 + 6 * h + 2) (by omega), e (74 + 6 * h + 3) (by omega), e (74 + 6 * h + 4) (by omega), e (74 + 6 * h + 5) (by omega)]
    exact h3 h hh
theorem RV_ext {s s' : Nat → Int32} {us : Nat → Option (Nat × Nat)} (h : RV s us) (e : ∀ j, 14 ≤ j → j < 74 → s' j = s j) : RV s' us := by
  intro k hk
  have := bix_lt hk
  rw [e (bix k) (by simp only [bix]; omega) (by omega), e (bix k + 1) (by simp only [bix]; omega) (by omega)]
  exact h k hk
theorem PoR_ext {s s' : Nat → Int32} {N : Nat} {po : Nat → Nat × Nat} (h : PoR s N po) (hN : N ≤ 4) (e : ∀ j, 5 ≤ j → j < 14 → s' j = s j) : PoR s' N po := by
  refine ⟨by rw [e 5 (by decide) (by decide)]; exact h.1, fun p hp => ?_⟩
  rw [e (6 + 2 * p) (by omega) (by omega), e (6 + 2 * p + 1) (by omega) (by omega)]
  exact h.2 p hp
theorem GeoS_ext {s s' : Nat → Int32} (h : GeoS s) (e : ∀ j, 5 ≤ j → j < 74 → s' j = s j) : GeoS s' := by
  obtain ⟨N, po, us, h1, h2, h3⟩ := h
  exact ⟨N, po, us, RV_ext h1 (fun j h1 h2 => e j (by omega) h2), PoR_ext h2 h3.1 (fun j h1 h2 => e j h1 (by omega)), h3⟩
theorem TimS_ext {s s' : Nat → Int32} (h : TimS s) (e : ∀ j, j < 74 → s' j = s j) : TimS s' := by
  refine ⟨?_, fun n hn => ?_⟩
  · rw [e 0 (by decide), e 1 (by decide), e 2 (by decide), e 3 (by decide)]
    exact h.1
  · rw [e (14 + 5 * n + 2) (by omega), e (14 + 5 * n + 4) (by omega)]
    exact h.2 n hn
theorem HoS_ext {s s' : Nat → Int32} (h : HoS s) (e : ∀ j, 14 ≤ j → j < 170 → s' j = s j) : HoS s' := by
  intro i hi
  have e0 := e (74 + 6 * i) (by omega) (by omega)
  have e1 := e (74 + 6 * i + 1) (by omega) (by omega)
  have e2 := e (74 + 6 * i + 2) (by omega) (by omega)
  have e3 := e (74 + 6 * i + 3) (by omega) (by omega)
  have e4 := e (74 + 6 * i + 4) (by omega) (by omega)
  have e5 := e (74 + 6 * i + 5) (by omega) (by omega)
  obtain ⟨h1, h2, h3⟩ := h i hi
  rw [e0, e1, e2, e3, e4, e5]
  refine ⟨?_, h2, ?_⟩
  · rcases h1 with w | ⟨n, w1, w2, w3, w4⟩
    · exact Or.inl w
    · exact Or.inr ⟨n, w1, w2, by rw [e (14 + 5 * n) (by omega) (by omega)]; exact w3, w4⟩
  · rcases h3 with w | ⟨w0, n, w1, w2, w3⟩
    · exact Or.inl w
    · exact Or.inr ⟨w0, n, w1, w2, by rw [e (14 + 5 * n + 2) (by omega) (by omega)]; exact w3⟩
theorem Good_ext {s s' : Nat → Int32} (h : Good s) (e : ∀ j, j < 170 → s' j = s j) : Good s' := ⟨TimS_ext h.1 (fun j hj => e j (by omega)), GeoS_ext h.2.1 (fun j _ hj => e j (by omega)), HoS_ext h.2.2 (fun j _ hj => e j hj)⟩
theorem bix_e (n : Nat) : bix (2 * n) = 14 + 5 * n := by
  simp only [bix]
  omega
theorem bix_o (n : Nat) : bix (2 * n + 1) = 14 + 5 * n + 2 := by
  simp only [bix]
  omega
theorem RelP.spv {D : Dt} {b : Nat} {s : Nat → Int32} {us : Nat → Option (Nat × Nat)} (h : RelP D b s) (hV : RV s us) : SpV D b us := by
  intro n hn
  obtain ⟨h1, h2, h3, h4⟩ := h.2.2.2 n hn
  have v1 := hV (2 * n) (by omega)
  have v2 := hV (2 * n + 1) (by omega)
  rw [bix_e] at v1
  rw [bix_o] at v2
  constructor
  · cases hu : us (2 * n) with
    | none =>
      rw [hu] at v1
      exact h1.trans v1
    | some q =>
      rw [hu] at v1
      have hne : s (14 + 5 * n) ≠ -1 := by
        rw [v1.1]
        exact nI_nm1 (by have := v1.2.2.1; omega)
      exact ⟨h1.trans v1.1, (h3 hne).trans v1.2.1, v1.2.2⟩
  · cases hu : us (2 * n + 1) with
    | none =>
      rw [hu] at v2
      exact h2.trans v2
    | some q =>
      rw [hu] at v2
      have hne : s (14 + 5 * n + 2) ≠ -1 := by
        rw [v2.1]
        exact nI_nm1 (by have := v2.2.2.1; omega)
      exact ⟨h2.trans v2.1, ((h4 hne).1).trans v2.2.1, v2.2.2⟩
theorem RelP.pov {D : Dt} {b N : Nat} {s : Nat → Int32} {po : Nat → Nat × Nat} (h : RelP D b s) (hP : PoR s N po) (hN : N ≤ 4) : PoV D b N po := by
  refine ⟨h.2.1.trans hP.1, fun p hp => ?_⟩
  obtain ⟨h1, h2⟩ := h.2.2.1 p (by omega) (by rw [hP.1]; exact nI_lt hp (by omega))
  exact ⟨h1.trans (hP.2 p hp).1, h2.trans (hP.2 p hp).2⟩
/-! the kept states, the text, the plan -/
def pst (D : Dt) (i : Nat) : Nat → Int32 := fun j => D 34 0 (170 * i + j)
def HisR (D : Dt) : Prop := ∃ c nx, c ≤ 6 ∧ nx < 6 ∧ D 24 0 1 = nI nx ∧ D 24 0 2 = nI c ∧ D 32 0 2 = nI c ∧ ∀ i, i < c → Good (pst D i) ∧ RelS D (2 + (nx + 6 - c + i) % 6) (pst D i)
def HisM (D : Dt) (s : Nat → Int32) : Prop := ∃ c nx, c ≤ 6 ∧ nx < 6 ∧ D 24 0 1 = nI ((nx + 1) % 6) ∧ D 24 0 2 = nI (if c = 6 then 6 else c + 1) ∧ D 32 0 2 = nI c ∧ (∀ i, i < c → (c = 6 → 0 < i) → Good (pst D i) ∧ RelS D (2 + (nx + 6 - c + i) % 6) (pst D i)) ∧ Good s ∧ RelS D (2 + nx) s
def TxR (D : Dt) : Prop := ∃ n, n ≤ 150 ∧ D 22 0 1 = nI n ∧ D 32 0 4 = nI n ∧ ∀ i, i < n → ∃ c, c < 256 ∧ D 23 0 i = nI c ∧ (D 35 0 i &&& 255) = nI c
def PlR (D : Dt) : Prop := ∃ m, m ≤ 12 ∧ D 27 0 11 = nI m ∧ D 32 0 18 = nI m ∧ ∀ i, i < m → D 28 0 i = D 39 0 (3 * i) ∧ D 29 0 i = D 39 0 (3 * i + 1) ∧ D 30 0 i = D 39 0 (3 * i + 2)
def Inv (D : Dt) : Prop := Good (D 33 0) ∧ RelS D 0 (D 33 0) ∧ HisR D ∧ TxR D ∧ PlR D
def FH (D D' : Dt) : Prop := (∀ k b, k ≤ 15 → 2 ≤ b → b < 8 → D' k b = D k b) ∧ D' 24 0 = D 24 0 ∧ D' 32 0 2 = D 32 0 2 ∧ D' 34 0 = D 34 0
def FT (D D' : Dt) : Prop := D' 22 0 1 = D 22 0 1 ∧ D' 23 0 = D 23 0 ∧ D' 32 0 4 = D 32 0 4 ∧ D' 35 0 = D 35 0
def FP (D D' : Dt) : Prop := D' 27 0 11 = D 27 0 11 ∧ D' 28 0 = D 28 0 ∧ D' 29 0 = D 29 0 ∧ D' 30 0 = D 30 0 ∧ D' 32 0 18 = D 32 0 18 ∧ D' 39 0 = D 39 0
theorem FH.rf {D : Dt} : FH D D := ⟨fun _ _ _ _ _ => rfl, rfl, rfl, rfl⟩
theorem FT.rf {D : Dt} : FT D D := ⟨rfl, rfl, rfl, rfl⟩
theorem FP.rf {D : Dt} : FP D D := ⟨rfl, rfl, rfl, rfl, rfl, rfl⟩
theorem FH.tr {D D1 D2 : Dt} (h : FH D D1) (g : FH D1 D2) : FH D D2 := ⟨fun k b a1 a2 a3 => (g.1 k b a1 a2 a3).trans (h.1 k b a1 a2 a3), g.2.1.trans h.2.1, g.2.2.1.trans h.2.2.1, g.2.2.2.trans h.2.2.2⟩
theorem FT.tr {D D1 D2 : Dt} (h : FT D D1) (g : FT D1 D2) : FT D D2 := ⟨g.1.trans h.1, g.2.1.trans h.2.1, g.2.2.1.trans h.2.2.1, g.2.2.2.trans h.2.2.2⟩
theorem FP.tr {D D1 D2 : Dt} (h : FP D D1) (g : FP D1 D2) : FP D D2 := ⟨g.1.trans h.1, g.2.1.trans h.2.1, g.2.2.1.trans h.2.2.1, g.2.2.2.1.trans h.2.2.2.1, g.2.2.2.2.1.trans h.2.2.2.2.1, g.2.2.2.2.2.trans h.2.2.2.2.2⟩
theorem HisR.fr {D D' : Dt} (h : HisR D) (hF : FH D D') : HisR D' := by
  obtain ⟨c, nx, h1, h2, h3, h4, h5, h6⟩ := h
  refine ⟨c, nx, h1, h2, by rw [hF.2.1]; exact h3, by rw [hF.2.1]; exact h4, by rw [hF.2.2.1]; exact h5, fun i hi => ?_⟩
  have e : pst D' i = pst D i := by
    funext j
    exact congrFun hF.2.2.2 _
  rw [e]
  refine ⟨(h6 i hi).1, (h6 i hi).2.fr (fun k hk => hF.1 k _ hk (by omega) (by omega))⟩
theorem HisM.fr {D D' : Dt} {s : Nat → Int32} (h : HisM D s) (hF : FH D D') : HisM D' s := by
  obtain ⟨c, nx, h1, h2, h3, h4, h5, h6, h7, h8⟩ := h
  refine ⟨c, nx, h1, h2, by rw [hF.2.1]; exact h3, by rw [hF.2.1]; exact h4, by rw [hF.2.2.1]; exact h5, fun i hi hi2 => ?_, h7, h8.fr (fun k hk => hF.1 k _ hk (by omega) (by omega))⟩
  have e : pst D' i = pst D i := by
    funext j
    exact congrFun hF.2.2.2 _
  rw [e]
  refine ⟨(h6 i hi hi2).1, (h6 i hi hi2).2.fr (fun k hk => hF.1 k _ hk (by omega) (by omega))⟩
theorem TxR.fr {D D' : Dt} (h : TxR D) (hF : FT D D') : TxR D' := by
  obtain ⟨n, h1, h2, h3, h4⟩ := h
  refine ⟨n, h1, hF.1.trans h2, hF.2.2.1.trans h3, fun i hi => ?_⟩
  rw [hF.2.1, hF.2.2.2]
  exact h4 i hi
theorem PlR.fr {D D' : Dt} (h : PlR D) (hF : FP D D') : PlR D' := by
  obtain ⟨m, h1, h2, h3, h4⟩ := h
  refine ⟨m, h1, hF.1.trans h2, hF.2.2.2.2.1.trans h3, fun i hi => ?_⟩
  rw [hF.2.1, hF.2.2.1, hF.2.2.2.1, hF.2.2.2.2.2]
  exact h4 i hi
/-- rows of the class that only one call uses, and those of the state -/
def ZC : Nat → Nat → Prop := fun k b => (16 ≤ k ∧ k ≤ 21) ∨ (k ≤ 15 ∧ (b = 0 ∨ b = 1 ∨ b = 8))
def ZQ : Nat → Nat → Prop := fun k b => (16 ≤ k ∧ k ≤ 21) ∨ (k ≤ 15 ∧ (b = 1 ∨ b = 8))
theorem ZQ_ZC : ∀ k b, ZQ k b → ZC k b := fun k b h => by
  simp only [ZQ, ZC] at *
  omega
theorem SV_ZQ {b : Nat} : ∀ k b', SV b k b' → ZQ k b' := fun k b' h => Or.inl ⟨h.1, h.2.1⟩
theorem Eqx.FH {D D' : Dt} (h : Eqx ZC D D') : FH D D' := ⟨fun k b a1 a2 a3 => h k b (by simp only [ZC]; omega), h 24 0 (by simp [ZC]), by rw [h 32 0 (by simp [ZC])], h 34 0 (by simp [ZC])⟩
theorem Eqx.FT {D D' : Dt} (h : Eqx ZC D D') : FT D D' := ⟨by rw [h 22 0 (by simp [ZC])], h 23 0 (by simp [ZC]), by rw [h 32 0 (by simp [ZC])], h 35 0 (by simp [ZC])⟩
theorem Eqx.FP {D D' : Dt} (h : Eqx ZC D D') : FP D D' := ⟨by rw [h 27 0 (by simp [ZC])], h 28 0 (by simp [ZC]), h 29 0 (by simp [ZC]), h 30 0 (by simp [ZC]), by rw [h 32 0 (by simp [ZC])], h 39 0 (by simp [ZC])⟩
def JR : Nat → Prop := fun j => j ≠ 2 ∧ j ≠ 4 ∧ j ≠ 18
theorem J89_JR : ∀ j, J89 j → JR j := fun j h => by
  simp only [J89, JR] at *
  omega
theorem EqR.FH {D D' : Dt} (h : EqR JR D D') : FH D D' := ⟨fun k b a1 a2 a3 => h.1 k b (by omega) (by omega) (by omega), h.1 24 0 (by decide) (by decide) (by decide), h.2 2 (by simp [JR]), h.1 34 0 (by decide) (by decide) (by decide)⟩
theorem EqR.FT {D D' : Dt} (h : EqR JR D D') : FT D D' := ⟨by rw [h.1 22 0 (by decide) (by decide) (by decide)], h.1 23 0 (by decide) (by decide) (by decide), h.2 4 (by simp [JR]), h.1 35 0 (by decide) (by decide) (by decide)⟩
theorem EqR.FP {D D' : Dt} (h : EqR JR D D') : FP D D' := ⟨by rw [h.1 27 0 (by decide) (by decide) (by decide)], h.1 28 0 (by decide) (by decide) (by decide), h.1 29 0 (by decide) (by decide) (by decide), h.1 30 0 (by decide) (by decide) (by decide), h.2 18 (by simp [JR]), h.1 39 0 (by decide) (by decide) (by decide)⟩
/-- a call that only asks -/
theorem Inv_q {D D1 D2 : Dt} (h : Inv D) (h1 : Eqx ZQ D D1) (h2 : EqR JR D1 D2) : Inv D2 := by
  obtain ⟨a1, a2, a3, a4, a5⟩ := h
  have hc := h1.mono ZQ_ZC
  have e33 : D2 33 0 = D 33 0 := (h2.1 33 0 (by decide) (by decide) (by decide)).trans (h1 33 0 (by simp [ZQ]))
  refine ⟨by rw [e33]; exact a1, ?_, (a3.fr hc.FH).fr h2.FH, (a4.fr hc.FT).fr h2.FT, (a5.fr hc.FP).fr h2.FP⟩
  rw [e33]
  exact a2.fr (fun k hk => (h2.1 k 0 (by omega) (by omega) (by omega)).trans (h1 k 0 (by simp only [ZQ]; omega)))
