/-! loops by a counter -/
theorem lp_nf {σ ε : Type} {f : σ → Option (σ ⊕ ε)} (I : Nat → σ → Prop) (Q : ε → Prop) (n : Nat) (h : ∀ i s, i ≤ n → I i s → (i < n ∧ ∃ t, f s = some (Sum.inl t) ∧ I (i + 1) t) ∨ ∃ e, f s = some (Sum.inr e) ∧ Q e) : ∀ (d i N : Nat) (s : σ), i + d = n → d < N → I i s → ∃ e, lp f N s = some e ∧ Q e := by
  intro d
  induction d with
  | zero =>
    intro i N s hi hN hI
    cases N with
    | zero => omega
    | succ N =>
      rcases h i s (by omega) hI with ⟨w, _⟩ | ⟨e, h1, h2⟩
      · omega
      · exact ⟨e, by rw [lp, h1], h2⟩
  | succ d ih =>
    intro i N s hi hN hI
    cases N with
    | zero => omega
    | succ N =>
      rcases h i s (by omega) hI with ⟨_, t, h1, h2⟩ | ⟨e, h1, h2⟩
      · obtain ⟨e, h3, h4⟩ := ih (i + 1) N t (by omega) (by omega) h2
        exact ⟨e, by rw [lp, h1]; exact h3, h4⟩
      · exact ⟨e, by rw [lp, h1], h2⟩
theorem lp_n {σ ε : Type} {f : σ → Option (σ ⊕ ε)} (I : Nat → σ → Prop) (Q : ε → Prop) (n : Nat) {s : σ} (hs : I 0 s) (hn : n < 100000) (h : ∀ i s, i ≤ n → I i s → (i < n ∧ ∃ t, f s = some (Sum.inl t) ∧ I (i + 1) t) ∨ ∃ e, f s = some (Sum.inr e) ∧ Q e) : ∃ e, lp f FU s = some e ∧ Q e := lp_nf I Q n h n 0 FU s (by omega) (FU_big hn) hs
def itN {α : Type} (F : Nat → α → α) : Nat → α → α
  | 0, a => a
  | n + 1, a => F n (itN F n a)
theorem itN_congr {α : Type} {F G : Nat → α → α} : ∀ (n : Nat) (a : α), (∀ i x, i < n → F i x = G i x) → itN F n a = itN G n a := by
  intro n
  induction n with
  | zero => intro a _; rfl
  | succ n ih =>
    intro a h
    simp only [itN]
    rw [ih a (fun i x hi => h i x (by omega)), h n _ (by omega)]
/-- a counter last, something gathered first -/
theorem lp_a {α ε : Type} {f : α × Int32 → Option ((α × Int32) ⊕ ε)} (F : Nat → α → α) (n : Nat) (a : α) (e : ε) (hn : n < 100000) (hs : ∀ i, i < n → f (itN F i a, nI i) = some (Sum.inl (F i (itN F i a), nI i + 1))) (he : f (itN F n a, nI n) = some (Sum.inr e)) : lp f FU (a, (0 : Int32)) = some e := by
  apply lp_to (fun i => (itN F i a, nI i)) n
  · rfl
  · exact FU_big hn
  · intro i hi
    have := hs i hi
    rw [nI_1] at this
    exact this
  · exact he
theorem g4 {i : Nat} (h : i < 4) : ¬ (4 : Int32) ≤ nI i := nI_ge (b := 4) h (by decide)
theorem g12 {i : Nat} (h : i < 12) : ¬ (12 : Int32) ≤ nI i := nI_ge (b := 12) h (by decide)
theorem g16 {i : Nat} (h : i < 16) : ¬ (16 : Int32) ≤ nI i := nI_ge (b := 16) h (by decide)
theorem g17 {i : Nat} (h : i < 17) : ¬ (17 : Int32) ≤ nI i := nI_ge (b := 17) h (by decide)
theorem g24 {i : Nat} (h : i < 24) : ¬ (24 : Int32) ≤ nI i := nI_ge (b := 24) h (by decide)
theorem g150 {i : Nat} (h : i < 150) : ¬ (150 : Int32) ≤ nI i := nI_ge (b := 150) h (by decide)
theorem g170 {i : Nat} (h : i < 170) : ¬ (170 : Int32) ≤ nI i := nI_ge (b := 170) h (by decide)
theorem g292 {i : Nat} (h : i < 292) : ¬ (292 : Int32) ≤ nI i := nI_ge (b := 292) h (by decide)
theorem g850 {i : Nat} (h : i < 850) : ¬ (850 : Int32) ≤ nI i := nI_ge (b := 850) h (by decide)
/-! Survey.take -/
def PoV (D : Dt) (b N : Nat) (po : Nat → Nat × Nat) : Prop := D 1 b 1 = nI N ∧ ∀ p, p < N → D 2 b p = nI (po p).1 ∧ D 3 b p = nI (po p).2
def SV (b : Nat) : Nat → Nat → Prop := fun k b' => 16 ≤ k ∧ k ≤ 21 ∧ b' = b
theorem SV_SU {b : Nat} : ∀ k b', SU b k b' → SV b k b' := fun k b' h => ⟨by have := h.1; omega, by have := h.1; omega, h.2⟩
theorem SV_SB {b : Nat} : ∀ k b', SB b k b' → SV b k b' := fun k b' h => ⟨by have := h.1; omega, by have := h.1; omega, h.2⟩
theorem PoV.eqv {D D' : Dt} {b b1 N : Nat} {po : Nat → Nat × Nat} (h : PoV D b1 N po) (hE : Eqx (SV b) D D') : PoV D' b1 N po := by
  have e1 := hE 1 b1 (fun q => by have := q.1; omega)
  have e2 := hE 2 b1 (fun q => by have := q.1; omega)
  have e3 := hE 3 b1 (fun q => by have := q.1; omega)
  unfold PoV
  rw [e1, e2, e3]
  exact h
theorem p_take {D : Dt} {b b1 N : Nat} {po : Nat → Nat × Nat} {us : Nat → Option (Nat × Nat)} (hS : SpV D b1 us) (hP : PoV D b1 N po) (hG : Geo N po us) : ∃ D' ls, f_X7_take b b1 D = some D' ∧ FLs N po us ls ∧ BL D' b (cat ls N) ∧ Eqx (SV b) D D' := by
  obtain ⟨D1, n, wB, wE, e1, hUS, hUd, hE1⟩ := p_listUsed (b := b) hS hG.2.2.2.2
  have hL : FLs N po us (fun p => freeP (po p).1 ((po p).1 + zz (po p).2) n wB wE) := fun p hp => freeP_seg hUd hG.2.2.2.2 (hG.hin hp) (hG.2.1 p hp).2.2.1 (by have := (hG.2.1 p hp).2.1; omega)
  have hbd := cat_bound hG hL
  have hE2 : Eqx (SB b) D1 (updD D1 19 b 2 0) := Eqx.upd ⟨Or.inl rfl, rfl⟩
  have hw : ∀ i, i < n → wB i ≤ 65536 ∧ wE i ≤ 65536 := by
    intro i hi
    obtain ⟨k, l, a1, a2, a3⟩ := hUd.2.2.1 i hi
    obtain ⟨_, _, _, p, w1, w2, w3⟩ := hG.2.2.2.1 k _ l a1 a2
    have := (hG.2.1 p w1).2.2.2
    omega
  have hN := hG.1
  have key : ∃ e, lp (l_X7_take_15 b b1) FU ((0 : Int32), updD D1 19 b 2 0) = some e ∧ (BL e b (cat (fun p => freeP (po p).1 ((po p).1 + zz (po p).2) n wB wE) N) ∧ Eqx (SB b) D1 e) := by
    apply lp_n (fun i s => s.1 = nI i ∧ BL s.2 b (cat (fun p => freeP (po p).1 ((po p).1 + zz (po p).2) n wB wE) i) ∧ Eqx (SB b) D1 s.2) _ N
    · exact ⟨rfl, ⟨by simp [updD, cat]; rfl, fun i x y h => by simp [cat] at h⟩, hE2⟩
    · omega
    · rintro i ⟨x, E⟩ hi ⟨ex, hB, hE⟩
      simp only at ex hB hE
      subst ex
      have hPE : PoV E b1 N po := hP.eqv ((hE1.mono SV_SU).tr (hE.mono SV_SB))
      simp only [l_X7_take_15]
      by_cases h1 : i = N
      · right
        subst h1
        by_cases h2 : i = 4
        · subst h2
          exact ⟨_, by rw [if_pos (by decide)], hB, hE⟩
        · exact ⟨_, by rw [if_neg (g4 (by omega)), if_pos (by rw [hPE.1]; exact nI_le (Nat.le_refl _) (by omega))], hB, hE⟩
      · left
        have hiN : i < N := by omega
        obtain ⟨p1, p2, p3, p4⟩ := hG.2.1 i hiN
        have hz := zz_pos (po i).2
        refine ⟨hiN, ?_⟩
        rw [if_neg (g4 (by omega)), hPE.1, if_neg (nI_ge hiN (by omega)), rd_at rfl (show i < 4 by omega) (by decide), rd_at rfl (show i < 4 by omega) (by decide), (hPE.2 i hiN).1, (hPE.2 i hiN).2, sizeOf_eq (by omega), Option.bind_some, nI_add]
        obtain ⟨D', c1, c2, c3⟩ := p_listFree (pb := (po i).1) (pe := (po i).1 + zz (po i).2) (hUS.eqb hE) hUd.1 (fun j hj => (hw j hj).1) (fun j hj => (hw j hj).2) (by omega) p4 (by omega) hB (by
          obtain ⟨r, hr⟩ := cat_le (ls := fun p => freeP (po p).1 ((po p).1 + zz (po p).2) n wB wE) (m := i + 1) N (by omega)
          rw [hr, List.length_append] at hbd
          simp only [cat] at hbd
          omega)
        rw [c1, Option.bind_some, nI_1]
        exact ⟨_, rfl, rfl, c2, hE.tr c3⟩
  obtain ⟨e, h1, h2, h3⟩ := key
  refine ⟨e, _, ?_, hL, h2, (hE1.mono SV_SU).tr (h3.mono SV_SB)⟩
  simp only [f_X7_take, pu]
  rw [e1, Option.bind_some]
  rw [h1, Option.bind_some]
