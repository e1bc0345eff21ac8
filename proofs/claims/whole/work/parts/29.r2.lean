/-! the reference: free blocks -/
theorem if_z {α : Type} {n : Nat} {x y : α} (h : n < 2 ^ 31) : (if nI n = 0 then x else y) = if n = 0 then x else y := if_eq (b := 0) h (by decide)
theorem if_le0 {α : Type} {n : Nat} {x y : α} (h : n < 2 ^ 31) : (if nI n ≤ 0 then x else y) = if n = 0 then x else y := by
  by_cases w : n = 0
  · subst w
    rfl
  · rw [if_neg w, if_neg (nI_nle (by omega) h)]
theorem gd_z {β : Type} {m : Nat} (F : Option β) : gd (decide (¬ nI (zz m) = 0)) F = F := by
  rw [decide_eq_true (nI_ne0 (zz_pos m) (by have := zz_le m; omega))]
  rfl
def sz : List (Nat × Nat) → Nat
  | [] => 0
  | q :: r => zz q.2 + sz r
theorem sz_app : ∀ (l r : List (Nat × Nat)), sz (l ++ r) = sz l + sz r := by
  intro l r
  induction l with
  | nil => simp [sz]
  | cons q l ih => simp only [List.cons_append, sz]; rw [ih]; omega
def BR (D : Dt) (l : List (Nat × Nat)) : Prop := D 32 0 8 = nI l.length ∧ D 32 0 9 = nI (sz l) ∧ ∀ i x y, l[i]? = some (x, y) → D 37 0 i = nI x ∧ D 38 0 i = nI y
def EqR (J : Nat → Prop) (D D' : Dt) : Prop := (∀ k b, k ≠ 37 → k ≠ 38 → k ≠ 32 → D' k b = D k b) ∧ ∀ j, ¬ J j → D' 32 0 j = D 32 0 j
theorem EqR.rf {J : Nat → Prop} {D : Dt} : EqR J D D := ⟨fun _ _ _ _ _ => rfl, fun _ _ => rfl⟩
theorem EqR.tr {J : Nat → Prop} {D D1 D2 : Dt} (h1 : EqR J D D1) (h2 : EqR J D1 D2) : EqR J D D2 := ⟨fun k b a1 a2 a3 => (h2.1 k b a1 a2 a3).trans (h1.1 k b a1 a2 a3), fun j hj => (h2.2 j hj).trans (h1.2 j hj)⟩
theorem EqR.mono {J K : Nat → Prop} {D D' : Dt} (h : EqR J D D') (hJ : ∀ j, J j → K j) : EqR K D D' := ⟨h.1, fun j hj => h.2 j (fun q => hj (hJ j q))⟩
theorem EqR.u {J : Nat → Prop} {D : Dt} {j : Nat} {x : Int32} (h : J j) : EqR J D (updD D 32 0 j x) := by
  refine ⟨fun k b _ _ a3 => updD_other D j x (fun q => a3 q.1), fun i hi => ?_⟩
  rw [updD_at, if_neg]
  rintro ⟨_, _, rfl⟩
  exact hi h
theorem EqR.w {J : Nat → Prop} {D : Dt} {k i : Nat} {x : Int32} (h : k = 37 ∨ k = 38) : EqR J D (updD D k 0 i x) := by
  refine ⟨fun k' b a1 a2 _ => updD_other D i x (fun q => by omega), fun j _ => ?_⟩
  rw [updD_at, if_neg (by omega)]
def J89 : Nat → Prop := fun j => j = 8 ∨ j = 9
theorem p_ff51_free {D : Dt} {us : Nat → Option (Nat × Nat)} {a l pl : Nat} (hV : RV (D 33 0) us) (ha : a < 65536) (hM : Mx (Fr us) pl a l) : lp (l_X10_findsFree_51 (nI a, D)) FU (nI pl) = some (nI l) := by
  obtain ⟨m1, m2, m3, m4, m5⟩ := hM
  have key : ∃ e, lp (l_X10_findsFree_51 (nI a, D)) FU (nI pl) = some e ∧ e = nI l := by
    apply lp_n (fun i s => s = nI (pl + i) ∧ pl + i ≤ l) _ (l - pl)
    · exact ⟨rfl, m1⟩
    · omega
    · rintro i s hi ⟨rfl, hl⟩
      have hz := zz_le (pl + i)
      have hzp := zz_pos (pl + i)
      have hb := sov_le us a (a + zz (pl + i)) 24
      simp only [l_X10_findsFree_51]
      rw [if_neg (g17 (by omega)), size_eq (by omega), Option.bind_some, gd_z, pk_rem (by omega) hzp (by omega), if_z (by have := Nat.mod_le a (zz (pl + i)); omega)]
      by_cases w : pl + i = l
      · right
        rw [w] at hz hzp hb
        rw [w, if_pos m3, p_assignedIn hV (by omega) m2, Option.bind_some, if_le0 (by omega), if_pos ((sov_0 (by omega)).mpr m4)]
        exact ⟨_, rfl, rfl⟩
      · left
        refine ⟨by omega, nI (pl + (i + 1)), ?_, rfl, by omega⟩
        by_cases w2 : a % zz (pl + i) = 0
        · rw [if_pos w2, p_assignedIn hV (by omega) (by omega), Option.bind_some, if_le0 (by omega), if_neg, nI_1]
          · rfl
          · intro w3
            exact m5 (pl + i) a (by omega) (by omega) w2 (Nat.le_refl _) (by omega) ((sov_0 (by omega)).mp w3)
        · rw [if_neg w2, nI_1]
          rfl
  obtain ⟨e, h1, h2⟩ := key
  rw [h1, h2]
theorem p_ff51_used {D : Dt} {us : Nat → Option (Nat × Nat)} {a pl : Nat} (hV : RV (D 33 0) us) (ha : a < 65536) (hpl : pl ≤ 17) (hA : Au us a) : lp (l_X10_findsFree_51 (nI a, D)) FU (nI pl) = some (nI 17) := by
  have key : ∃ e, lp (l_X10_findsFree_51 (nI a, D)) FU (nI pl) = some e ∧ e = nI 17 := by
    apply lp_n (fun i s => s = nI (pl + i) ∧ pl + i ≤ 17) _ (17 - pl)
    · exact ⟨rfl, hpl⟩
    · omega
    · rintro i s hi ⟨rfl, hl⟩
      have hz := zz_le (pl + i)
      have hzp := zz_pos (pl + i)
      have hb := sov_le us a (a + zz (pl + i)) 24
      simp only [l_X10_findsFree_51]
      by_cases w : pl + i = 17
      · right
        rw [w]
        exact ⟨_, by rw [if_pos (by decide)], rfl⟩
      · left
        rw [if_neg (g17 (by omega)), size_eq (by omega), Option.bind_some, gd_z, pk_rem (by omega) hzp (by omega), if_z (by have := Nat.mod_le a (zz (pl + i)); omega)]
        refine ⟨by omega, nI (pl + (i + 1)), ?_, rfl, by omega⟩
        by_cases w2 : a % zz (pl + i) = 0
        · rw [if_pos w2, p_assignedIn hV (by omega) (by omega), Option.bind_some, if_le0 (by omega), if_neg, nI_1]
          · rfl
          · intro w3
            exact (sov_0 (by omega)).mp w3 a (Nat.le_refl _) (by omega) hA
        · rw [if_neg w2, nI_1]
          rfl
  obtain ⟨e, h1, h2⟩ := key
  rw [h1, h2]
theorem p_behind {D : Dt} {us : Nat → Option (Nat × Nat)} {a : Nat} (hV : RV (D 33 0) us) (ha : a < 65536) : ∃ r, f_X10_behind (nI a) D = some (nI r) ∧ a < r ∧ r ≤ 131072 ∧ ∀ y, a < y → y < r → Au us y := by
  have key : ∃ e, lp (l_X10_behind_6 (nI a) D) FU (nI a + (1 : Int32), (0 : Int32)) = some e ∧ ∃ r, e = nI r ∧ a < r ∧ r ≤ 131072 ∧ ∀ y, a < y → y < r → Au us y := by
    apply lp_n (fun k s => ∃ r, s = (nI r, nI k) ∧ a < r ∧ r ≤ 131072 ∧ ∀ y, a < y → y < r → Au us y) _ 24
    · exact ⟨a + 1, by rw [nI_1]; rfl, by omega, by omega, fun y h1 h2 => by omega⟩
    · decide
    · rintro k s hk ⟨r, rfl, h1, h2, h3⟩
      simp only [l_X10_behind_6]
      by_cases w : k = 24
      · right
        subst w
        exact ⟨_, by rw [if_pos (by decide)], r, rfl, h1, h2, h3⟩
      · left
        have hk2 : k < 24 := by omega
        refine ⟨hk2, ?_⟩
        rw [if_neg (g24 hk2), blockAt_eq hk2, Option.bind_some]
        have hob := hV k hk2
        cases hu : us k with
        | none =>
          rw [hu] at hob
          rw [show D 33 0 (bix k) = -1 from hob, if_pos (by decide), nI_1]
          exact ⟨_, rfl, r, rfl, h1, h2, h3⟩
        | some q =>
          obtain ⟨g, m⟩ := q
          rw [hu] at hob
          obtain ⟨o1, o2, o3, o4⟩ := hob
          simp only at o1 o2 o3 o4
          have hzm := zz_le m
          rw [o1, if_neg (nI_pos (by omega)), if_lt (by omega) (by omega)]
          by_cases w1 : a < g
          · rw [if_pos w1, nI_1]
            exact ⟨_, rfl, r, rfl, h1, h2, h3⟩
          · rw [if_neg w1, lengthAt_eq hk2, Option.bind_some, o2, size_eq o4, Option.bind_some, nI_add, if_le (by omega) (by omega)]
            by_cases w2 : g + zz m ≤ a
            · rw [if_pos w2, nI_1]
              exact ⟨_, rfl, r, rfl, h1, h2, h3⟩
            · rw [if_neg w2, Option.bind_some, size_eq o4, Option.bind_some, nI_add, nI_1]
              exact ⟨_, rfl, g + zz m, rfl, by omega, by omega, fun y y1 y2 => ⟨k, g, m, hk2, hu, by omega, y2⟩⟩
  obtain ⟨e, h1, r, rfl, h2⟩ := key
  exact ⟨r, by rw [f_X10_behind, h1, Option.bind_some], h2⟩
theorem p_findsFree {D : Dt} {us : Nat → Option (Nat × Nat)} {p pb pl : Nat} {l0 r0 : List (Nat × Nat)} (hV : RV (D 33 0) us) (hp : p < 4) (h1 : D 33 0 (6 + 2 * p) = nI pb) (h2 : D 33 0 (6 + 2 * p + 1) = nI pl) (hpl : pl ≤ 16) (hpe : pb + zz pl ≤ 65536) (hS : FSeg (Fr us) pl r0 pb (pb + zz pl)) (hB : BR D l0) (hn : (l0 ++ r0).length ≤ 800) : ∃ D', f_X10_findsFree (nI p) D = some D' ∧ BR D' (l0 ++ r0) ∧ EqR J89 D D' := by
  have hz := zz_pos pl
  have i1 : (6 : Int32) + (2 : Int32) * nI p = nI (6 + 2 * p) := by
    rw [show (6 : Int32) = nI 6 from rfl, show (2 : Int32) = nI 2 from rfl, pk_mul, nI_add]
  have key : ∃ e, lp (l_X10_findsFree_31 (nI p) (nI pb) (nI (zz pl))) FU (nI pb, D) = some e ∧ (BR e (l0 ++ r0) ∧ EqR J89 D e) := by
    apply lp_ex (fun s => ∃ a l r, s.1 = nI a ∧ a ≤ 131072 ∧ FSeg (Fr us) pl r a (pb + zz pl) ∧ BR s.2 l ∧ l ++ r = l0 ++ r0 ∧ EqR J89 D s.2) (fun s => 65536 - s.1.toNatClampNeg) _
    · exact ⟨pb, l0, r0, rfl, by omega, hS, hB, rfl, EqR.rf⟩
    · exact FU_big (by omega)
    · rintro ⟨x, E⟩ ⟨a, l, r, ex, ha, hF, hBE, hlr, hE⟩
      simp only at ex hBE hE
      subst ex
      have e33 : E 33 0 = D 33 0 := hE.1 33 0 (by decide) (by decide) (by decide)
      have hVE : RV (E 33 0) us := by rw [e33]; exact hV
      simp only [l_X10_findsFree_31]
      rw [nI_add, if_le (by omega) (by omega)]
      by_cases w : pb + zz pl ≤ a
      · right
        rw [if_pos w]
        refine ⟨_, rfl, ?_, hE⟩
        cases r with
        | nil =>
          rw [List.append_nil] at hlr
          rw [← hlr]
          exact hBE
        | cons q t =>
          have := hF.1
          have := hF.2.1
          have := zz_pos q.2
          omega
      · left
        rw [if_neg w, i1, nI_1, rd_at rfl (show 6 + 2 * p + 1 < 170 by omega) (by decide), e33, h2]
        by_cases hA : Au us a
        · rw [p_ff51_used hVE (by omega) (by omega) hA, Option.bind_some, if_pos (by decide)]
          obtain ⟨c, c1, c2, c3, c4⟩ := p_behind hVE (show a < 65536 by omega)
          rw [c1, Option.bind_some]
          refine ⟨_, rfl, ⟨c, l, r, rfl, c3, ?_, hBE, hlr, hE⟩, ?_⟩
          · refine FSeg_skip r (Nat.le_of_lt c2) (fun y y1 y2 _ hy => ?_) hF
            by_cases e : y = a
            · exact hy (e ▸ hA)
            · exact hy (c4 y (by omega) y2)
          · show 65536 - (nI c).toNatClampNeg < 65536 - (nI a).toNatClampNeg
            rw [nI_clamp (by omega), nI_clamp (by omega)]
            omega
        · cases r with
          | nil => exact absurd hA (hF a (Nat.le_refl _) (by omega))
          | cons q t =>
            obtain ⟨x, m⟩ := q
            obtain ⟨f1, f2, f3, f4, f5⟩ := hF
            simp only at f1 f2 f3 f4 f5
            have hx : x = a := by
              rcases Nat.lt_or_ge a x with w2 | w2
              · exact absurd hA (f3 a (Nat.le_refl _) w2)
              · omega
            subst hx
            have hm := f4.2.1
            have hzm := zz_pos m
            have hlen : l.length + 1 ≤ 800 := by
              have h3 : (l ++ (x, m) :: t).length ≤ 800 := by rw [hlr]; exact hn
              simp at h3
              omega
            rw [p_ff51_free hVE (by omega) f4, Option.bind_some, if_neg (g17 (by omega)), hBE.1, wr_at rfl (show l.length < 800 by omega) (by decide)]
            have e1 : updD E 37 0 l.length (nI x) 32 0 8 = nI l.length := by rw [updD_other _ _ _ (by omega)]; exact hBE.1
            rw [e1, wr_at rfl (show l.length < 800 by omega) (by decide)]
            simp only [pu]
            rw [size_eq hm, Option.bind_some]
            have e2 : updD (updD E 37 0 l.length (nI x)) 38 0 l.length (nI m) 32 0 8 = nI l.length := by rw [updD_other _ _ _ (by omega)]; exact e1
            have e3 : updD (updD (updD E 37 0 l.length (nI x)) 38 0 l.length (nI m)) 32 0 8 (nI (l.length + 1)) 32 0 9 = nI (sz l) := by
              simp only [updD_at]
              simp [hBE.2.1]
            rw [e2, nI_1, e3, nI_add, size_eq hm, Option.bind_some, nI_add]
            refine ⟨_, rfl, ⟨x + zz m, l ++ [(x, m)], t, rfl, by omega, f5, ⟨?_, ?_, fun i u v hi => ?_⟩, ?_, ?_⟩, ?_⟩
            · simp [updD]
            · simp [updD, sz_app, sz]
            · by_cases hil : i < l.length
              · rw [List.getElem?_append_left hil] at hi
                obtain ⟨g1, g2⟩ := hBE.2.2 i u v hi
                have hne : i ≠ l.length := by omega
                simp [updD, hne, g1, g2]
              · rw [List.getElem?_append_right (by omega)] at hi
                have hz1 : i - l.length < 1 := (List.getElem?_eq_some_iff.mp hi).1
                have hi0 : i = l.length := by omega
                subst hi0
                rw [Nat.sub_self] at hi
                cases hi
                simp [updD]
            · rw [List.append_assoc, List.singleton_append, hlr]
            · exact (((hE.tr (EqR.w (Or.inl rfl))).tr (EqR.w (Or.inr rfl))).tr (EqR.u (Or.inl rfl))).tr (EqR.u (Or.inr rfl))
            · show 65536 - (nI (x + zz m)).toNatClampNeg < 65536 - (nI x).toNatClampNeg
              rw [nI_clamp (by omega), nI_clamp (by omega)]
              omega
  obtain ⟨e, k1, k2, k3⟩ := key
  refine ⟨e, ?_, k2, k3⟩
  rw [f_X10_findsFree, i1, nI_1, rd_at rfl (show 6 + 2 * p < 170 by omega) (by decide), rd_at rfl (show 6 + 2 * p + 1 < 170 by omega) (by decide), h1, h2, size_eq hpl, Option.bind_some, k1, Option.bind_some]
def PoR (s : Nat → Int32) (N : Nat) (po : Nat → Nat × Nat) : Prop := s 5 = nI N ∧ ∀ p, p < N → s (6 + 2 * p) = nI (po p).1 ∧ s (6 + 2 * p + 1) = nI (po p).2
theorem p_findsAllFree {D : Dt} {us : Nat → Option (Nat × Nat)} {N : Nat} {po : Nat → Nat × Nat} {ls : Nat → List (Nat × Nat)} (hV : RV (D 33 0) us) (hP : PoR (D 33 0) N po) (hG : Geo N po us) (hL : FLs N po us ls) : ∃ D', f_X10_findsAllFree D = some D' ∧ BR D' (cat ls N) ∧ EqR J89 D D' := by
  have hbd := cat_bound hG hL
  have hN := hG.1
  have key : ∃ e, lp l_X10_findsAllFree_12 FU ((0 : Int32), updD (updD D 32 0 8 0) 32 0 9 0) = some e ∧ (BR e (cat ls N) ∧ EqR J89 D e) := by
    apply lp_n (fun i s => s.1 = nI i ∧ BR s.2 (cat ls i) ∧ EqR J89 D s.2) _ N
    · refine ⟨rfl, ⟨by simp [updD, cat]; rfl, by simp [updD, cat, sz]; rfl, fun i x y h => by simp [cat] at h⟩, (EqR.u (Or.inl rfl)).tr (EqR.u (Or.inr rfl))⟩
    · omega
    · rintro i ⟨x, E⟩ hi ⟨ex, hB, hE⟩
      simp only at ex hB hE
      subst ex
      have e33 : E 33 0 = D 33 0 := hE.1 33 0 (by decide) (by decide) (by decide)
      simp only [l_X10_findsAllFree_12]
      rw [rd_at (i := (5 : Int32)) (j := 5) rfl (by decide) (by decide), e33, hP.1, if_le (by omega) (by omega)]
      by_cases w : N ≤ i
      · right
        rw [if_pos w]
        have : i = N := by omega
        subst this
        exact ⟨_, rfl, hB, hE⟩
      · left
        refine ⟨by omega, ?_⟩
        rw [if_neg w]
        obtain ⟨p1, p2, p3, p4⟩ := hG.2.1 i (by omega)
        obtain ⟨D', c1, c2, c3⟩ := p_findsFree (D := E) (us := us) (l0 := cat ls i) (r0 := ls i) (by rw [e33]; exact hV) (show i < 4 by omega) (by rw [e33]; exact (hP.2 i (by omega)).1) (by rw [e33]; exact (hP.2 i (by omega)).2) (by omega) p4 (hL i (by omega)) hB (by
          obtain ⟨r, hr⟩ := cat_le (ls := ls) (m := i + 1) N (by omega)
          rw [hr, List.length_append] at hbd
          simp only [cat] at hbd
          omega)
        rw [c1, Option.bind_some, nI_1]
        exact ⟨_, rfl, rfl, c2, hE.tr c3⟩
  obtain ⟨e, h1, h2, h3⟩ := key
  refine ⟨e, ?_, h2, h3⟩
  simp only [f_X10_findsAllFree, pu]
  rw [h1, Option.bind_some]
