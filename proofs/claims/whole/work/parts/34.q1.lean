/-! calls that ask: free blocks and counts -/
theorem if_b {α : Type} {c : Prop} [Decidable c] {x y : α} : (if (if c then (1 : Int32) else 0) = 0 then x else y) = if c then y else x := by
  by_cases h : c
  · rw [if_pos h, if_pos h, if_neg (by decide)]
  · rw [if_neg h, if_neg h, if_pos rfl]
theorem if_b' {α : Type} {c : Prop} [Decidable c] {x y : α} : (if (if c then (0 : Int32) else 1) = 0 then x else y) = if c then x else y := by
  by_cases h : c
  · rw [if_pos h, if_pos h, if_pos rfl]
  · rw [if_neg h, if_neg h, if_neg (by decide)]
def nn (v : Int32) : Prop := v = -1 ∨ ∃ a, a < 2 ^ 31 ∧ v = nI a
theorem nn_lt {α : Type} {v : Int32} {x y : α} (h : nn v) : (if v < 0 then x else y) = if v = -1 then x else y := by
  rcases h with rfl | ⟨a, h1, rfl⟩
  · rw [if_pos (by decide), if_pos rfl]
  · rw [if_neg (nI_pos h1), if_neg (nI_nm1 h1)]
theorem nn_ge {α : Type} {v : Int32} {x y : α} (h : nn v) : (if 0 ≤ v then x else y) = if v = -1 then y else x := by
  rcases h with rfl | ⟨a, h1, rfl⟩
  · rw [if_neg (by decide), if_pos rfl]
  · rw [if_pos (nI_pos' h1), if_neg (nI_nm1 h1)]
theorem OB.nn {x y : Int32} {o : Option (Nat × Nat)} (h : OB x y o) : nn x := by
  cases o with
  | none => exact Or.inl h
  | some q => exact Or.inr ⟨q.1, by have := h.2.2.1; omega, h.1⟩
theorem GeoS.nnc {s : Nat → Int32} (h : GeoS s) {n : Nat} (hn : n < 12) : nn (s (14 + 5 * n)) := by
  obtain ⟨N, po, us, h1, _, _⟩ := h
  have := (h1 (2 * n) (by omega)).nn
  rw [bix_e] at this
  exact this
theorem GeoS.nno {s : Nat → Int32} (h : GeoS s) {n : Nat} (hn : n < 12) : nn (s (14 + 5 * n + 2)) := by
  obtain ⟨N, po, us, h1, _, _⟩ := h
  have := (h1 (2 * n + 1) (by omega)).nn
  rw [bix_o] at this
  exact this
theorem HoS.nn0 {s : Nat → Int32} (h : HoS s) {i : Nat} (hi : i < 16) : nn (s (74 + 6 * i)) := by
  rcases (h i hi).1 with w | ⟨n, w1, w2, _⟩
  · exact Or.inl w
  · exact Or.inr ⟨n, by omega, w2⟩
theorem HoS.nn2 {s : Nat → Int32} (h : HoS s) {i : Nat} (hi : i < 16) : nn (s (74 + 6 * i + 2)) := by
  rcases (h i hi).2.1 with w | ⟨n, u, w1, _, w2, _⟩
  · exact Or.inl w
  · exact Or.inr ⟨n, by omega, w2⟩
theorem HoS.nn4 {s : Nat → Int32} (h : HoS s) {i : Nat} (hi : i < 16) : nn (s (74 + 6 * i + 4)) := by
  rcases (h i hi).2.2 with w | ⟨⟨n, u, w1, _, w2, _⟩, _⟩
  · exact Or.inl w
  · exact Or.inr ⟨n, by omega, w2⟩
/-- the list of all free blocks, of class and reference -/
def Fits (s : Nat → Int32) (l : List (Nat × Nat)) : Prop := ∃ N po us ls, RV s us ∧ PoR s N po ∧ Geo N po us ∧ FLs N po us ls ∧ l = cat ls N
theorem two_take {D : Dt} {b b1 : Nat} {s : Nat → Int32} (hP : RelP D b1 s) (hG : GeoS s) : ∃ l D1, f_X7_take b b1 D = some D1 ∧ BL D1 b l ∧ LB l ∧ Eqx (SV b) D D1 ∧ Fits s l ∧ ∀ D', D' 33 0 = s → ∃ D2, f_X10_findsAllFree D' = some D2 ∧ BR D2 l ∧ EqR J89 D' D2 := by
  obtain ⟨N, po, us, h1, h2, h3⟩ := hG
  obtain ⟨D1, ls, a1, a2, a3, a4⟩ := p_take (b := b) (hP.spv h1) (hP.pov h2 h3.1) h3
  refine ⟨cat ls N, D1, a1, a3, LB_cat h3 a2, a4, ⟨N, po, us, ls, h1, h2, h3, a2, rfl⟩, fun D' e => ?_⟩
  exact p_findsAllFree (by rw [e]; exact h1) (by rw [e]; exact h2) h3 a2
theorem q_take {D : Dt} (h : Inv D) : ∃ l D1, f_X7_take 0 0 D = some D1 ∧ BL D1 0 l ∧ LB l ∧ Eqx ZQ D D1 ∧ Fits (D 33 0) l ∧ D1 33 0 = D 33 0 ∧ ∃ D2, f_X10_findsAllFree D1 = some D2 ∧ BR D2 l ∧ EqR J89 D1 D2 ∧ Inv D2 := by
  obtain ⟨l, D1, a1, a2, a3, a4, a5, a6⟩ := two_take (b := 0) h.2.1.2.1 h.1.2.1
  have a7 := a4.mono SV_ZQ
  have e33 : D1 33 0 = D 33 0 := a7 33 0 (by simp [ZQ])
  obtain ⟨D2, b1, b2, b3⟩ := a6 D1 e33
  exact ⟨l, D1, a1, a2, a3, a7, a5, e33, D2, b1, b2, b3, Inv_q h a7 (b3.mono J89_JR)⟩
theorem ok_freeBlocks : ∀ (x1 : Int32) (D : Dt), Inv D → ∃ (r : Int32) (D1 D2 : Dt), f_X9_freeBlocks x1 D = some (r, D1) ∧ f_X10_freeBlocks x1 D1 = some (r, D2) ∧ Inv D2 := by
  intro x D h
  simp only [f_X9_freeBlocks, f_X10_freeBlocks, isIn_eq, in_eq, Option.bind_some, if_b]
  by_cases c : (0 : Int32) ≤ x ∧ x ≤ 16
  · obtain ⟨l, D1, a1, a2, a3, a4, a5, a6, D2, b1, b2, b3, b4⟩ := q_take h
    simp only [if_pos c]
    exact ⟨bofI x l l.length, D1, D2, by rw [a1, Option.bind_some, p_blocksOf x a2 a3, Option.bind_some], by rw [b1, Option.bind_some, p_X10_fb20 x b2 a3, Option.bind_some], b4⟩
  · simp only [if_neg c]
    exact ⟨-1, D, D, rfl, rfl, h⟩
theorem ok_capacity : ∀ (x1 : Int32) (D : Dt), Inv D → ∃ (r : Int32) (D1 D2 : Dt), f_X9_capacity x1 D = some (r, D1) ∧ f_X10_capacity x1 D1 = some (r, D2) ∧ Inv D2 := by
  intro x D h
  simp only [f_X9_capacity, f_X10_capacity, isIn_eq, in_eq, Option.bind_some, if_b]
  by_cases c : (0 : Int32) ≤ x ∧ x ≤ 16
  · obtain ⟨l, D1, a1, a2, a3, a4, a5, a6, D2, b1, b2, b3, b4⟩ := q_take h
    simp only [if_pos c]
    exact ⟨rooI x l l.length, D1, D2, by rw [a1, Option.bind_some, p_roomFor x a2 a3, Option.bind_some], by rw [b1, Option.bind_some, p_X10_cap20 x b2 a3, Option.bind_some], b4⟩
  · simp only [if_neg c]
    exact ⟨-1, D, D, rfl, rfl, h⟩
theorem ok_largestFree : ∀ (_ : Unit) (D : Dt), Inv D → ∃ (r : Int32) (D1 D2 : Dt), f_X9_largestFree D = some (r, D1) ∧ f_X10_largestFree D1 = some (r, D2) ∧ Inv D2 := by
  intro _ D h
  obtain ⟨l, D1, a1, a2, a3, a4, a5, a6, D2, b1, b2, b3, b4⟩ := q_take h
  refine ⟨mnV (-9) l l.length, D1, D2, ?_, ?_, b4⟩
  · rw [f_X9_largestFree, a1, Option.bind_some, p_shortest a2 a3, Option.bind_some]
    by_cases w : l.length = 0
    · rw [w]
      rfl
    · have e1 : mnV (-1) l l.length = nI (mnI l l.length) := if_neg w
      have e2 : mnV (-9) l l.length = nI (mnI l l.length) := if_neg w
      rw [e1, e2, if_neg (nI_nm1 (by have := mnI_le a3 (show 0 < l.length by omega) (Nat.le_refl _); omega))]
  · rw [f_X10_largestFree, p_greatest b1 b2 a3, Option.bind_some]
theorem ok_fragmentation : ∀ (_ : Unit) (D : Dt), Inv D → ∃ (r : Int32) (D1 D2 : Dt), f_X9_fragmentation D = some (r, D1) ∧ f_X10_fragmentation D1 = some (r, D2) ∧ Inv D2 := by
  intro _ D h
  obtain ⟨l, D1, a1, a2, a3, a4, a5, a6, D2, b1, b2, b3, b4⟩ := q_take h
  refine ⟨nI (fiN l), D1, D2, ?_, ?_, b4⟩
  · rw [f_X9_fragmentation, a1, Option.bind_some, p_fragIndex a2 a3, Option.bind_some]
  · rw [f_X10_fragmentation, p_index b1 b2 a3, Option.bind_some]
/-! small loops over hosts and networks -/
def mofI (s : Nat → Int32) (x : Int32) : Int32 := itN (fun h a => if s (74 + 6 * h) = x then a + 1 else a + 0) 16 0
theorem p_membersOf {D : Dt} {b : Nat} {s : Nat → Int32} (hR : RelH D b s) (x : Int32) : f_X2_membersOf b x D = some (mofI s x) := by
  have h : lp (l_X2_membersOf_4 b x D) FU ((0 : Int32), (0 : Int32)) = some (mofI s x) := by
    apply lp_a (fun h a => if s (74 + 6 * h) = x then a + 1 else a + 0) 16 (0 : Int32)
    · decide
    · intro i hi
      simp only [l_X2_membersOf_4]
      rw [if_neg (g16 hi), rd_at rfl hi (by decide), (hR i hi).1]
      by_cases w : s (74 + 6 * i) = x
      · rw [if_pos w, if_pos w]
      · rw [if_neg w, if_neg w]
    · rfl
  rw [f_X2_membersOf, h, Option.bind_some]
theorem p_hostsOf {D : Dt} {s : Nat → Int32} (hs : D 33 0 = s) (x : Int32) : f_X10_hostsOf x D = some (mofI s x) := by
  have h : lp (l_X10_hostsOf_4 x D) FU ((0 : Int32), (0 : Int32)) = some (mofI s x) := by
    apply lp_a (fun h a => if s (74 + 6 * h) = x then a + 1 else a + 0) 16 (0 : Int32)
    · decide
    · intro i hi
      simp only [l_X10_hostsOf_4]
      rw [if_neg (g16 hi), p_X10_hostAt, Option.bind_some, rd_at rfl (by omega) (by decide), hs]
      by_cases w : s (74 + 6 * i) = x
      · rw [if_pos w, if_pos w]
      · rw [if_neg w, if_neg w]
    · rfl
  rw [f_X10_hostsOf, h, Option.bind_some]
def lhI (s : Nat → Int32) (h : Nat) : Int32 := (if s (74 + 6 * h + 2) = -1 then 0 else 1) + (if s (74 + 6 * h + 4) = -1 then 0 else 1)
theorem p_leasesHeld {D : Dt} {b i : Nat} {s : Nat → Int32} (hR : RelH D b s) (hi : i < 16) : f_X2_leasesHeld b (nI i) D = some (lhI s i) := by
  obtain ⟨h1, h2, h3, _⟩ := hR i hi
  simp only [f_X2_leasesHeld, lhI]
  rw [rd_at rfl hi (by decide), rd_at rfl hi (by decide), rd_at rfl hi (by decide), h2, h3]
  by_cases w : s (74 + 6 * i + 2) = -1
  · rw [if_pos w, if_pos w]
    by_cases w2 : s (74 + 6 * i + 4) = -1
    · rw [if_pos w2, if_pos w2]
    · rw [if_neg w2, if_neg w2]
  · rw [if_neg w, if_neg w]
    by_cases w2 : s (74 + 6 * i + 4) = -1
    · rw [if_pos w2, if_pos w2]
    · rw [if_neg w2, if_neg w2]
def leaI (s : Nat → Int32) : Int32 := itN (fun h a => a + lhI s h) 16 0
theorem p_leases {D : Dt} {b : Nat} {s : Nat → Int32} (hR : RelH D b s) : f_X2_leases b D = some (leaI s) := by
  have h : lp (l_X2_leases_4 b D) FU ((0 : Int32), (0 : Int32)) = some (leaI s) := by
    apply lp_a (fun h a => a + lhI s h) 16 (0 : Int32)
    · decide
    · intro i hi
      simp only [l_X2_leases_4]
      rw [if_neg (g16 hi), p_leasesHeld hR hi, Option.bind_some]
    · rfl
  rw [f_X2_leases, h, Option.bind_some]
theorem p_X10_leases {D : Dt} {s : Nat → Int32} (hs : D 33 0 = s) (hH : HoS s) : f_X10_leases D = some (leaI s) := by
  have h : lp (l_X10_leases_4 D) FU ((0 : Int32), (0 : Int32)) = some (leaI s) := by
    apply lp_a (fun h a => a + lhI s h) 16 (0 : Int32)
    · decide
    · intro i hi
      generalize itN (fun h a => a + lhI s h) i 0 = A
      simp only [l_X10_leases_4, j_X10_leases_30_t4, lhI]
      rw [if_neg (g16 hi), p_X10_hostAt, Option.bind_some, show (2 : Int32) = nI 2 from rfl, nI_add, rd_at rfl (show 74 + 6 * i + 2 < 170 by omega) (by decide), hs, nn_lt (hH.nn2 hi)]
      simp only [Option.bind_some, show (4 : Int32) = nI 4 from rfl, nI_add]
      simp only [rd_at rfl (show 74 + 6 * i + 4 < 170 by omega) (show 170 < 2 ^ 31 by decide), hs, nn_lt (hH.nn4 hi)]
      by_cases w : s (74 + 6 * i + 2) = -1
      · rw [if_pos w, if_pos w]
        by_cases w2 : s (74 + 6 * i + 4) = -1
        · rw [if_pos w2, if_pos w2]
        · rw [if_neg w2, if_neg w2]
      · rw [if_neg w, if_neg w]
        by_cases w2 : s (74 + 6 * i + 4) = -1
        · rw [if_pos w2, if_pos w2]
        · rw [if_neg w2, if_neg w2]
    · rfl
  rw [f_X10_leases, h, Option.bind_some]
theorem hasBlock_s {D : Dt} {b n : Nat} {s : Nat → Int32} (hR : RelP D b s) (hn : n < 12) : f_X5_hasBlock b (nI n) D = some (if s (14 + 5 * n) = -1 then 0 else 1) := by
  rw [f_X5_hasBlock, isNetwork_nI hn, Option.bind_some, if_neg (by decide), rd_at rfl hn (by decide), (hR.2.2.2 n hn).1]
  by_cases q : s (14 + 5 * n) = -1
  · rw [if_pos q, if_pos q]
  · rw [if_neg q, if_neg q]
theorem hasOld_s {D : Dt} {b n : Nat} {s : Nat → Int32} (hR : RelP D b s) (hn : n < 12) : f_X5_hasOld b (nI n) D = some (if s (14 + 5 * n + 2) = -1 then 0 else 1) := by
  rw [f_X5_hasOld, isNetwork_nI hn, Option.bind_some, if_neg (by decide), rd_at rfl hn (by decide), (hR.2.2.2 n hn).2.1]
  by_cases q : s (14 + 5 * n + 2) = -1
  · rw [if_pos q, if_pos q]
  · rw [if_neg q, if_neg q]
theorem X10_hasBlock {D : Dt} {n : Nat} {s : Nat → Int32} (hs : D 33 0 = s) (hG : GeoS s) (hn : n < 12) : f_X10_hasBlock (nI n) D = some (if s (14 + 5 * n) = -1 then 0 else 1) := by
  rw [f_X10_hasBlock, p_X10_net, Option.bind_some, rd_at rfl (by omega) (by decide), hs, nn_lt (hG.nnc hn)]
  by_cases q : s (14 + 5 * n) = -1
  · rw [if_pos q, if_pos q]
  · rw [if_neg q, if_neg q]
theorem X10_hasOld {D : Dt} {n : Nat} {s : Nat → Int32} (hs : D 33 0 = s) (hG : GeoS s) (hn : n < 12) : f_X10_hasOld (nI n) D = some (if s (14 + 5 * n + 2) = -1 then 0 else 1) := by
  rw [f_X10_hasOld, p_X10_net, Option.bind_some, show (2 : Int32) = nI 2 from rfl, nI_add, rd_at rfl (show 14 + 5 * n + 2 < 170 by omega) (by decide), hs, nn_lt (hG.nno hn)]
  by_cases q : s (14 + 5 * n + 2) = -1
  · rw [if_pos q, if_pos q]
  · rw [if_neg q, if_neg q]
def nwI (s : Nat → Int32) (q : Nat) : Int32 := itN (fun n a => if s (14 + 5 * n + q) = -1 then a + 0 else a + 1) 12 0
theorem p_currentBlocks {D : Dt} {b : Nat} {s : Nat → Int32} (hR : RelP D b s) : f_X5_currentBlocks b D = some (nwI s 0) := by
  have h : lp (l_X5_currentBlocks_4 b D) FU ((0 : Int32), (0 : Int32)) = some (nwI s 0) := by
    apply lp_a (fun n a => if s (14 + 5 * n + 0) = -1 then a + 0 else a + 1) 12 (0 : Int32)
    · decide
    · intro i hi
      simp only [l_X5_currentBlocks_4, Nat.add_zero]
      rw [if_neg (g12 hi), hasBlock_s hR hi, Option.bind_some, if_b']
      by_cases w : s (14 + 5 * i) = -1
      · rw [if_pos w, if_pos w]
      · rw [if_neg w, if_neg w]
    · rfl
  rw [f_X5_currentBlocks, h, Option.bind_some]
theorem p_oldBlocks {D : Dt} {b : Nat} {s : Nat → Int32} (hR : RelP D b s) : f_X5_oldBlocks b D = some (nwI s 2) := by
  have h : lp (l_X5_oldBlocks_4 b D) FU ((0 : Int32), (0 : Int32)) = some (nwI s 2) := by
    apply lp_a (fun n a => if s (14 + 5 * n + 2) = -1 then a + 0 else a + 1) 12 (0 : Int32)
    · decide
    · intro i hi
      simp only [l_X5_oldBlocks_4]
      rw [if_neg (g12 hi), hasOld_s hR hi, Option.bind_some, if_b']
      by_cases w : s (14 + 5 * i + 2) = -1
      · rw [if_pos w, if_pos w]
      · rw [if_neg w, if_neg w]
    · rfl
  rw [f_X5_oldBlocks, h, Option.bind_some]
theorem p_netsWith {D : Dt} {s : Nat → Int32} (hs : D 33 0 = s) (hG : GeoS s) {q : Nat} (hq : q = 0 ∨ q = 2) : f_X10_netsWith (nI q) D = some (nwI s q) := by
  have h : lp (l_X10_netsWith_4 (nI q) D) FU ((0 : Int32), (0 : Int32)) = some (nwI s q) := by
    apply lp_a (fun n a => if s (14 + 5 * n + q) = -1 then a + 0 else a + 1) 12 (0 : Int32)
    · decide
    · intro i hi
      have hnn : nn (s (14 + 5 * i + q)) := by
        rcases hq with rfl | rfl
        · exact hG.nnc hi
        · exact hG.nno hi
      simp only [l_X10_netsWith_4]
      rw [if_neg (g12 hi), p_X10_net, Option.bind_some, nI_add, rd_at rfl (show 14 + 5 * i + q < 170 by omega) (by decide), hs, nn_lt hnn]
      by_cases w : s (14 + 5 * i + q) = -1
      · rw [if_pos w, if_pos w]
      · rw [if_neg w, if_neg w]
    · rfl
  rw [f_X10_netsWith, h, Option.bind_some]
theorem Inv.mid {D D2 : Dt} (h : Inv D) (h2 : EqR J89 D D2) : D2 33 0 = D 33 0 := h2.1 33 0 (by decide) (by decide) (by decide)
theorem ok_count : ∀ (x1 : Int32) (D : Dt), Inv D → ∃ (r : Int32) (D1 D2 : Dt), f_X9_count x1 D = some (r, D1) ∧ f_X10_count x1 D1 = some (r, D2) ∧ Inv D2 := by
  intro x D h
  have hG := h.1
  have hR := h.2.1
  obtain ⟨l, D1, a1, a2, a3, a4, a5, a6, _, _⟩ := q_take h
  obtain ⟨l', _, _, _, _, _, _, a7⟩ := two_take (b := 0) hR.2.1 hG.2.1
  obtain ⟨D2, b1, b2, b3⟩ := a7 D rfl
  have hI2 : Inv D2 := Inv_q h Eqx.rf (b3.mono J89_JR)
  have e2 : D2 33 0 = D 33 0 := b3.1 33 0 (by decide) (by decide) (by decide)
  simp only [f_X9_count, f_X10_count]
  by_cases c7 : x = (7 : Int32)
  · subst c7
    obtain ⟨l, D1, a1, a2, a3, a4, a5, a6, D2, b1, b2, b3, b4⟩ := q_take h
    refine ⟨nI (sz l), D1, D2, ?_, ?_, b4⟩
    · rw [if_neg (by decide), if_neg (by decide), if_neg (by decide), if_neg (by decide), if_neg (by decide), if_neg (by decide), if_neg (by decide), if_pos rfl, a1, Option.bind_some, p_addresses a2 a3, Option.bind_some]
    · rw [b1, Option.bind_some, if_neg (by decide), if_neg (by decide), if_neg (by decide), if_neg (by decide), if_neg (by decide), if_neg (by decide), if_neg (by decide), if_pos rfl, b2.2.1]
  · by_cases c0 : x = (0 : Int32)
    · subst c0
      refine ⟨D 33 0 0, D, D2, ?_, ?_, hI2⟩
      · rw [if_pos rfl, hR.1.1]
      · rw [b1, Option.bind_some, if_pos rfl, rd_at (i := (0 : Int32)) (j := 0) rfl (by decide) (by decide), e2]
    · simp only [if_neg c0, if_neg c7]
      by_cases c1 : x = (1 : Int32)
      · subst c1
        refine ⟨D 33 0 5, D, D2, ?_, ?_, hI2⟩
        · rw [if_pos rfl, hR.2.1.2.1]
        · rw [b1, Option.bind_some, if_pos rfl, rd_at (i := (5 : Int32)) (j := 5) rfl (by decide) (by decide), e2]
      · simp only [if_neg c1]
        by_cases c2 : x = (2 : Int32)
        · subst c2
          refine ⟨nwI (D 33 0) 0, D, D2, ?_, ?_, hI2⟩
          · rw [if_pos rfl, p_currentBlocks hR.2.1, Option.bind_some]
          · rw [b1, Option.bind_some, if_pos rfl, show (0 : Int32) = nI 0 from rfl, p_netsWith e2 hG.2.1 (Or.inl rfl), Option.bind_some]
        · simp only [if_neg c2]
          by_cases c3 : x = (3 : Int32)
          · subst c3
            refine ⟨nwI (D 33 0) 2, D, D2, ?_, ?_, hI2⟩
            · rw [if_pos rfl, p_oldBlocks hR.2.1, Option.bind_some]
            · rw [b1, Option.bind_some, if_pos rfl, show (2 : Int32) = nI 2 from rfl, p_netsWith e2 hG.2.1 (Or.inr rfl), Option.bind_some]
          · simp only [if_neg c3]
            by_cases c4 : x = (4 : Int32)
            · subst c4
              refine ⟨16 - mofI (D 33 0) (-1), D, D2, ?_, ?_, hI2⟩
              · rw [if_pos rfl, f_X2_members, p_membersOf hR.2.2, Option.bind_some, Option.bind_some]
              · rw [b1, Option.bind_some, if_pos rfl, p_hostsOf e2, Option.bind_some]
            · simp only [if_neg c4]
              by_cases c5 : x = (5 : Int32)
              · subst c5
                refine ⟨leaI (D 33 0), D, D2, ?_, ?_, hI2⟩
                · rw [if_pos rfl, p_leases hR.2.2, Option.bind_some]
                · rw [b1, Option.bind_some, if_pos rfl, p_X10_leases e2 hG.2.2, Option.bind_some]
              · simp only [if_neg c5]
                by_cases c6 : x = (6 : Int32)
                · subst c6
                  refine ⟨D 33 0 4, D, D2, ?_, ?_, hI2⟩
                  · rw [if_pos rfl, hR.1.2.2.2]
                  · rw [b1, Option.bind_some, if_pos rfl, rd_at (i := (4 : Int32)) (j := 4) rfl (by decide) (by decide), e2]
                · simp only [if_neg c6]
                  by_cases c8 : x = (8 : Int32)
                  · subst c8
                    obtain ⟨c, nx, _, _, _, k4, k5, _⟩ := h.2.2.1
                    refine ⟨nI c, D, D2, ?_, ?_, hI2⟩
                    · rw [if_pos rfl, k4]
                    · rw [b1, Option.bind_some, if_pos rfl, b3.2 2 (by simp [J89]), k5]
                  · simp only [if_neg c8]
                    exact ⟨-1, D, D2, rfl, by rw [b1, Option.bind_some], hI2⟩
