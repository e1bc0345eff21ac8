/-! a set-up's items in the reference -/
def EqX (D D' : Dt) : Prop := (∀ k b, k ≠ 33 → k ≠ 37 → k ≠ 38 → k ≠ 32 → D' k b = D k b) ∧ ∀ j, ¬ JR j → D' 32 0 j = D 32 0 j
theorem EqX.rf {D : Dt} : EqX D D := ⟨fun _ _ _ _ _ _ => rfl, fun _ _ => rfl⟩
theorem EqX.tr {D D1 D2 : Dt} (h : EqX D D1) (g : EqX D1 D2) : EqX D D2 := ⟨fun k b a1 a2 a3 a4 => (g.1 k b a1 a2 a3 a4).trans (h.1 k b a1 a2 a3 a4), fun j a => (g.2 j a).trans (h.2 j a)⟩
theorem EqX.r {D D' : Dt} (h : EqR J89 D D') : EqX D D' := ⟨fun k b _ a2 a3 a4 => h.1 k b a2 a3 a4, fun j hj => h.2 j (fun q => hj (by simp only [J89] at q; simp only [JR]; omega))⟩
theorem EqX.k {D D' : Dt} (h : E32 KT D D') : EqX D D' := ⟨fun k b _ _ _ a4 => h.1 k b a4, fun j hj => h.2 j (fun q => hj (by simp only [KT] at q; simp only [JR]; omega))⟩
theorem EqX.u {D : Dt} {i : Nat} {x : Int32} (hi : JR i) : EqX D (updD D 32 0 i x) := ⟨fun k b _ _ _ a4 => updD_other _ _ _ (by omega), fun j hj => by
  rw [updD_at, if_neg]
  rintro ⟨-, -, q⟩
  exact hj (by rw [q]; exact hi)⟩
theorem EqX.w {D : Dt} {g : Nat → Int32} : EqX D (rowD D 33 0 g) := ⟨fun k b a1 _ _ _ => rowD_ne _ _ (by omega), fun j _ => by rw [rowD_ne _ _ (by omega)]⟩
theorem TXr.v {D D' : Dt} {n : Nat} {T : Nat → Nat} (h : TXr D n T) (hE : EqX D D') : TXr D' n T := h.fr (hE.2 4 (by simp [JR])) (hE.1 35 0 (by decide) (by decide) (by decide) (by decide))
theorem RT.fr {D D' : Dt} {n p : Nat} {T : Nat → Nat} (h : RT D T n p) (e : ∀ j, KT j → D' 32 0 j = D 32 0 j) : RT D' T n p := by
  unfold RT tld
  rw [e 10 (by simp [KT]), e 11 (by simp [KT]), e 12 (by simp [KT]), e 13 (by simp [KT]), e 113 (by simp [KT])]
  exact h
theorem updD_id {D : Dt} {k b j : Nat} {x : Int32} (h : D k b j = x) : updD D k b j x = D := by
  funext k' b' j'
  rw [updD_at]
  by_cases c : k' = k ∧ b' = b ∧ j' = j
  · rw [if_pos c, c.1, c.2.1, c.2.2, h]
  · rw [if_neg c]
theorem gd_i1 {β : Type} (F : Option β) : gd (isb (1 : Int32)) F = F := rfl
theorem gd_i0 {β : Type} (F : Option β) : gd (isb (0 : Int32)) F = F := rfl
theorem u14 (D : Dt) : updD D 32 0 14 1 32 0 14 = 1 := by simp [updD_at]
theorem n14 {D : Dt} (h : D 32 0 14 = 1) : ¬ D 32 0 14 = 0 := by
  rw [h]
  decide
theorem RT.u14 {D : Dt} {n p : Nat} {T : Nat → Nat} {x : Int32} (h : RT D T n p) : RT (updD D 32 0 14 x) T n p := h.fr (fun j hj => by
  rw [updD_at, if_neg]
  rintro ⟨-, -, q⟩
  simp only [KT] at hj
  omega)
theorem takes_w {D : Dt} {x : Int32} (h : D 32 0 14 = 1) : f_X10_takes x D = some D := by
  rw [f_X10_takes, if_neg (n14 h), gd_i1]
  simp only [pu]
  rw [updD_id h, if_neg (n14 h)]
theorem takes_n {D : Dt} (h : D 32 0 14 = 0) : f_X10_takes 0 D = some (updD D 32 0 14 1) := by
  rw [f_X10_takes, if_pos h, if_pos (show (0 : Int32) = 0 from rfl), gd_i1]
  simp only [pu]
  rw [if_neg (n14 (u14 D))]
theorem takes_rt {D : Dt} {n p : Nat} {T : Nat → Nat} (h : D 32 0 14 = 0) (hT : TXr D n T) (hRT : RT D T n p) (hp : p ≤ n) : ∃ D', f_X10_takes 1 D = some D' ∧ RT D' T n (tkE T n p) ∧ D' 32 0 14 = 0 ∧ D' 33 0 = D 33 0 ∧ EqX D D' := by
  obtain ⟨D', a1, a2, a3⟩ := p_readsToken hT hRT.1 (tk_b (T := T) hp).2.2.1
  refine ⟨D', ?_, a2, (a3.2 14 (by simp [KT])).trans h, a3.1 33 0 (by decide), EqX.k a3⟩
  rw [f_X10_takes, if_pos h, if_neg (show ¬ (1 : Int32) = 0 by decide), gd_i0]
  simp only [pu]
  rw [updD_id h, if_pos h, a1, Option.bind_some]
theorem RT_k {D : Dt} {n p : Nat} {T : Nat → Nat} (h : RT D T n p) : (D 32 0 12 = 3 ↔ tkK T n p = 2) ∧ (D 32 0 12 = 0 ↔ tkK T n p = 1) ∧ (D 32 0 12 = 2 ↔ tkK T n p = 3) ∧ (D 32 0 12 = 1 → tkK T n p = 0 ∨ 4 ≤ tkK T n p) ∧ (4 ≤ tkK T n p → D 32 0 12 = 1) := by
  obtain ⟨h1, h2, h3, h4, h5, h6, h7⟩ := h
  have h8 := tkK_le (T := T) (n := n) (p := p)
  rcases (show tkK T n p = 0 ∨ tkK T n p = 1 ∨ tkK T n p = 2 ∨ tkK T n p = 3 ∨ tkK T n p = 0 + 4 ∨ tkK T n p = 1 + 4 ∨ tkK T n p = 2 + 4 ∨ tkK T n p = 3 + 4 ∨ tkK T n p = 4 + 4 by omega) with c | c | c | c | c | c | c | c | c
  · rcases h7 c with e | e
    · rw [c, e]
      decide
    · rw [c, e]
      decide
  · rw [h3 c, c]
    decide
  · rw [h4 c, c]
    decide
  · rw [(h5 c).1, c]
    decide
  · rw [((h6 0 (by decide)).mp c).1, c]
    decide
  · rw [((h6 1 (by decide)).mp c).1, c]
    decide
  · rw [((h6 2 (by decide)).mp c).1, c]
    decide
  · rw [((h6 3 (by decide)).mp c).1, c]
    decide
  · rw [((h6 4 (by decide)).mp c).1, c]
    decide
def nuV (T : Nat → Nat) (n p : Nat) : Int32 := if tkK T n p = 3 then nI (tkV T n p) else -1
theorem nuV_3 {T : Nat → Nat} {n p lo hi : Nat} (h : okR T n p lo hi) : nuV T n p = nI (tkV T n p) := by rw [nuV, if_pos h.1]
theorem number_rt {D : Dt} {n p : Nat} {T : Nat → Nat} (h : RT D T n p) : f_X10_number D = some (nuV T n p) := by
  have hk := (RT_k h).2.2.1
  rw [f_X10_number, nuV]
  by_cases c : tkK T n p = 3
  · rw [if_pos c, if_pos (hk.mpr c)]
    have e := (h.2.2.2.2.1 c).2.1
    rw [tld] at e
    rw [e, lN_i]
  · rw [if_neg c, if_neg (fun q => c (hk.mp q))]
theorem in_rt {D D' : Dt} {n p lo hi : Nat} {T : Nat → Nat} {a b : Int32} (h : RT D T n p) (ha : a = nI lo) (hb : b = nI hi) (hlo : lo < 2 ^ 31) (hhi : hi < 2 ^ 31) : f_X10_in (nuV T n p) a b D' = some (sIf (okR T n p lo hi) 1 0) := by
  rw [in_eq, nuV, ha, hb]
  by_cases c : tkK T n p = 3
  · have hV := (h.2.2.2.2.1 c).2.2
    rw [if_pos c]
    by_cases d : okR T n p lo hi
    · rw [sIf_t d, if_pos ⟨nI_le d.2.1 (by omega), nI_le d.2.2 (by omega)⟩]
    · rw [sIf_f d, if_neg]
      rintro ⟨q1, q2⟩
      exact d ⟨c, (nI_leI hlo (by omega)).mp q1, (nI_leI (by omega) hhi).mp q2⟩
  · rw [if_neg c, sIf_f (fun q => c q.1), if_neg]
    rintro ⟨q1, -⟩
    exact absurd (Int32.le_trans (nI_le (Nat.zero_le lo) hlo) q1) (by decide)
/-- the semicolon behind an item -/
def zs (D : Dt) : Option Dt := if (D 32 0 12) = (3 : Int32) then ((f_X10_takes (1 : Int32) D).bind (fun D6 => some D6)) else ((f_X10_takes (0 : Int32) D).bind (fun D5 => some D5))
theorem zs_w {D : Dt} (h : D 32 0 14 = 1) : zs D = some D := by
  rw [zs]
  by_cases c : D 32 0 12 = 3
  · rw [if_pos c, takes_w h, Option.bind_some]
  · rw [if_neg c, takes_w h, Option.bind_some]
/-- the reference has read as the item says -/
def RdR (D D' : Dt) (T : Nat → Nat) (n : Nat) (r : Rs) : Prop := EqX D D' ∧ (∀ st, r = Sum.inl st → D' 32 0 14 = 1 ∧ D' 32 0 11 = nI st) ∧ (∀ p u, r = Sum.inr (p, u) → D' 32 0 14 = 0 ∧ RT D' T n p ∧ D' 33 0 = u)
theorem RdR.pre {D D1 D' : Dt} {T : Nat → Nat} {n : Nat} {r : Rs} (hE : EqX D D1) (h : RdR D1 D' T n r) : RdR D D' T n r := ⟨hE.tr h.1, h.2⟩
theorem RdR_no {D D1 : Dt} {T : Nat → Nat} {n p : Nat} (hE : EqX D D1) (h : RT D1 T n p) : RdR D (updD D1 32 0 14 1) T n (Sum.inl (tkS T n p)) := by
  refine ⟨hE.tr (EqX.u (by simp [JR])), fun s q => ?_, (fun p u q => by cases q)⟩
  cases q
  exact ⟨u14 D1, h.u14.2.1⟩
theorem zs_ok {D : Dt} {n p : Nat} {T : Nat → Nat} {u : Nat → Int32} (h14 : D 32 0 14 = 0) (hT : TXr D n T) (hRT : RT D T n p) (hp : p ≤ n) (h33 : D 33 0 = u) : ∃ D', zs D = some D' ∧ RdR D D' T n (semi T n p u) := by
  have hk := (RT_k hRT).1
  rw [zs, semi]
  by_cases c : tkK T n p = 2
  · obtain ⟨D', a1, a2, a3, a4, a5⟩ := takes_rt h14 hT hRT hp
    rw [if_pos (hk.mpr c), sIf_t c, a1, Option.bind_some]
    refine ⟨D', rfl, a5, (fun s q => by cases q), fun p' u' q => ?_⟩
    cases q
    exact ⟨a3, a2, a4.trans h33⟩
  · rw [if_neg (fun q => c (hk.mp q)), sIf_f c, takes_n h14, Option.bind_some]
    exact ⟨_, rfl, RdR_no EqX.rf hRT⟩
theorem zs_row {D D1 : Dt} {n p : Nat} {T : Nat → Nat} {w : Nat → Int32} (h14 : D1 32 0 14 = 0) (hT : TXr D1 n T) (hRT : RT D1 T n p) (hp : p ≤ n) (hE : EqX D D1) : ∃ D', zs (rowD D1 33 0 w) = some D' ∧ RdR D D' T n (semi T n p w) := by
  obtain ⟨D', a1, a2⟩ := zs_ok (D := rowD D1 33 0 w) (by rw [rowD_ne _ _ (by omega)]; exact h14) (hT.v EqX.w) (hRT.fr (fun j _ => by rw [rowD_ne _ _ (by omega)])) hp (rowD_at _ _ _ _)
  exact ⟨D', a1, a2.pre (hE.tr EqX.w)⟩
theorem zs_no {D D1 : Dt} {n p : Nat} {T : Nat → Nat} {f : Option Dt} (hf : f = some (updD D1 32 0 14 1)) (hE : EqX D D1) (hRT : RT D1 T n p) : ∃ D', f.bind zs = some D' ∧ RdR D D' T n (Sum.inl (tkS T n p)) := ⟨updD D1 32 0 14 1, by rw [hf, Option.bind_some, zs_w (u14 D1)], RdR_no hE hRT⟩
theorem jp_n {D : Dt} {x y : Int32} (h : D 32 0 14 = 0) : j_X10_readsPool_55_t6 x D y 0 = some (updD D 32 0 14 1) := by
  rw [j_X10_readsPool_55_t6, takes_n h, Option.bind_some, if_neg (n14 (u14 D))]
theorem jp_w {D : Dt} {x y t : Int32} (h : D 32 0 14 = 1) : j_X10_readsPool_55_t6 x D y t = some D := by
  rw [j_X10_readsPool_55_t6, takes_w h, Option.bind_some, if_neg (n14 h)]
/-- in the wrong state a pool's item does nothing, where the word is no length -/
theorem rPool_w {D : Dt} {n p : Nat} {T : Nat → Nat} (h : D 32 0 14 = 1) (hRT : RT D T n p) (hn : ¬ okR T n p 4 14) : f_X10_readsPool D = some D := by
  rw [f_X10_readsPool, number_rt hRT, Option.bind_some, in_eq, Option.bind_some, takes_w h, Option.bind_some, number_rt hRT, Option.bind_some, in_rt (a := (4 : Int32)) (b := (14 : Int32)) (lo := 4) (hi := 14) hRT rfl rfl (by decide) (by decide), Option.bind_some, sIf_f hn, if_pos (show (0 : Int32) = 0 from rfl), jp_w h]
theorem p_rPool {D : Dt} {n p st : Nat} {T : Nat → Nat} {u : Nat → Int32} (h14 : D 32 0 14 = 0) (hT : TXr D n T) (hRT : RT D T n p) (hp : p ≤ n) (h33 : D 33 0 = u) (hG : GeoS u) (hN : pnV' u < 4) : ∃ D', (f_X10_readsPool D).bind zs = some D' ∧ RdR D D' T n (poolI T n st p u) := by
  obtain ⟨us, hV, hP, hGe⟩ := GeoS_po hG
  have hq := (tk_b (T := T) hp).2.2.1
  rw [poolI, sIf_f (by omega), f_X10_readsPool, number_rt hRT, Option.bind_some, in_rt (a := (0 : Int32)) (b := (65535 : Int32)) (lo := 0) (hi := 65535) hRT rfl rfl (by decide) (by decide), Option.bind_some]
  by_cases c1 : okR T n p 0 65535
  · obtain ⟨D3, t1, t2, t3, t4, t5⟩ := takes_rt h14 hT hRT hp
    have hT3 := hT.v t5
    rw [sIf_t c1, sIf_t c1, t1, Option.bind_some, number_rt t2, Option.bind_some, in_rt (a := (4 : Int32)) (b := (14 : Int32)) (lo := 4) (hi := 14) t2 rfl rfl (by decide) (by decide), Option.bind_some]
    by_cases c2 : okR T n (tkE T n p) 4 14
    · have hg : tkV T n p ≤ 65535 := c1.2.2
      have hl : tkV T n (tkE T n p) ≤ 14 := c2.2.2
      rw [sIf_t c2, if_neg (show ¬ (1 : Int32) = 0 by decide), nuV_3 c1, nuV_3 c2, size_eq (show tkV T n (tkE T n p) ≤ 16 by omega), Option.bind_some, gd_z, pk_rem (show tkV T n p < 2 ^ 31 by omega) (zz_pos _) (show zz (tkV T n (tkE T n p)) < 2 ^ 31 by have := zz_le (tkV T n (tkE T n p)); omega), if_z (show tkV T n p % zz (tkV T n (tkE T n p)) < 2 ^ 31 by have := Nat.mod_le (tkV T n p) (zz (tkV T n (tkE T n p))); omega)]
      by_cases c3 : tkV T n p % zz (tkV T n (tkE T n p)) = 0
      · rw [if_pos c3, p_touchesPool (po := poV' u) (N := pnV' u) (by rw [t4, h33]; exact hP) (by omega) hGe.pob (by omega) (by omega), Option.bind_some, b01_0]
        by_cases c4 : anyB (fun r => ovl (poV' u r) (tkV T n p) (tkV T n (tkE T n p))) (pnV' u) = true
        · rw [if_pos c4, sIf_f (fun q => q.2.2 c4)]
          exact zs_no (jp_n t3) t5 t2
        · obtain ⟨D7, w1, w2, w3, w4, w5⟩ := takes_rt t3 hT3 t2 hq
          rw [if_neg c4, sIf_t ⟨c2, c3, c4⟩, j_X10_readsPool_55_t6, w1, Option.bind_some, if_pos w3]
          have i1 : (6 : Int32) + (2 : Int32) * nI (pnV' u) = nI (6 + 2 * pnV' u) := by
            rw [show (6 : Int32) = nI 6 from rfl, show (2 : Int32) = nI 2 from rfl, pk_mul, nI_add]
          have b4 : D7 33 0 = u := by rw [w4, t4, h33]
          rw [rd_at (i := (5 : Int32)) (j := 5) rfl (by decide) (by decide), b4, hP.1, i1, wr_at rfl (show 6 + 2 * pnV' u < 170 by omega) (by decide), rd_at (i := (5 : Int32)) (j := 5) rfl (by decide) (by decide)]
          have f1 : updD D7 33 0 (6 + 2 * pnV' u) (nI (tkV T n p)) 33 0 5 = nI (pnV' u) := by rw [updD_at, if_neg (by omega), b4]; exact hP.1
          rw [f1, i1, nI_1, wr_at rfl (show 6 + 2 * pnV' u + 1 < 170 by omega) (by decide), rd_at (i := (5 : Int32)) (j := 5) rfl (by decide) (by decide)]
          have f2 : updD (updD D7 33 0 (6 + 2 * pnV' u) (nI (tkV T n p))) 33 0 (6 + 2 * pnV' u + 1) (nI (tkV T n (tkE T n p))) 33 0 5 = nI (pnV' u) := by rw [updD_at, if_neg (by omega)]; exact f1
          rw [f2, nI_1, wr_at (i := (5 : Int32)) (j := 5) rfl (by decide) (by decide), updD_row D7 33 0, rowD_upd, rowD_upd, b4, Option.bind_some]
          exact zs_row w3 (hT3.v w5) w2 (tk_b (T := T) hq).2.2.1 (t5.tr w5)
      · rw [if_neg c3, sIf_f (fun q => c3 q.2.1)]
        exact zs_no (jp_n t3) t5 t2
    · rw [sIf_f c2, if_pos (show (0 : Int32) = 0 from rfl), sIf_f (fun q => c2 q.1)]
      exact zs_no (jp_n t3) t5 t2
  · have hn : ¬ okR T n p 4 14 := fun q => c1 ⟨q.1, Nat.zero_le _, by have := q.2.2; omega⟩
    rw [sIf_f c1, sIf_f c1, takes_n h14, Option.bind_some, number_rt hRT.u14, Option.bind_some, in_rt (a := (4 : Int32)) (b := (14 : Int32)) (lo := 4) (hi := 14) hRT rfl rfl (by decide) (by decide), Option.bind_some, sIf_f hn, if_pos (show (0 : Int32) = 0 from rfl)]
    exact zs_no (jp_w (u14 D)) EqX.rf hRT
theorem jn_n {D : Dt} {o1 o5 x : Int32} (h : D 32 0 14 = 0) : j_X10_readsNet_78_t7 o1 o5 (x, D) 0 = some (updD D 32 0 14 1) := by
  rw [j_X10_readsNet_78_t7]
  simp only
  rw [takes_n h, Option.bind_some, if_neg (n14 (u14 D))]
theorem jn_w {D : Dt} {o1 o5 x t : Int32} (h : D 32 0 14 = 1) : j_X10_readsNet_78_t7 o1 o5 (x, D) t = some D := by
  rw [j_X10_readsNet_78_t7]
  simp only
  rw [takes_w h, Option.bind_some, if_neg (n14 h)]
theorem jn33_n {D : Dt} {n p : Nat} {T : Nat → Nat} {o1 : Int32} (h : D 32 0 14 = 0) (hRT : RT D T n p) : j_X10_readsNet_33_t3 D o1 0 = some (updD D 32 0 14 1) := by
  rw [j_X10_readsNet_33_t3, takes_n h, Option.bind_some, number_rt hRT.u14, Option.bind_some, if_neg (n14 (u14 D)), j_X10_readsNet_67_t6, if_pos (show (-1 : Int32) < 0 by decide), jn_w (u14 D)]
theorem p_rNet {D : Dt} {n p : Nat} {T : Nat → Nat} {u : Nat → Int32} (h14 : D 32 0 14 = 0) (hT : TXr D n T) (hRT : RT D T n p) (hp : p ≤ n) (h33 : D 33 0 = u) (hG : Good u) : ∃ D', (f_X10_readsNet D).bind zs = some D' ∧ RdR D D' T n (netI T n p u) := by
  have hq := (tk_b (T := T) hp).2.2.1
  rw [netI, f_X10_readsNet, number_rt hRT, Option.bind_some, in_rt (a := (0 : Int32)) (b := (11 : Int32)) (lo := 0) (hi := 11) hRT rfl rfl (by decide) (by decide), Option.bind_some]
  by_cases c1 : okR T n p 0 11
  · have hk : tkV T n p < 12 := by have := c1.2.2; omega
    rw [sIf_t c1, if_neg (show ¬ (1 : Int32) = 0 by decide), nuV_3 c1, p_X10_net, Option.bind_some, rd_at rfl (show 14 + 5 * tkV T n p < 170 by omega) (by decide), h33, nn_ge (hG.2.1.nnc hk)]
    by_cases c2 : u (14 + 5 * tkV T n p) = -1
    · obtain ⟨D4, t1, t2, t3, t4, t5⟩ := takes_rt h14 hT hRT hp
      rw [if_pos c2, sIf_t ⟨c1, c2⟩, j_X10_readsNet_33_t3, t1, Option.bind_some, number_rt t2, Option.bind_some, if_pos t3, in_rt (a := (5 : Int32)) (b := (16 : Int32)) (lo := 5) (hi := 16) t2 rfl rfl (by decide) (by decide), Option.bind_some]
      by_cases c3 : okR T n (tkE T n p) 5 16
      · obtain ⟨D5, f1, f2⟩ := plF_ref (D := D4) (m := tkV T n (tkE T n p)) (t4.trans h33) hG.2.1 hG.pol c3.2.2
        have g2 : RT D5 T n (tkE T n p) := t2.fr (fun j hj => f2.2 j (fun q => by simp only [J89] at q; simp only [KT] at hj; omega))
        have g3 : D5 32 0 14 = 0 := (f2.2 14 (by simp [J89])).trans t3
        have g4 : D5 33 0 = u := by rw [f2.1 33 0 (by decide) (by decide) (by decide), t4, h33]
        have g5 := t5.tr (EqX.r f2)
        have hT5 := hT.v g5
        rw [sIf_t c3, sIf_t c3, if_neg (show ¬ (1 : Int32) = 0 by decide), nuV_3 c3, f1, Option.bind_some, j_X10_readsNet_67_t6]
        simp only
        cases hpl : plF u (tkV T n (tkE T n p)) with
        | none =>
          rw [oI_n, if_pos (show (-1 : Int32) < 0 by decide)]
          exact zs_no (jn_n g3) g5 g2
        | some g =>
          have hg := (plF_plac hG.2.1 hpl).lt
          obtain ⟨D8, w1, w2, w3, w4, w5⟩ := takes_rt g3 hT5 g2 hq
          rw [oI_s, if_neg (show ¬ nI g < 0 from fun q => absurd ((nI_ltI (b := 0) (by omega) (by decide)).mp q) (by omega)), j_X10_readsNet_78_t7]
          simp only
          rw [w1, Option.bind_some, if_pos w3, p_X10_net, Option.bind_some, wr_at rfl (show 14 + 5 * tkV T n p < 170 by omega) (by decide), p_X10_net, Option.bind_some, nI_1, wr_at rfl (show 14 + 5 * tkV T n p + 1 < 170 by omega) (by decide), updD_row D8 33 0, rowD_upd, w4, g4, Option.bind_some]
          exact zs_row w3 (hT5.v w5) w2 (tk_b (T := T) hq).2.2.1 (g5.tr w5)
      · rw [sIf_f c3, sIf_f c3, if_pos (show (0 : Int32) = 0 from rfl), j_X10_readsNet_67_t6, if_pos (show (-1 : Int32) < 0 by decide)]
        exact zs_no (jn_n t3) t5 t2
    · rw [if_neg c2, sIf_f (fun q => c2 q.2)]
      exact zs_no (jn33_n h14 hRT) EqX.rf hRT
  · rw [sIf_f c1, sIf_f (fun q => c1 q.1), if_pos (show (0 : Int32) = 0 from rfl)]
    exact zs_no (jn33_n h14 hRT) EqX.rf hRT
