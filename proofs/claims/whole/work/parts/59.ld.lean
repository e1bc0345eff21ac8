/-! a set-up's items, as what they do; the class's reading of them -/
def okR (T : Nat → Nat) (n p lo hi : Nat) : Prop := tkK T n p = 3 ∧ lo ≤ tkV T n p ∧ tkV T n p ≤ hi
theorem okR_b {T : Nat → Nat} {n p lo hi : Nat} (h : okR T n p lo hi) : tkK T n p = 3 ∧ lo ≤ tkV T n p ∧ tkV T n p ≤ hi := h
def poV' (u : Nat → Int32) (q : Nat) : Nat × Nat := ((u (6 + 2 * q)).toNatClampNeg, (u (6 + 2 * q + 1)).toNatClampNeg)
def pnV' (u : Nat → Int32) : Nat := (u 5).toNatClampNeg
theorem GeoS_po {u : Nat → Int32} (h : GeoS u) : ∃ us, RV u us ∧ PoR u (pnV' u) (poV' u) ∧ Geo (pnV' u) (poV' u) us := by
  obtain ⟨N, po, us, h1, h2, h3⟩ := h
  have eN : pnV' u = N := by
    have := h3.1
    rw [pnV', h2.1, nI_clamp (by omega)]
  have ep : ∀ q, q < N → poV' u q = po q := by
    intro q hq
    have := h3.pob q hq
    rw [poV', (h2.2 q hq).1, (h2.2 q hq).2, nI_clamp (by omega), nI_clamp (by omega)]
  rw [eN]
  refine ⟨us, h1, ⟨h2.1, fun q hq => by rw [ep q hq]; exact h2.2 q hq⟩, h3.1, fun p hp => by rw [ep p hp]; exact h3.2.1 p hp, fun p q hp hq hne => by rw [ep p hp, ep q hq]; exact h3.2.2.1 p q hp hq hne, fun k g l hk hu => ?_, h3.2.2.2.2⟩
  obtain ⟨a1, a2, a3, p, b1, b2, b3⟩ := h3.2.2.2.1 k g l hk hu
  exact ⟨a1, a2, a3, p, b1, by rw [ep p b1]; exact ⟨b2, b3⟩⟩
abbrev Rs : Type := Nat ⊕ (Nat × (Nat → Int32))
noncomputable def sIf {α : Type} (P : Prop) (x y : α) : α := @ite α P (Classical.propDecidable P) x y
theorem sIf_t {α : Type} {P : Prop} {x y : α} (h : P) : sIf P x y = x := if_pos h
theorem sIf_f {α : Type} {P : Prop} {x y : α} (h : ¬ P) : sIf P x y = y := if_neg h
noncomputable def semi (T : Nat → Nat) (n p : Nat) (u : Nat → Int32) : Rs := sIf (tkK T n p = 2) (Sum.inr (tkE T n p, u)) (Sum.inl (tkS T n p))
def poolOK (T : Nat → Nat) (n p q : Nat) (u : Nat → Int32) : Prop := okR T n q 4 14 ∧ tkV T n p % zz (tkV T n q) = 0 ∧ ¬ anyB (fun r => ovl (poV' u r) (tkV T n p) (tkV T n q)) (pnV' u) = true
noncomputable def poolI (T : Nat → Nat) (n st p : Nat) (u : Nat → Int32) : Rs := sIf (4 ≤ pnV' u) (Sum.inl st) (sIf (okR T n p 0 65535) (sIf (poolOK T n p (tkE T n p) u) (semi T n (tkE T n (tkE T n p)) (apM u (pnV' u) (tkV T n p) (tkV T n (tkE T n p)))) (Sum.inl (tkS T n (tkE T n p)))) (Sum.inl (tkS T n p)))
noncomputable def netJ (T : Nat → Nat) (n p q : Nat) (u : Nat → Int32) (o : Option Nat) : Rs := match o with
  | none => Sum.inl (tkS T n q)
  | some g => semi T n (tkE T n q) (pcM u (tkV T n p) (nI g) (nI (tkV T n q)))
noncomputable def netI (T : Nat → Nat) (n p : Nat) (u : Nat → Int32) : Rs := sIf (okR T n p 0 11 ∧ u (14 + 5 * tkV T n p) = -1) (sIf (okR T n (tkE T n p) 5 16) (netJ T n p (tkE T n p) u (plF u (tkV T n (tkE T n p)))) (Sum.inl (tkS T n (tkE T n p)))) (Sum.inl (tkS T n p))
def hsM (u : Nat → Int32) (h k q : Nat) : Nat → Int32 := upd (upd u (74 + 6 * h) (nI k)) (74 + 6 * h + 1) (nI q)
noncomputable def hostI (T : Nat → Nat) (n p : Nat) (u : Nat → Int32) : Rs := sIf (okR T n p 0 15 ∧ u (74 + 6 * tkV T n p) = -1) (sIf (okR T n (tkE T n p) 0 11 ∧ u (14 + 5 * tkV T n (tkE T n p)) ≠ -1) (sIf (tkK T n (tkE T n (tkE T n p)) = 7) (semi T n (tkE T n (tkE T n (tkE T n p))) (hsM u (tkV T n p) (tkV T n (tkE T n p)) 1)) (semi T n (tkE T n (tkE T n p)) (hsM u (tkV T n p) (tkV T n (tkE T n p)) 0))) (Sum.inl (tkS T n (tkE T n p)))) (Sum.inl (tkS T n p))
noncomputable def polI (T : Nat → Nat) (n p : Nat) (u : Nat → Int32) : Rs := sIf (okR T n p 0 3) (semi T n (tkE T n p) (upd u 3 (nI (tkV T n p)))) (Sum.inl (tkS T n p))
noncomputable def itemI (T : Nat → Nat) (n p : Nat) (u : Nat → Int32) : Rs := if tkK T n p = 4 then poolI T n (tkS T n p) (tkE T n p) u else if tkK T n p = 5 then netI T n (tkE T n p) u else if tkK T n p = 6 then hostI T n (tkE T n p) u else if tkK T n p = 8 then polI T n (tkE T n p) u else Sum.inl (tkS T n p)
/-- what is left of the class after an item -/
def ECl (D D' : Dt) : Prop := (∀ k b, ¬ ZQ k b → k ≠ 22 → D' k b = D k b) ∧ D' 22 0 1 = D 22 0 1
theorem ECl.rf {D : Dt} : ECl D D := ⟨fun _ _ _ _ => rfl, rfl⟩
theorem ECl.tr {D D1 D2 : Dt} (h : ECl D D1) (g : ECl D1 D2) : ECl D D2 := ⟨fun k b a1 a2 => (g.1 k b a1 a2).trans (h.1 k b a1 a2), g.2.trans h.2⟩
theorem ECl.t {D D' : Dt} (h : E22 J22 D D') : ECl D D' := ⟨fun k b _ a => h.1 k b a, h.2 1 (by simp [J22])⟩
theorem ECl.q {D D' : Dt} (h : Eqx ZQ D D') : ECl D D' := ⟨fun k b a _ => h k b a, by rw [h 22 0 (by simp [ZQ])]⟩
theorem TXc.cl {D D' : Dt} {n : Nat} {T : Nat → Nat} (h : TXc D n T) (hE : ECl D D') : TXc D' n T := h.fr hE.2 (hE.1 23 0 (by simp [ZQ]) (by decide))
/-- the class has read as the item says -/
def RdC (D D' : Dt) (T : Nat → Nat) (n : Nat) (b : Bool) (r : Rs) : Prop := ECl D D' ∧ (∀ st, r = Sum.inl st → b = false ∧ D' 22 0 4 = nI st) ∧ (∀ p u, r = Sum.inr (p, u) → b = true ∧ D' 22 0 2 = nI p ∧ RelS D' 1 u)
theorem RdC_err {D D' : Dt} {T : Nat → Nat} {n st : Nat} (h : ECl D D') (h4 : D' 22 0 4 = nI st) : RdC D D' T n false (Sum.inl st) := ⟨h, fun s q => by cases q; exact ⟨rfl, h4⟩, fun p u q => by cases q⟩
theorem RdC.pre {D D1 D' : Dt} {T : Nat → Nat} {n : Nat} {b : Bool} {r : Rs} (hE : ECl D D1) (h : RdC D1 D' T n b r) : RdC D D' T n b r := ⟨hE.tr h.1, h.2⟩
theorem p_readRange {D : Dt} {n p lo hi : Nat} {T : Nat → Nat} (h : TXc D n T) (h2 : D 22 0 2 = nI p) (hp : p ≤ n) (hlo : lo < 2 ^ 31) (hhi : hi < 100000) : ∃ D', f_X4_readRange (nI lo) (nI hi) D = some (sIf (okR T n p lo hi) 1 0, D') ∧ CT D' T n p ∧ E22 J22 D D' := by
  obtain ⟨D1, a1, a2, a3⟩ := p_readToken h h2 hp
  have hb : tkK T n p ≤ 8 := by
    simp only [tkK]
    have v1 := wdK_v (T := T) (st := tkS T n p) (e := run isL T n (tkS T n p))
    have v2 := nmK_v (T := T) (st := tkS T n p) (e := run isDg T n (tkS T n p))
    by_cases c : n ≤ tkS T n p
    · rw [if_pos c]; omega
    · rw [if_neg c]
      by_cases c1 : isL (T (tkS T n p)) = true
      · rw [if_pos c1]; omega
      · rw [if_neg c1]
        by_cases c2 : isDg (T (tkS T n p)) = true
        · rw [if_pos c2]; omega
        · rw [if_neg c2]
          by_cases c3 : T (tkS T n p) = 59
          · rw [if_pos c3]; omega
          · rw [if_neg c3]; omega
  refine ⟨D1, ?_, a2, a3⟩
  rw [f_X4_readRange, a1, Option.bind_some, a2.2.2.1, show (3 : Int32) = nI 3 from rfl, if_eq (by omega) (by decide)]
  by_cases c : tkK T n p = 3
  · have hn := h.2.1
    have hV : tkV T n p < 100000 := by
      -- at most five digits
      have c' := c
      rw [tkK] at c'
      by_cases d0 : n ≤ tkS T n p
      · rw [if_pos d0] at c'; omega
      · rw [if_neg d0] at c'
        by_cases d1 : isL (T (tkS T n p)) = true
        · rw [if_pos d1] at c'
          have v1 := wdK_v (T := T) (st := tkS T n p) (e := run isL T n (tkS T n p))
          omega
        · rw [if_neg d1] at c'
          by_cases d2 : isDg (T (tkS T n p)) = true
          · rw [if_pos d2] at c'
            have hle : run isDg T n (tkS T n p) - tkS T n p ≤ 5 := by
              rcases Nat.lt_or_ge 5 (run isDg T n (tkS T n p) - tkS T n p) with w | w
              · rw [nmK, if_pos (Or.inl w)] at c'; cases c'
              · exact w
            obtain ⟨r1, r2, r3⟩ := run_b (P := isDg) (T := T) (n := n) (p := tkS T n p) (by omega)
            have z2 := (tdN_eq (T := T) (st := tkS T n p) _ hle (fun i hi => r3 _ (by omega) (by omega))).2
            have z3 : 10 ^ (run isDg T n (tkS T n p) - tkS T n p) ≤ 10 ^ 5 := Nat.pow_le_pow_right (by decide) hle
            show Nof T (tkS T n p) (run isDg T n (tkS T n p) - tkS T n p) < 100000
            omega
          · rw [if_neg d2] at c'
            by_cases d3 : T (tkS T n p) = 59
            · rw [if_pos d3] at c'; omega
            · rw [if_neg d3] at c'; omega
    rw [if_pos c, a2.2.2.2 c, isIn_eq, Option.bind_some, if_b]
    by_cases d : okR T n p lo hi
    · rw [sIf_t d, if_pos ⟨nI_le d.2.1 (by omega), nI_le d.2.2 (by omega)⟩]
    · rw [sIf_f d, if_neg]
      rintro ⟨q1, q2⟩
      exact d ⟨c, (nI_leI hlo (by omega)).mp q1, (nI_leI (by omega) (by omega)).mp q2⟩
  · rw [if_neg c, sIf_f (fun q => c q.1)]
theorem tkK_le {T : Nat → Nat} {n p : Nat} : tkK T n p ≤ 8 := by
  simp only [tkK]
  have v1 := wdK_v (T := T) (st := tkS T n p) (e := run isL T n (tkS T n p))
  have v2 := nmK_v (T := T) (st := tkS T n p) (e := run isDg T n (tkS T n p))
  by_cases c : n ≤ tkS T n p
  · rw [if_pos c]; omega
  · rw [if_neg c]
    by_cases c1 : isL (T (tkS T n p)) = true
    · rw [if_pos c1]; omega
    · rw [if_neg c1]
      by_cases c2 : isDg (T (tkS T n p)) = true
      · rw [if_pos c2]; omega
      · rw [if_neg c2]
        by_cases c3 : T (tkS T n p) = 59
        · rw [if_pos c3]; omega
        · rw [if_neg c3]; omega
theorem p_readSemi {D : Dt} {n p : Nat} {T : Nat → Nat} {u : Nat → Int32} (h : TXc D n T) (h2 : D 22 0 2 = nI p) (hp : p ≤ n) (hR : RelS D 1 u) : ∃ b D', f_X4_readSemicolon D = some (b01 b, D') ∧ RdC D D' T n b (semi T n p u) := by
  obtain ⟨D1, a1, a2, a3⟩ := p_readToken h h2 hp
  have hk := tkK_le (T := T) (n := n) (p := p)
  have st : f_X4_readSemicolon D = if tkK T n p = 2 then some (1, D1) else some (0, D1) := by
    rw [f_X4_readSemicolon, a1, Option.bind_some, a2.2.2.1, show (2 : Int32) = nI 2 from rfl, if_eq (by omega) (by decide)]
  rw [st, semi]
  by_cases c : tkK T n p = 2
  · rw [if_pos c, sIf_t c]
    refine ⟨true, D1, rfl, ECl.t a3, (fun s q => by cases q), fun p' u' q => ?_⟩
    cases q
    exact ⟨rfl, a2.1, hR.fr (fun k hk => a3.1 k 1 (by omega))⟩
  · rw [if_neg c, sIf_f c]
    exact ⟨false, D1, rfl, RdC_err (ECl.t a3) a2.2.1⟩
theorem gd_b01 {β : Type} (b : Bool) (F : Option β) : gd (isb (b01 b)) F = F := by
  cases b <;> rfl
theorem p_readPool {D : Dt} {n p st : Nat} {T : Nat → Nat} {u : Nat → Int32} (h : TXc D n T) (h2 : D 22 0 2 = nI p) (h4 : D 22 0 4 = nI st) (hp : p ≤ n) (hR : RelS D 1 u) (hG : GeoS u) : ∃ b D', f_X4_readPool D = some (b01 b, D') ∧ RdC D D' T n b (poolI T n st p u) := by
  obtain ⟨us, hV, hP, hGe⟩ := GeoS_po hG
  have hN := hGe.1
  have e5 : D 1 1 1 = nI (pnV' u) := hR.2.1.2.1.trans hP.1
  rw [f_X4_readPool, e5, poolI, show (4 : Int32) = nI 4 from rfl, if_le (by decide) (by omega)]
  by_cases c : 4 ≤ pnV' u
  · rw [if_pos c, sIf_t c]
    exact ⟨false, D, rfl, RdC_err ECl.rf h4⟩
  · rw [if_neg c, sIf_f c]
    obtain ⟨b1, b2, b3, b4⟩ := tk_b (T := T) hp
    obtain ⟨D1, a1, a2, a3⟩ := p_readRange (lo := 0) (hi := 65535) h h2 hp (by decide) (by decide)
    rw [show (0 : Int32) = nI 0 from rfl, show (65535 : Int32) = nI 65535 from rfl, a1, Option.bind_some]
    simp only
    by_cases c1 : okR T n p 0 65535
    · have hT1 := h.cl (ECl.t a3)
      obtain ⟨D2, d1, d2, d3⟩ := p_readRange (lo := 4) (hi := 14) hT1 a2.1 b3 (by decide) (by decide)
      have hE2 := (ECl.t a3).tr (ECl.t d3)
      have hR2 : RelS D2 1 u := hR.fr (fun k hk => (d3.1 k 1 (by omega)).trans (a3.1 k 1 (by omega)))
      rw [sIf_t c1, sIf_t c1, if_neg (show ¬ (1 : Int32) = nI 0 by decide), show (14 : Int32) = nI 14 from rfl, d1, Option.bind_some]
      simp only
      by_cases c2 : okR T n (tkE T n p) 4 14
      · have hl : tkV T n (tkE T n p) ≤ 14 := c2.2.2
        have hg : tkV T n p ≤ 65535 := c1.2.2
        have hm := p_meetsPool (g := tkV T n p) (l := tkV T n (tkE T n p)) (hR2.2.1.pov hP hN) hN hGe.pob (by omega) (by omega)
        rw [sIf_t c2, if_neg (show ¬ (1 : Int32) = nI 0 by decide), a2.2.2.2 c1.1, d2.2.2.2 c2.1, isAligned_eq (by omega) (by omega), Option.bind_some, show nI 0 = (0 : Int32) from rfl, if_b, hm, Option.bind_some, b01_0]
        by_cases c3 : tkV T n p % zz (tkV T n (tkE T n p)) = 0
        · rw [if_pos c3]
          by_cases c4 : anyB (fun r => ovl (poV' u r) (tkV T n p) (tkV T n (tkE T n p))) (pnV' u) = true
          · rw [if_pos c4, sIf_f (fun q => q.2.2 c4)]
            exact ⟨false, D2, rfl, RdC_err hE2 d2.2.1⟩
          · rw [if_neg c4, sIf_t ⟨c2, c3, c4⟩, p_putPool (by omega) (hR2.2.1.2.1.trans hP.1), Option.bind_some]
            have hR3 : RelS (updD (updD (updD D2 2 1 (pnV' u) (nI (tkV T n p))) 3 1 (pnV' u) (nI (tkV T n (tkE T n p)))) 1 1 1 (nI (pnV' u + 1))) 1 (apM u (pnV' u) (tkV T n p) (tkV T n (tkE T n p))) := by
              obtain ⟨r1, r2, r3⟩ := hR2
              exact ⟨r1.fx (by rw [updD_other _ _ _ (by omega), updD_other _ _ _ (by omega), updD_other _ _ _ (by omega)]) (apM_ne (by omega) (by omega) (by omega)) (apM_ne (by omega) (by omega) (by omega)) (apM_ne (by omega) (by omega) (by omega)) (apM_ne (by omega) (by omega) (by omega)), RelP_ap (by omega) hP.1 r2, r3.fx (fun k k1 k2 => by rw [updD_other _ _ _ (by omega), updD_other _ _ _ (by omega), updD_other _ _ _ (by omega)]) (fun j j1 j2 => apM_ne (by omega) (by omega) (by omega))⟩
            have hE3 : ECl D (updD (updD (updD D2 2 1 (pnV' u) (nI (tkV T n p))) 3 1 (pnV' u) (nI (tkV T n (tkE T n p)))) 1 1 1 (nI (pnV' u + 1))) := hE2.tr (ECl.q (((Eqx.upd (by simp [ZQ])).tr (Eqx.upd (by simp [ZQ]))).tr (Eqx.upd (by simp [ZQ]))))
            have f2 : updD (updD (updD D2 2 1 (pnV' u) (nI (tkV T n p))) 3 1 (pnV' u) (nI (tkV T n (tkE T n p)))) 1 1 1 (nI (pnV' u + 1)) 22 0 2 = nI (tkE T n (tkE T n p)) := by
              rw [updD_other _ _ _ (by omega), updD_other _ _ _ (by omega), updD_other _ _ _ (by omega)]
              exact d2.1
            obtain ⟨b, D4, e1, e2⟩ := p_readSemi (h.cl hE3) f2 (tk_b b3).2.2.1 hR3
            rw [e1, Option.bind_some]
            simp only
            rw [gd_b01]
            exact ⟨b, D4, rfl, e2.pre hE3⟩
        · rw [if_neg c3, sIf_f (fun q => c3 q.2.1)]
          exact ⟨false, D2, rfl, RdC_err hE2 d2.2.1⟩
      · rw [sIf_f c2, if_pos (show (0 : Int32) = nI 0 from rfl), sIf_f (fun q => c2 q.1)]
        exact ⟨false, D2, rfl, RdC_err hE2 d2.2.1⟩
    · rw [sIf_f c1, sIf_f c1, if_pos (show (0 : Int32) = nI 0 from rfl)]
      exact ⟨false, D1, rfl, RdC_err (ECl.t a3) a2.2.1⟩
theorem p_readNet {D : Dt} {n p : Nat} {T : Nat → Nat} {u : Nat → Int32} (h : TXc D n T) (h2 : D 22 0 2 = nI p) (hp : p ≤ n) (hR : RelS D 1 u) (hG : Good u) : ∃ b D', f_X4_readNet D = some (b01 b, D') ∧ RdC D D' T n b (netI T n p u) := by
  obtain ⟨b1, b2, b3, b4⟩ := tk_b (T := T) hp
  obtain ⟨D1, a1, a2, a3⟩ := p_readRange (lo := 0) (hi := 11) h h2 hp (by decide) (by decide)
  rw [f_X4_readNet, show (0 : Int32) = nI 0 from rfl, show (11 : Int32) = nI 11 from rfl, a1, Option.bind_some, netI]
  simp only
  by_cases c1 : okR T n p 0 11
  · have hk : tkV T n p < 12 := by have := c1.2.2; omega
    have hR1 : RelS D1 1 u := hR.fr (fun k hk => a3.1 k 1 (by omega))
    rw [sIf_t c1, if_neg (show ¬ (1 : Int32) = nI 0 by decide), a2.2.2.2 c1.1, hasBlock_s hR1.2.1 hk, Option.bind_some, show nI 0 = (0 : Int32) from rfl, if_b']
    by_cases c2 : u (14 + 5 * tkV T n p) = -1
    · rw [if_pos c2, sIf_t ⟨c1, c2⟩]
      have hT1 := h.cl (ECl.t a3)
      obtain ⟨D2, d1, d2, d3⟩ := p_readRange (lo := 5) (hi := 16) hT1 a2.1 b3 (by decide) (by decide)
      have hE2 := (ECl.t a3).tr (ECl.t d3)
      have hR2 : RelS D2 1 u := hR1.fr (fun k hk => d3.1 k 1 (by omega))
      rw [show (5 : Int32) = nI 5 from rfl, show (16 : Int32) = nI 16 from rfl, d1, Option.bind_some]
      simp only
      by_cases c3 : okR T n (tkE T n p) 5 16
      · obtain ⟨D3, f1, f2⟩ := plF_cls (b := 0) (m := tkV T n (tkE T n p)) hR2.2.1 hG.2.1 hG.pol c3.2.2
        have hE3 := hE2.tr (ECl.q (f2.mono SV_ZQ))
        have hR3 : RelS D3 1 u := hR2.fr (fun k hk => f2 k 1 (fun w => by have := w.1; omega))
        have g22 : D3 22 0 = D2 22 0 := f2 22 0 (fun w => by have := w.2.1; omega)
        rw [sIf_t c3, if_neg (show ¬ (1 : Int32) = 0 by decide), sIf_t c3, d2.2.2.2 c3.1, f1, Option.bind_some]
        simp only
        rw [oI_m1 (plF_lt hG.2.1)]
        cases hpl : plF u (tkV T n (tkE T n p)) with
        | none =>
          rw [if_pos rfl]
          refine ⟨false, D3, rfl, RdC_err hE3 ?_⟩
          rw [g22]
          exact d2.2.1
        | some g =>
          rw [if_neg (by simp), oI_s, p_putCurrent hk, Option.bind_some]
          have hE4 : ECl D (updD (updD D3 4 1 (tkV T n p) (nI g)) 5 1 (tkV T n p) (nI (tkV T n (tkE T n p)))) := hE3.tr (ECl.q ((Eqx.upd (by simp [ZQ])).tr (Eqx.upd (by simp [ZQ]))))
          have g2 : updD (updD D3 4 1 (tkV T n p) (nI g)) 5 1 (tkV T n p) (nI (tkV T n (tkE T n p))) 22 0 2 = nI (tkE T n (tkE T n p)) := by
            rw [updD_other _ _ _ (by omega), updD_other _ _ _ (by omega), g22]
            exact d2.1
          obtain ⟨b, D5, e1, e2⟩ := p_readSemi (h.cl hE4) g2 (tk_b b3).2.2.1 (RelS_pc hR3 hk)
          rw [e1, Option.bind_some]
          simp only
          rw [gd_b01]
          exact ⟨b, D5, rfl, e2.pre hE4⟩
      · rw [sIf_f c3, if_pos rfl, sIf_f c3]
        exact ⟨false, D2, rfl, RdC_err hE2 d2.2.1⟩
    · rw [if_neg c2, sIf_f (fun q => c2 q.2)]
      exact ⟨false, D1, rfl, RdC_err (ECl.t a3) a2.2.1⟩
  · rw [sIf_f c1, sIf_f (fun q => c1 q.1), if_pos (show (0 : Int32) = nI 0 from rfl)]
    exact ⟨false, D1, rfl, RdC_err (ECl.t a3) a2.2.1⟩
theorem RelS_hs {D : Dt} {b h k q : Nat} {u : Nat → Int32} (hR : RelS D b u) (hh : h < 16) : RelS (updD (updD D 10 b h (nI k)) 11 b h (nI q)) b (hsM u h k q) := by
  obtain ⟨r1, r2, r3⟩ := hR
  have ne : ∀ j, j < 74 → hsM u h k q j = u j := fun j hj => by rw [hsM, pk_un (by omega), pk_un (by omega)]
  refine ⟨r1.fx (by rw [updD_other _ _ _ (by omega), updD_other _ _ _ (by omega)]) (ne 0 (by omega)) (ne 1 (by omega)) (ne 2 (by omega)) (ne 4 (by omega)), r2.fx (fun k k1 k2 => by rw [updD_other _ _ _ (by omega), updD_other _ _ _ (by omega)]) (fun j j1 j2 _ => ne j (by omega)), ?_⟩
  intro m hm
  obtain ⟨w0, w2, w4, w1, w3, w5⟩ := r3 m hm
  simp only [updD, upd, hsM]
  grind (splits := 20)
theorem p_readHost {D : Dt} {n p : Nat} {T : Nat → Nat} {u : Nat → Int32} (h : TXc D n T) (h2 : D 22 0 2 = nI p) (hp : p ≤ n) (hR : RelS D 1 u) : ∃ b D', f_X4_readHost D = some (b01 b, D') ∧ RdC D D' T n b (hostI T n p u) := by
  obtain ⟨b1, b2, b3, b4⟩ := tk_b (T := T) hp
  obtain ⟨D1, a1, a2, a3⟩ := p_readRange (lo := 0) (hi := 15) h h2 hp (by decide) (by decide)
  rw [f_X4_readHost, show (0 : Int32) = nI 0 from rfl, show (15 : Int32) = nI 15 from rfl, show (11 : Int32) = nI 11 from rfl, a1, Option.bind_some, hostI]
  simp only
  by_cases c1 : okR T n p 0 15
  · have hk : tkV T n p < 16 := by have := c1.2.2; omega
    have hR1 : RelS D1 1 u := hR.fr (fun k hk => a3.1 k 1 (by omega))
    rw [sIf_t c1, if_neg (show ¬ (1 : Int32) = nI 0 by decide), a2.2.2.2 c1.1, isMember_s hR1.2.2 hk, Option.bind_some, show nI 0 = (0 : Int32) from rfl, if_b']
    by_cases c2 : u (74 + 6 * tkV T n p) = -1
    · rw [if_pos c2, sIf_t ⟨c1, c2⟩]
      have hT1 := h.cl (ECl.t a3)
      obtain ⟨D2, d1, d2, d3⟩ := p_readRange (lo := 0) (hi := 11) hT1 a2.1 b3 (by decide) (by decide)
      have hE2 := (ECl.t a3).tr (ECl.t d3)
      have hR2 : RelS D2 1 u := hR1.fr (fun k hk => d3.1 k 1 (by omega))
      rw [show (0 : Int32) = nI 0 from rfl, d1, Option.bind_some]
      simp only
      by_cases c3 : okR T n (tkE T n p) 0 11
      · have hk2 : tkV T n (tkE T n p) < 12 := by have := c3.2.2; omega
        rw [sIf_t c3, if_neg (show ¬ (1 : Int32) = nI 0 by decide), d2.2.2.2 c3.1, hasBlock_s hR2.2.1 hk2, Option.bind_some, show nI 0 = (0 : Int32) from rfl, if_b']
        by_cases c4 : u (14 + 5 * tkV T n (tkE T n p)) = -1
        · rw [if_pos c4, sIf_f (fun q => q.2 c4)]
          exact ⟨false, D2, rfl, RdC_err hE2 d2.2.1⟩
        · rw [if_neg c4, sIf_t ⟨c3, c4⟩]
          obtain ⟨b1', b2', b3', b4'⟩ := tk_b (T := T) b3
          obtain ⟨D3, f1, f2, f3⟩ := p_readToken (h.cl hE2) d2.1 b3'
          have hE3 := hE2.tr (ECl.t f3)
          have hR3 : RelS D3 1 u := hR2.fr (fun k hk => f3.1 k 1 (by omega))
          have hk8 := tkK_le (T := T) (n := n) (p := tkE T n (tkE T n p))
          rw [f1, Option.bind_some, f2.2.2.1, show (7 : Int32) = nI 7 from rfl, if_eq (by omega) (by decide)]
          have hj : ∀ (x1 x2 t6 : Int32) (q : Nat), j_X4_readHost_113_t7 (x1, D1) (x2, D2) D3 t6 (nI q) = (fun D8 => if t6 = 0 then (if (D8 22 0 3) = (2 : Int32) then (some ((1 : Int32), D8)) else (some ((0 : Int32), D8))) else ((f_X4_readSemicolon D8).bind (fun o9 => gd (isb o9.1) (some (o9.1, o9.2))))) (updD (updD D3 10 1 (tkV T n p) (nI (tkV T n (tkE T n p)))) 11 1 (tkV T n p) (nI q)) := by
            intro x1 x2 t6 q
            rw [j_X4_readHost_113_t7, f_X2_enrol]
            simp only
            rw [a2.2.2.2 c1.1, d2.2.2.2 c3.1, wr_at rfl hk (by decide), wr_at rfl hk (by decide), Option.bind_some]
          have hE4 : ∀ q : Nat, ECl D (updD (updD D3 10 1 (tkV T n p) (nI (tkV T n (tkE T n p)))) 11 1 (tkV T n p) (nI q)) := fun q => hE3.tr (ECl.q ((Eqx.upd (by simp [ZQ])).tr (Eqx.upd (by simp [ZQ]))))
          have g22 : ∀ q : Nat, updD (updD D3 10 1 (tkV T n p) (nI (tkV T n (tkE T n p)))) 11 1 (tkV T n p) (nI q) 22 0 = D3 22 0 := fun q => by rw [updD_other _ _ _ (by omega), updD_other _ _ _ (by omega)]
          by_cases c5 : tkK T n (tkE T n (tkE T n p)) = 7
          · rw [if_pos c5, sIf_t c5, j_X4_readHost_94_t6, if_neg (by decide), show (1 : Int32) = nI 1 from rfl, hj _ _ (nI 1) 1]
            simp only
            rw [if_neg (show ¬ nI 1 = (0 : Int32) by decide)]
            obtain ⟨b, D5, e1, e2⟩ := p_readSemi (h.cl (hE4 1)) (by rw [g22]; exact f2.1) (tk_b b3').2.2.1 (RelS_hs hR3 hk)
            rw [e1, Option.bind_some]
            simp only
            rw [gd_b01]
            exact ⟨b, D5, rfl, e2.pre (hE4 1)⟩
          · rw [if_neg c5, sIf_f c5, j_X4_readHost_94_t6, if_pos rfl, show (0 : Int32) = nI 0 from rfl, hj _ _ (nI 0) 0]
            simp only
            rw [if_pos (show nI 0 = (0 : Int32) from rfl), g22, f2.2.2.1, show (2 : Int32) = nI 2 from rfl, if_eq (by omega) (by decide), semi]
            by_cases c6 : tkK T n (tkE T n (tkE T n p)) = 2
            · rw [if_pos c6, sIf_t c6]
              refine ⟨true, _, rfl, hE4 0, (fun s q => by cases q), fun p' u' q => ?_⟩
              cases q
              exact ⟨rfl, by rw [g22]; exact f2.1, RelS_hs hR3 hk⟩
            · rw [if_neg c6, sIf_f c6]
              exact ⟨false, _, rfl, RdC_err (hE4 0) (by rw [g22]; exact f2.2.1)⟩
      · rw [sIf_f c3, if_pos (show (0 : Int32) = nI 0 from rfl), sIf_f (fun q => c3 q.1)]
        exact ⟨false, D2, rfl, RdC_err hE2 d2.2.1⟩
    · rw [if_neg c2, sIf_f (fun q => c2 q.2)]
      exact ⟨false, D1, rfl, RdC_err (ECl.t a3) a2.2.1⟩
  · rw [sIf_f c1, sIf_f (fun q => c1 q.1), if_pos (show (0 : Int32) = nI 0 from rfl)]
    exact ⟨false, D1, rfl, RdC_err (ECl.t a3) a2.2.1⟩
theorem RelS_po {D : Dt} {b : Nat} {x : Int32} {u : Nat → Int32} (h : RelS D b u) : RelS (updD D 1 b 0 x) b (upd u 3 x) := by
  obtain ⟨r1, r2, r3⟩ := h
  refine ⟨r1.fx (updD_other _ _ _ (by omega)) (pk_un (by decide)) (pk_un (by decide)) (pk_un (by decide)) (pk_un (by decide)), ?_, r3.fx (fun k k1 k2 => updD_other _ _ _ (by omega)) (fun j j1 j2 => pk_un (by omega))⟩
  unfold RelP at *
  simp only [updD, upd]
  refine ⟨by grind, by grind, by grind, fun m hm => ?_⟩
  obtain ⟨w1, w2, w3, w4⟩ := r2.2.2.2 m hm
  grind
theorem p_readPolicy {D : Dt} {n p : Nat} {T : Nat → Nat} {u : Nat → Int32} (h : TXc D n T) (h2 : D 22 0 2 = nI p) (hp : p ≤ n) (hR : RelS D 1 u) : ∃ b D', f_X4_readPolicy D = some (b01 b, D') ∧ RdC D D' T n b (polI T n p u) := by
  obtain ⟨b1, b2, b3, b4⟩ := tk_b (T := T) hp
  obtain ⟨D1, a1, a2, a3⟩ := p_readRange (lo := 0) (hi := 3) h h2 hp (by decide) (by decide)
  rw [f_X4_readPolicy, show (0 : Int32) = nI 0 from rfl, show (3 : Int32) = nI 3 from rfl, a1, Option.bind_some, polI]
  simp only
  by_cases c1 : okR T n p 0 3
  · have hR1 : RelS D1 1 u := hR.fr (fun k hk => a3.1 k 1 (by omega))
    rw [sIf_t c1, if_neg (show ¬ (1 : Int32) = nI 0 by decide), sIf_t c1, a2.2.2.2 c1.1]
    simp only [pu]
    have hE2 : ECl D (updD D1 1 1 0 (nI (tkV T n p))) := (ECl.t a3).tr (ECl.q (Eqx.upd (by simp [ZQ])))
    obtain ⟨b, D5, e1, e2⟩ := p_readSemi (h.cl hE2) (by rw [updD_other _ _ _ (by omega)]; exact a2.1) b3 (RelS_po hR1)
    rw [e1, Option.bind_some]
    simp only
    rw [gd_b01]
    exact ⟨b, D5, rfl, e2.pre hE2⟩
  · rw [sIf_f c1, sIf_f c1, if_pos (show (0 : Int32) = nI 0 from rfl)]
    exact ⟨false, D1, rfl, RdC_err (ECl.t a3) a2.2.1⟩
