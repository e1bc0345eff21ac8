/-! the reference's tokens -/
def TXr (D : Dt) (n : Nat) (T : Nat → Nat) : Prop := D 32 0 4 = nI n ∧ n ≤ 150 ∧ ∀ i, i < n → T i < 256 ∧ (D 35 0 i &&& 255) = nI (T i)
def E32 (J : Nat → Prop) (D D' : Dt) : Prop := (∀ k b, k ≠ 32 → D' k b = D k b) ∧ ∀ j, ¬ J j → D' 32 0 j = D 32 0 j
theorem E32.rf {J : Nat → Prop} {D : Dt} : E32 J D D := ⟨fun _ _ _ => rfl, fun _ _ => rfl⟩
theorem E32.tr {J : Nat → Prop} {D D1 D2 : Dt} (h : E32 J D D1) (g : E32 J D1 D2) : E32 J D D2 := ⟨fun k b a => (g.1 k b a).trans (h.1 k b a), fun j a => (g.2 j a).trans (h.2 j a)⟩
theorem E32.mono {J K : Nat → Prop} {D D' : Dt} (h : E32 J D D') (hJ : ∀ j, J j → K j) : E32 K D D' := ⟨h.1, fun j a => h.2 j (fun q => a (hJ j q))⟩
theorem E32.u {J : Nat → Prop} {D : Dt} {j : Nat} {x : Int32} (h : J j) : E32 J D (updD D 32 0 j x) := ⟨fun k b a => updD_other _ _ _ (by omega), fun i a => by
  rw [updD_at, if_neg]
  rintro ⟨_, _, rfl⟩
  exact a h⟩
theorem E32.l {J : Nat → Prop} {D : Dt} {x : Int64} (h : J 13) (h2 : J 113) : E32 J D (updL D x) := (E32.u h).tr (E32.u h2)
def tld (D : Dt) : Int64 := mkL (D 32 0 13) (D 32 0 113)
theorem tld_L (D : Dt) (x : Int64) : tld (updL D x) = x := by
  rw [tld, updL, show updD (updD D 32 0 13 (hiL x)) 32 0 113 (loL x) 32 0 13 = hiL x by simp [updD_at], show updD (updD D 32 0 13 (hiL x)) 32 0 113 (loL x) 32 0 113 = loL x by simp [updD_at]]
  exact mkL_hl x
theorem tld_u {D : Dt} {j : Nat} {x : Int32} (h : j ≠ 13) (h2 : j ≠ 113) : tld (updD D 32 0 j x) = tld D := by
  rw [tld, tld, updD_at, if_neg (by omega), updD_at, if_neg (by omega)]
theorem updL_at {D : Dt} {x : Int64} {j : Nat} (h : j ≠ 13) (h2 : j ≠ 113) : updL D x 32 0 j = D 32 0 j := by
  rw [updL, updD_at, if_neg (by omega), updD_at, if_neg (by omega)]
theorem TXr.fr {D D' : Dt} {n : Nat} {T : Nat → Nat} (h : TXr D n T) (h1 : D' 32 0 4 = D 32 0 4) (h2 : D' 35 0 = D 35 0) : TXr D' n T := by
  refine ⟨h1.trans h.1, h.2.1, fun i hi => ?_⟩
  rw [h2]
  exact h.2.2 i hi
def hrV (T : Nat → Nat) (n p : Nat) : Int32 := if p < n then nI (T p) else -1
theorem here_eq {D : Dt} {n p : Nat} {T : Nat → Nat} (h : TXr D n T) (hp : p < 2 ^ 31) (h10 : D 32 0 10 = nI p) : f_X10_here D = some (hrV T n p) := by
  have hn := h.2.1
  rw [f_X10_here, h.1, h10, if_le (by omega) hp, hrV]
  by_cases c : n ≤ p
  · rw [if_pos c, if_neg (by omega)]
  · rw [if_neg c, rd_at rfl (show p < 150 by omega) (by decide), (h.2.2 p (by omega)).2, if_pos (by omega)]
theorem in_hr {α : Type} {T : Nat → Nat} {n p : Nat} {x y : α} {P : Nat → Bool} (a b : Nat) (ha : a < 2 ^ 31) (hb : b < 2 ^ 31) (hT : p < n → T p < 256) (hP : ∀ c, P c = true ↔ a ≤ c ∧ c ≤ b) : (if nI a ≤ hrV T n p ∧ hrV T n p ≤ nI b then x else y) = if p < n ∧ P (T p) = true then x else y := by
  have e : (nI a ≤ hrV T n p ∧ hrV T n p ≤ nI b) ↔ (p < n ∧ P (T p) = true) := by
    rw [hrV]
    by_cases c : p < n
    · have := hT c
      rw [if_pos c, nI_leI ha (by omega), nI_leI (by omega) hb, hP]
      exact ⟨fun q => ⟨c, q⟩, fun q => q.2⟩
    · rw [if_neg c]
      refine ⟨fun q => ?_, fun q => absurd q.1 c⟩
      exfalso
      have := Int32.le_iff_toInt_le.mp q.1
      rw [nI_toInt ha] at this
      have e : (-1 : Int32).toInt = -1 := by decide
      omega
  by_cases c : p < n ∧ P (T p) = true
  · rw [if_pos (e.mpr c), if_pos c]
  · rw [if_neg (fun q => c (e.mp q)), if_neg c]
def K10 : Nat → Prop := fun j => j = 10
theorem p_rt0 {D : Dt} {n p : Nat} {T : Nat → Nat} (h : TXr D n T) (h2 : D 32 0 10 = nI p) (hp : p ≤ n) : ∃ D', lp l_X10_readsToken_0 FU D = some D' ∧ D' 32 0 10 = nI (run isSp T n p) ∧ E32 K10 D D' := by
  have hn := h.2.1
  apply lp_ex (fun E => ∃ q, E 32 0 10 = nI q ∧ q ≤ n ∧ run isSp T n q = run isSp T n p ∧ E32 K10 D E) (fun E => 150 - (E 32 0 10).toNatClampNeg) _
  · exact ⟨p, h2, hp, rfl, E32.rf⟩
  · exact FU_big (by omega)
  · rintro E ⟨q, q1, q2, q3, q4⟩
    have hE : TXr E n T := h.fr (q4.2 4 (by simp [K10])) (q4.1 35 0 (by decide))
    simp only [l_X10_readsToken_0]
    rw [here_eq hE (by omega) q1, Option.bind_some, q1]
    have e : (hrV T n q = 32) ↔ (q < n ∧ isSp (T q) = true) := by
      rw [hrV]
      by_cases c : q < n
      · rw [if_pos c, isSp_iff, show (32 : Int32) = nI 32 from rfl, nI_eq (by have := (hE.2.2 q c).1; omega) (by decide)]
        exact ⟨fun w => ⟨c, w⟩, fun w => w.2⟩
      · rw [if_neg c]
        exact ⟨fun w => absurd w (by decide), fun w => absurd w.1 c⟩
    by_cases c : q < n ∧ isSp (T q) = true
    · left
      rw [if_pos (e.mpr c)]
      simp only [pu]
      rw [nI_1]
      refine ⟨_, rfl, ⟨q + 1, by simp [updD_at], by omega, ?_, q4.tr (E32.u rfl)⟩, ?_⟩
      · rw [← q3, run_go c.1 c.2]
      · show 150 - (updD E 32 0 10 (nI (q + 1)) 32 0 10).toNatClampNeg < 150 - (nI q).toNatClampNeg
        rw [show updD E 32 0 10 (nI (q + 1)) 32 0 10 = nI (q + 1) by simp [updD_at], nI_clamp (by omega), nI_clamp (by omega)]
        omega
    · right
      rw [if_neg (fun w => c (e.mp w))]
      refine ⟨_, rfl, ?_, q4⟩
      rw [q1, ← q3, run_stop c]
def Hof (T : Nat → Nat) (st : Nat) : Nat → Nat
  | 0 => 0
  | L + 1 => 27 * Hof T st L + (T (st + L) - 96)
def tdW (T : Nat → Nat) (st L : Nat) : Int64 := if L ≤ 8 then lN (Hof T st L) else -1
theorem Hof_lt {T : Nat → Nat} {st : Nat} : ∀ L, (∀ i, i < L → isL (T (st + i)) = true) → Hof T st L < 27 ^ L := by
  intro L
  induction L with
  | zero => intro _; simp [Hof]
  | succ L ih =>
    intro h
    have h1 := ih (fun i hi => h i (by omega))
    have h2 := isL_iff.mp (h L (by omega))
    simp only [Hof]
    rw [Nat.pow_succ]
    omega
def KW : Nat → Prop := fun j => j = 10 ∨ j = 13 ∨ j = 113
theorem p_rt54 {D : Dt} {n st : Nat} {T : Nat → Nat} (h : TXr D n T) (h2 : D 32 0 10 = nI st) (h11 : D 32 0 11 = nI st) (ht : tld D = 0) (hp : st ≤ n) : ∃ D', lp l_X10_readsToken_54 FU D = some D' ∧ D' 32 0 10 = nI (run isL T n st) ∧ tld D' = tdW T st (run isL T n st - st) ∧ E32 KW D D' := by
  have hn := h.2.1
  apply lp_ex (fun E => ∃ q, E 32 0 10 = nI q ∧ st ≤ q ∧ q ≤ n ∧ run isL T n q = run isL T n st ∧ tld E = tdW T st (q - st) ∧ (∀ i, st ≤ i → i < q → isL (T i) = true) ∧ E32 KW D E) (fun E => 150 - (E 32 0 10).toNatClampNeg) _
  · refine ⟨st, h2, Nat.le_refl _, hp, rfl, ?_, fun i a b => by omega, E32.rf⟩
    rw [Nat.sub_self, ht]
    rfl
  · exact FU_big (by omega)
  · rintro E ⟨q, q1, qs, q2, q3, q5, q6, q4⟩
    have hE : TXr E n T := h.fr (q4.2 4 (by simp [KW])) (q4.1 35 0 (by decide))
    have e11 : E 32 0 11 = nI st := (q4.2 11 (by simp [KW])).trans h11
    simp only [l_X10_readsToken_54]
    rw [here_eq hE (by omega) q1, Option.bind_some, in_eq, Option.bind_some, if_b, show (97 : Int32) = nI 97 from rfl, show (122 : Int32) = nI 122 from rfl, in_hr (P := isL) 97 122 (by decide) (by decide) (fun c => (hE.2.2 q c).1) (fun c => isL_iff), q1, e11, pk_sub qs, show (8 : Int32) = nI 8 from rfl, if_le (by decide) (by omega), Option.bind_some]
    by_cases c : q < n ∧ isL (T q) = true
    · left
      have hd := isL_iff.mp c.2
      have hh : hrV T n q = nI (T q) := if_pos c.1
      rw [if_pos c, hh]
      have hlet : ∀ i, i < q - st → isL (T (st + i)) = true := fun i hi => q6 (st + i) (by omega) (by omega)
      have all' : ∀ i, st ≤ i → i < q + 1 → isL (T i) = true := fun i a b => by
        by_cases e : i = q
        · rw [e]; exact c.2
        · exact q6 i a (by omega)
      simp only [puL, pu]
      rw [updL_at (by decide) (by decide), updL_at (by decide) (by decide), q1, nI_1]
      have fin : ∀ x : Int64, x = tdW T st (q + 1 - st) → ∃ t, some (Sum.inl (updD (updL E x) 32 0 10 (nI (q + 1))) : Dt ⊕ Dt) = some (Sum.inl t) ∧ (∃ q, t 32 0 10 = nI q ∧ st ≤ q ∧ q ≤ n ∧ run isL T n q = run isL T n st ∧ tld t = tdW T st (q - st) ∧ (∀ i, st ≤ i → i < q → isL (T i) = true) ∧ E32 KW D t) ∧ 150 - (t 32 0 10).toNatClampNeg < 150 - (nI q).toNatClampNeg := by
        intro x hx
        refine ⟨_, rfl, ⟨q + 1, by simp [updD_at], by omega, by omega, ?_, ?_, all', (q4.tr (E32.l (by simp [KW]) (by simp [KW]))).tr (E32.u (by simp [KW]))⟩, ?_⟩
        · rw [← q3, run_go c.1 c.2]
        · rw [tld_u (by decide) (by decide), tld_L, hx]
        · rw [show updD (updL E x) 32 0 10 (nI (q + 1)) 32 0 10 = nI (q + 1) by simp [updD_at], nI_clamp (by omega), nI_clamp (by omega)]
          omega
      by_cases c2 : 8 ≤ q - st
      · rw [if_pos c2]
        exact fin (-1) (by rw [tdW, if_neg (by omega)])
      · rw [if_neg c2]
        apply fin
        have hb := Hof_lt (q - st) hlet
        have hb2 : 27 ^ (q - st) ≤ 27 ^ 7 := Nat.pow_le_pow_right (by decide) (by omega)
        have e1 : mkL (E 32 0 13) (E 32 0 113) = lN (Hof T st (q - st)) := by
          have : tld E = lN (Hof T st (q - st)) := by rw [q5, tdW, if_pos (by omega)]
          exact this
        rw [e1, nI_l (by omega), show (27 : Int64) = lN 27 from rfl, show (97 : Int64) = lN 97 from rfl, show (1 : Int64) = lN 1 from rfl, lN_mul, lN_add, lN_sub (by omega), lN_add, tdW, if_pos (by omega), show q + 1 - st = (q - st) + 1 by omega]
        simp only [Hof]
        rw [show st + (q - st) = q by omega]
        congr 1
        omega
    · right
      rw [if_neg c]
      have e : run isL T n st = q := by rw [← q3, run_stop c]
      rw [e]
      exact ⟨_, rfl, q1, q5, q4⟩
def tdN (T : Nat → Nat) (st : Nat) : Nat → Nat
  | 0 => 0
  | L + 1 => if 100000 ≤ tdN T st L then tdN T st L else 10 * tdN T st L + (T (st + L) - 48)
theorem tdN_lt {T : Nat → Nat} {st : Nat} : ∀ L, (∀ i, i < L → isDg (T (st + i)) = true) → tdN T st L < 1000010 := by
  intro L
  induction L with
  | zero => intro _; simp [tdN]
  | succ L ih =>
    intro h
    have h1 := ih (fun i hi => h i (by omega))
    have h2 := isDg_iff.mp (h L (by omega))
    simp only [tdN]
    by_cases c : 100000 ≤ tdN T st L
    · rw [if_pos c]; exact h1
    · rw [if_neg c]; omega
theorem tdN_eq {T : Nat → Nat} {st : Nat} : ∀ L, L ≤ 5 → (∀ i, i < L → isDg (T (st + i)) = true) → tdN T st L = Nof T st L ∧ Nof T st L < 10 ^ L := by
  intro L
  induction L with
  | zero => intro _ _; exact ⟨rfl, by simp [Nof]⟩
  | succ L ih =>
    intro hL h
    obtain ⟨a1, a2⟩ := ih (by omega) (fun i hi => h i (by omega))
    have h2 := isDg_iff.mp (h L (by omega))
    have h3 : 10 ^ L ≤ 10 ^ 4 := Nat.pow_le_pow_right (by decide) (by omega)
    simp only [tdN, Nof]
    rw [Nat.pow_succ]
    refine ⟨?_, by omega⟩
    rw [if_neg (by omega), a1]
    omega
theorem p_rt154 {D : Dt} {n st : Nat} {T : Nat → Nat} (h : TXr D n T) (h2 : D 32 0 10 = nI st) (ht : tld D = 0) (hp : st ≤ n) : ∃ D', lp l_X10_readsToken_154 FU D = some D' ∧ D' 32 0 10 = nI (run isDg T n st) ∧ tld D' = lN (tdN T st (run isDg T n st - st)) ∧ E32 KW D D' := by
  have hn := h.2.1
  apply lp_ex (fun E => ∃ q, E 32 0 10 = nI q ∧ st ≤ q ∧ q ≤ n ∧ run isDg T n q = run isDg T n st ∧ tld E = lN (tdN T st (q - st)) ∧ (∀ i, st ≤ i → i < q → isDg (T i) = true) ∧ E32 KW D E) (fun E => 150 - (E 32 0 10).toNatClampNeg) _
  · refine ⟨st, h2, Nat.le_refl _, hp, rfl, ?_, fun i a b => by omega, E32.rf⟩
    rw [Nat.sub_self, ht]
    rfl
  · exact FU_big (by omega)
  · rintro E ⟨q, q1, qs, q2, q3, q5, q6, q4⟩
    have hE : TXr E n T := h.fr (q4.2 4 (by simp [KW])) (q4.1 35 0 (by decide))
    simp only [l_X10_readsToken_154]
    rw [here_eq hE (by omega) q1, Option.bind_some, in_eq, Option.bind_some, if_b, show (48 : Int32) = nI 48 from rfl, show (57 : Int32) = nI 57 from rfl, in_hr (P := isDg) 48 57 (by decide) (by decide) (fun c => (hE.2.2 q c).1) (fun c => isDg_iff), q1, Option.bind_some]
    by_cases c : q < n ∧ isDg (T q) = true
    · left
      have hd := isDg_iff.mp c.2
      have hh : hrV T n q = nI (T q) := if_pos c.1
      have hb := tdN_lt (T := T) (st := st) (q - st) (fun i hi => q6 (st + i) (by omega) (by omega))
      have all' : ∀ i, st ≤ i → i < q + 1 → isDg (T i) = true := fun i a b => by
        by_cases e : i = q
        · rw [e]; exact c.2
        · exact q6 i a (by omega)
      have e1 : mkL (E 32 0 13) (E 32 0 113) = lN (tdN T st (q - st)) := q5
      have hs : tdN T st (q + 1 - st) = if 100000 ≤ tdN T st (q - st) then tdN T st (q - st) else 10 * tdN T st (q - st) + (T q - 48) := by
        rw [show q + 1 - st = (q - st) + 1 by omega]
        simp only [tdN]
        rw [show st + (q - st) = q by omega]
      rw [if_pos c, hh, e1]
      simp only [puL, pu]
      rw [updL_at (by decide) (by decide), updL_at (by decide) (by decide), q1, nI_1]
      have fin : ∀ x : Int64, x = lN (tdN T st (q + 1 - st)) → ∃ t, some (Sum.inl (updD (updL E x) 32 0 10 (nI (q + 1))) : Dt ⊕ Dt) = some (Sum.inl t) ∧ (∃ q, t 32 0 10 = nI q ∧ st ≤ q ∧ q ≤ n ∧ run isDg T n q = run isDg T n st ∧ tld t = lN (tdN T st (q - st)) ∧ (∀ i, st ≤ i → i < q → isDg (T i) = true) ∧ E32 KW D t) ∧ 150 - (t 32 0 10).toNatClampNeg < 150 - (nI q).toNatClampNeg := by
        intro x hx
        refine ⟨_, rfl, ⟨q + 1, by simp [updD_at], by omega, by omega, ?_, ?_, all', (q4.tr (E32.l (by simp [KW]) (by simp [KW]))).tr (E32.u (by simp [KW]))⟩, ?_⟩
        · rw [← q3, run_go c.1 c.2]
        · rw [tld_u (by decide) (by decide), tld_L, hx]
        · rw [show updD (updL E x) 32 0 10 (nI (q + 1)) 32 0 10 = nI (q + 1) by simp [updD_at], nI_clamp (by omega), nI_clamp (by omega)]
          omega
      have hcmp : 0 ≤ lg_cmp (lN (tdN T st (q - st))) (100000 : Int64) ↔ 100000 ≤ tdN T st (q - st) := by
        rw [lg_cmp_ge, show (100000 : Int64) = lN 100000 from rfl, pk_lLE (by decide) (by omega)]
      by_cases c2 : 100000 ≤ tdN T st (q - st)
      · rw [if_pos (hcmp.mpr c2)]
        exact fin _ (by rw [hs, if_pos c2])
      · rw [if_neg (fun w => c2 (hcmp.mp w))]
        apply fin
        rw [hs, if_neg c2, nI_l (by omega), show (10 : Int64) = lN 10 from rfl, show (48 : Int64) = lN 48 from rfl, lN_mul, lN_add, lN_sub (by omega)]
        congr 1
        omega
    · right
      rw [if_neg c]
      have e : run isDg T n st = q := by rw [← q3, run_stop c]
      rw [e]
      exact ⟨_, rfl, q1, q5, q4⟩
/-- words by their numbers -/
theorem Hof_uniq {T U : Nat → Nat} {st su : Nat} : ∀ L m, (∀ i, i < L → isL (T (st + i)) = true) → (∀ i, i < m → isL (U (su + i)) = true) → (Hof T st L = Hof U su m ↔ L = m ∧ ∀ i, i < m → T (st + i) = U (su + i)) := by
  intro L
  induction L with
  | zero =>
    intro m _ h2
    cases m with
    | zero => simp [Hof]
    | succ m =>
      have := isL_iff.mp (h2 m (by omega))
      simp only [Hof]
      constructor
      · intro q; omega
      · intro q; omega
  | succ L ih =>
    intro m h1 h2
    have a := isL_iff.mp (h1 L (by omega))
    cases m with
    | zero =>
      simp only [Hof]
      constructor
      · intro q; omega
      · intro q; omega
    | succ m =>
      have b := isL_iff.mp (h2 m (by omega))
      have hi := ih m (fun i hi => h1 i (by omega)) (fun i hi => h2 i (by omega))
      simp only [Hof]
      constructor
      · intro q
        have e1 : Hof T st L = Hof U su m := by omega
        have e2 : T (st + L) = U (su + m) := by omega
        obtain ⟨e3, e4⟩ := hi.mp e1
        refine ⟨by omega, fun i hi => ?_⟩
        by_cases e : i = m
        · rw [e]; rw [e3] at e2; exact e2
        · exact e4 i (by omega)
      · rintro ⟨q1, q2⟩
        have e1 := hi.mpr ⟨by omega, fun i hi => q2 i (by omega)⟩
        have e2 := q2 m (by omega)
        rw [e1, show L = m by omega, e2]
def hsh (i : Nat) : Nat := Hof (wch i) 0 (wlE i)
theorem hsh_v : hsh 0 = 326280 ∧ hsh 1 = 10361 ∧ hsh 2 = 168932 ∧ hsh 3 = 283437709 ∧ hsh 4 = 237796990 := by decide
theorem hsh_lt : ∀ i, i < 5 → hsh i < 2 ^ 31 := by decide
theorem tdW_is {T : Nat → Nat} {st e i : Nat} (hi : i < 5) (hL : ∀ k, st ≤ k → k < e → isL (T k) = true) : tdW T st (e - st) = lN (hsh i) ↔ isW T st e i = true := by
  have h6 := wlE_le i hi
  have hw : ∀ k, k < wlE i → isL (wch i (0 + k)) = true := fun k hk => by
    rw [Nat.zero_add]
    exact isL_iff.mpr (wch_ok i hi k hk).2
  have hT : ∀ k, k < e - st → isL (T (st + k)) = true := fun k hk => hL (st + k) (by omega) (by omega)
  have hu := Hof_uniq (e - st) (wlE i) hT hw
  have hs := hsh_lt i hi
  rw [tdW]
  by_cases c : e - st ≤ 8
  · have hb := Hof_lt (e - st) hT
    have hb2 : 27 ^ (e - st) ≤ 27 ^ 8 := Nat.pow_le_pow_right (by decide) (by omega)
    rw [if_pos c, pk_lEQ (by omega) (by omega), hsh, hu, isW, Bool.and_eq_true, decide_eq_true_eq, eqW_iff]
    simp only [Nat.zero_add]
  · rw [if_neg c, isW, decide_eq_false (by omega), Bool.false_and]
    constructor
    · intro q
      have := congrArg Int64.toInt q
      rw [pk_lT (by omega)] at this
      have e1 : (-1 : Int64).toInt = -1 := by decide
      rw [e1] at this
      omega
    · intro q; cases q
def RT (D : Dt) (T : Nat → Nat) (n p : Nat) : Prop := D 32 0 10 = nI (tkE T n p) ∧ D 32 0 11 = nI (tkS T n p) ∧ (tkK T n p = 1 → D 32 0 12 = 0) ∧ (tkK T n p = 2 → D 32 0 12 = 3) ∧ (tkK T n p = 3 → D 32 0 12 = 2 ∧ tld D = lN (tkV T n p) ∧ tkV T n p < 100000) ∧ (∀ i, i < 5 → (tkK T n p = i + 4 ↔ D 32 0 12 = 1 ∧ tld D = lN (hsh i))) ∧ (tkK T n p = 0 → D 32 0 12 = 4 ∨ D 32 0 12 = 1)
def KT : Nat → Prop := fun j => j = 10 ∨ j = 11 ∨ j = 12 ∨ j = 13 ∨ j = 113
theorem wdK_iff {T : Nat → Nat} {st e : Nat} (hL : ∀ k, st ≤ k → k < e → isL (T k) = true) : ∀ i, i < 5 → (wdK T st e = i + 4 ↔ isW T st e i = true) := by
  have ex : ∀ i j, i < 5 → j < 5 → isW T st e i = true → isW T st e j = true → i = j := by
    intro i j hi hj h1 h2
    have e1 := (tdW_is hi hL).mpr h1
    have e2 := (tdW_is hj hL).mpr h2
    rw [e1, pk_lEQ (by have := hsh_lt i hi; omega) (by have := hsh_lt j hj; omega)] at e2
    obtain ⟨v0, v1, v2, v3, v4⟩ := hsh_v
    rcases (show i = 0 ∨ i = 1 ∨ i = 2 ∨ i = 3 ∨ i = 4 by omega) with rfl | rfl | rfl | rfl | rfl <;> rcases (show j = 0 ∨ j = 1 ∨ j = 2 ∨ j = 3 ∨ j = 4 by omega) with rfl | rfl | rfl | rfl | rfl <;> first | rfl | (exfalso; omega)
  intro i hi
  rw [wdK]
  by_cases c0 : isW T st e 0 = true
  · rw [if_pos c0]
    exact ⟨fun q => by rw [show i = 0 by omega]; exact c0, fun q => by have := ex 0 i (by decide) hi c0 q; omega⟩
  · rw [if_neg c0]
    by_cases c1 : isW T st e 1 = true
    · rw [if_pos c1]
      exact ⟨fun q => by rw [show i = 1 by omega]; exact c1, fun q => by have := ex 1 i (by decide) hi c1 q; omega⟩
    · rw [if_neg c1]
      by_cases c2 : isW T st e 2 = true
      · rw [if_pos c2]
        exact ⟨fun q => by rw [show i = 2 by omega]; exact c2, fun q => by have := ex 2 i (by decide) hi c2 q; omega⟩
      · rw [if_neg c2]
        by_cases c3 : isW T st e 3 = true
        · rw [if_pos c3]
          exact ⟨fun q => by rw [show i = 3 by omega]; exact c3, fun q => by have := ex 3 i (by decide) hi c3 q; omega⟩
        · rw [if_neg c3]
          by_cases c4 : isW T st e 4 = true
          · rw [if_pos c4]
            exact ⟨fun q => by rw [show i = 4 by omega]; exact c4, fun q => by have := ex 4 i (by decide) hi c4 q; omega⟩
          · rw [if_neg c4]
            refine ⟨fun q => by omega, fun q => ?_⟩
            rcases (show i = 0 ∨ i = 1 ∨ i = 2 ∨ i = 3 ∨ i = 4 by omega) with rfl | rfl | rfl | rfl | rfl
            · exact absurd q c0
            · exact absurd q c1
            · exact absurd q c2
            · exact absurd q c3
            · exact absurd q c4
theorem p_readsToken {D : Dt} {n p : Nat} {T : Nat → Nat} (h : TXr D n T) (h2 : D 32 0 10 = nI p) (hp : p ≤ n) : ∃ D', f_X10_readsToken D = some D' ∧ RT D' T n p ∧ E32 KT D D' := by
  have hn := h.2.1
  obtain ⟨D1, a1, a2, a3⟩ := p_rt0 h h2 hp
  obtain ⟨s1, s2, s3⟩ := run_b (P := isSp) (T := T) hp
  have eS : tkS T n p = run isSp T n p := rfl
  rw [← eS] at a2 s1 s2
  have hE5 : E32 KT D (updL (updD D1 32 0 11 (nI (tkS T n p))) 0) := ((a3.mono (fun j q => Or.inl q)).tr (E32.u (by simp [KT]))).tr (E32.l (by simp [KT]) (by simp [KT]))
  have h5 : TXr (updL (updD D1 32 0 11 (nI (tkS T n p))) 0) n T := h.fr (hE5.2 4 (by simp [KT])) (hE5.1 35 0 (by decide))
  have e10 : updL (updD D1 32 0 11 (nI (tkS T n p))) 0 32 0 10 = nI (tkS T n p) := by rw [updL_at (by decide) (by decide), updD_at, if_neg (by omega)]; exact a2
  have e11 : updL (updD D1 32 0 11 (nI (tkS T n p))) 0 32 0 11 = nI (tkS T n p) := by rw [updL_at (by decide) (by decide)]; simp [updD_at]
  have et : tld (updL (updD D1 32 0 11 (nI (tkS T n p))) 0) = 0 := tld_L _ _
  rw [f_X10_readsToken, a1, Option.bind_some]
  simp only [pu, puL]
  rw [a2]
  generalize updL (updD D1 32 0 11 (nI (tkS T n p))) 0 = D5 at *
  have hT : tkS T n p < n → T (tkS T n p) < 256 := fun c => (h5.2.2 _ c).1
  rw [here_eq h5 (by omega) e10, Option.bind_some, in_eq, Option.bind_some, if_b, show (97 : Int32) = nI 97 from rfl, show (122 : Int32) = nI 122 from rfl, in_hr (P := isL) 97 122 (by decide) (by decide) hT (fun c => isL_iff), Option.bind_some, in_eq, Option.bind_some, if_b, show (48 : Int32) = nI 48 from rfl, show (57 : Int32) = nI 57 from rfl, in_hr (P := isDg) 48 57 (by decide) (by decide) hT (fun c => isDg_iff), Option.bind_some, Option.bind_some, Option.bind_some]
  unfold RT
  by_cases c : n ≤ tkS T n p
  · have eE : tkE T n p = tkS T n p := if_pos c
    have eK : tkK T n p = 1 := if_pos c
    have hh : hrV T n (tkS T n p) = -1 := if_neg (by omega)
    rw [if_neg (by omega), if_neg (by omega), hh, if_neg (by decide), j_X10_readsToken_289_t11]
    simp only [pu]
    have e10' : updD D5 32 0 12 0 32 0 10 = nI (tkS T n p) := by rw [updD_at, if_neg (by omega)]; exact e10
    have h5' : TXr (updD D5 32 0 12 0) n T := h5.fr (by rw [updD_at, if_neg (by omega)]) (updD_other _ _ _ (by omega))
    rw [here_eq h5' (by omega) e10', Option.bind_some, hh, if_neg (by decide), e10', Int32.add_zero, eE, eK]
    refine ⟨_, rfl, ⟨by simp [updD_at], ?_, fun _ => ?_, fun q => by omega, fun q => by omega, fun i hi => ⟨fun q => by omega, fun q => ?_⟩, fun q => by omega⟩, (hE5.tr (E32.u (by simp [KT]))).tr (E32.u (by simp [KT]))⟩
    · rw [updD_at, if_neg (by omega), updD_at, if_neg (by omega)]; exact e11
    · simp [updD_at]
    · exfalso
      have := q.1
      simp [updD_at] at this
  · have hlt : tkS T n p < n := by omega
    have hh : hrV T n (tkS T n p) = nI (T (tkS T n p)) := if_pos hlt
    have hT' := hT hlt
    by_cases c1 : isL (T (tkS T n p)) = true
    · have eE : tkE T n p = run isL T n (tkS T n p) := by rw [tkE, if_neg c, if_pos c1]
      have eK : tkK T n p = wdK T (tkS T n p) (run isL T n (tkS T n p)) := by rw [tkK, if_neg c, if_pos c1]
      obtain ⟨r1, r2, r3⟩ := run_b (P := isL) (T := T) s2
      have h5' : TXr (updD D5 32 0 12 (nI 1)) n T := h5.fr (by rw [updD_at, if_neg (by omega)]) (updD_other _ _ _ (by omega))
      obtain ⟨D6, b1, b2, b3, b4⟩ := p_rt54 h5' (by rw [updD_at, if_neg (by omega)]; exact e10) (by rw [updD_at, if_neg (by omega)]; exact e11) (by rw [tld_u (by decide) (by decide)]; exact et) (Nat.le_of_lt hlt)
      rw [if_pos ⟨hlt, c1⟩, show (1 : Int32) = nI 1 from rfl, b1, Option.bind_some, eE, eK]
      have k12 : D6 32 0 12 = nI 1 := by rw [b4.2 12 (by simp [KW])]; simp [updD_at]
      have hv := wdK_v (T := T) (st := tkS T n p) (e := run isL T n (tkS T n p))
      refine ⟨_, rfl, ⟨b2, ?_, fun q => by omega, fun q => by omega, fun q => by omega, fun i hi => ?_, fun _ => Or.inr k12⟩, (hE5.tr (E32.u (by simp [KT]))).tr (b4.mono (fun j q => by simp only [KW] at q; simp only [KT]; omega))⟩
      · rw [b4.2 11 (by simp [KW]), updD_at, if_neg (by omega)]; exact e11
      · rw [wdK_iff r3 i hi, ← tdW_is hi r3, b3]
        exact ⟨fun q => ⟨k12, q⟩, fun q => q.2⟩
    · by_cases c2 : isDg (T (tkS T n p)) = true
      · have eE : tkE T n p = run isDg T n (tkS T n p) := by rw [tkE, if_neg c, if_neg c1, if_pos c2]
        have eK : tkK T n p = nmK T (tkS T n p) (run isDg T n (tkS T n p)) := by rw [tkK, if_neg c, if_neg c1, if_pos c2]
        obtain ⟨r1, r2, r3⟩ := run_b (P := isDg) (T := T) s2
        obtain ⟨D6, b1, b2, b3, b4⟩ := p_rt154 h5 e10 et (Nat.le_of_lt hlt)
        have k11 : D6 32 0 11 = nI (tkS T n p) := (b4.2 11 (by simp [KW])).trans e11
        rw [if_neg (fun q => c1 q.2), if_pos ⟨hlt, c2⟩, hh, if_eq (by omega) (by decide)]
        have hj : ∀ b : Bool, (b = true ↔ T (tkS T n p) = 48) → j_X10_readsToken_153_t18 D5 (b01 b) = some (updD D6 32 0 12 (if nmK T (tkS T n p) (run isDg T n (tkS T n p)) = 3 then 2 else 4)) := by
          intro b hb
          simp only [j_X10_readsToken_153_t18, pu]
          rw [b1, Option.bind_some, b2, k11, pk_sub r1, show (5 : Int32) = nI 5 from rfl, if_lt (by decide) (by omega), b01_0, show (1 : Int32) = nI 1 from rfl, if_le (by omega) (by decide)]
          by_cases d1 : 5 < run isDg T n (tkS T n p) - tkS T n p
          · rw [if_pos d1, show nmK T (tkS T n p) (run isDg T n (tkS T n p)) = 0 by rw [nmK, if_pos (Or.inl d1)], if_neg (by decide)]
          · rw [if_neg d1]
            by_cases d2 : b = true
            · have d2' := hb.mp d2
              rw [if_pos d2]
              by_cases d3 : run isDg T n (tkS T n p) - tkS T n p ≤ 1
              · rw [if_pos d3, show nmK T (tkS T n p) (run isDg T n (tkS T n p)) = 3 by rw [nmK, if_neg (by omega)], if_pos rfl]
              · rw [if_neg d3, show nmK T (tkS T n p) (run isDg T n (tkS T n p)) = 0 by rw [nmK, if_pos (Or.inr ⟨by omega, d2'⟩)], if_neg (by decide)]
            · have d2' : ¬ T (tkS T n p) = 48 := fun q => d2 (hb.mpr q)
              rw [if_neg d2, show nmK T (tkS T n p) (run isDg T n (tkS T n p)) = 3 by rw [nmK, if_neg (by omega)], if_pos rfl]
        have hb : (if T (tkS T n p) = 48 then j_X10_readsToken_153_t18 D5 1 else j_X10_readsToken_153_t18 D5 0) = some (updD D6 32 0 12 (if nmK T (tkS T n p) (run isDg T n (tkS T n p)) = 3 then 2 else 4)) := by
          by_cases d : T (tkS T n p) = 48
          · rw [if_pos d, show (1 : Int32) = b01 true from rfl, hj true ⟨fun _ => d, fun _ => rfl⟩]
          · rw [if_neg d, show (0 : Int32) = b01 false from rfl, hj false ⟨(fun q => by cases q), (fun q => absurd q d)⟩]
        rw [hb, eE, eK]
        have hv := nmK_v (T := T) (st := tkS T n p) (e := run isDg T n (tkS T n p))
        have eV : tkV T n p = Nof T (tkS T n p) (run isDg T n (tkS T n p) - tkS T n p) := rfl
        refine ⟨_, rfl, ⟨by rw [updD_at, if_neg (by omega)]; exact b2, by rw [updD_at, if_neg (by omega)]; exact k11, fun q => by omega, fun q => by omega, fun q => ?_, fun i hi => ⟨fun q => by omega, fun q => ?_⟩, fun q => ?_⟩, (hE5.tr (b4.mono (fun j q => by simp only [KW] at q; simp only [KT]; omega))).tr (E32.u (by simp [KT]))⟩
        · have hle : run isDg T n (tkS T n p) - tkS T n p ≤ 5 := by
            rcases Nat.lt_or_ge 5 (run isDg T n (tkS T n p) - tkS T n p) with w | w
            · rw [nmK, if_pos (Or.inl w)] at q; cases q
            · exact w
          obtain ⟨z1, z2⟩ := tdN_eq (T := T) (st := tkS T n p) _ hle (fun i hi => r3 _ (by omega) (by omega))
          have z3 : 10 ^ (run isDg T n (tkS T n p) - tkS T n p) ≤ 10 ^ 5 := Nat.pow_le_pow_right (by decide) hle
          refine ⟨?_, ?_, by rw [eV]; omega⟩
          · rw [if_pos q]; simp [updD_at]
          · rw [tld_u (by decide) (by decide), b3, z1, eV]
        · exfalso
          have := q.1
          rw [updD_at, if_pos ⟨rfl, rfl, rfl⟩] at this
          by_cases d : nmK T (tkS T n p) (run isDg T n (tkS T n p)) = 3
          · rw [if_pos d] at this; exact absurd this (by decide)
          · rw [if_neg d] at this; exact absurd this (by decide)
        · rw [if_neg (by omega)]
          left
          simp [updD_at]
      · have eE : tkE T n p = tkS T n p + 1 := by rw [tkE, if_neg c, if_neg c1, if_neg c2]
        have eK : tkK T n p = if T (tkS T n p) = 59 then 2 else 0 := by rw [tkK, if_neg c, if_neg c1, if_neg c2]
        rw [if_neg (fun q => c1 q.2), if_neg (fun q => c2 q.2), hh, if_pos (nI_pos' (by omega)), show (59 : Int32) = nI 59 from rfl, if_eq (by omega) (by decide)]
        have hj : ∀ v : Int32, j_X10_readsToken_289_t11 D5 v = some (updD (updD D5 32 0 12 v) 32 0 10 (nI (tkS T n p + 1))) := by
          intro v
          have e10' : updD D5 32 0 12 v 32 0 10 = nI (tkS T n p) := by rw [updD_at, if_neg (by omega)]; exact e10
          have h5' : TXr (updD D5 32 0 12 v) n T := h5.fr (by rw [updD_at, if_neg (by omega)]) (updD_other _ _ _ (by omega))
          rw [j_X10_readsToken_289_t11]
          simp only [pu]
          rw [here_eq h5' (by omega) e10', Option.bind_some, hh, if_pos (nI_pos' (by omega)), e10', nI_1]
        have f11 : ∀ v : Int32, updD (updD D5 32 0 12 v) 32 0 10 (nI (tkS T n p + 1)) 32 0 11 = nI (tkS T n p) := fun v => by rw [updD_at, if_neg (by omega), updD_at, if_neg (by omega)]; exact e11
        have f12 : ∀ v : Int32, updD (updD D5 32 0 12 v) 32 0 10 (nI (tkS T n p + 1)) 32 0 12 = v := fun v => by simp [updD_at]
        have fE : ∀ v : Int32, E32 KT D (updD (updD D5 32 0 12 v) 32 0 10 (nI (tkS T n p + 1))) := fun v => (hE5.tr (E32.u (by simp [KT]))).tr (E32.u (by simp [KT]))
        rw [hj, hj, eE, eK]
        by_cases d : T (tkS T n p) = 59
        · rw [if_pos d, if_pos d]
          refine ⟨_, rfl, ⟨by simp [updD_at], f11 _, fun q => by omega, fun _ => f12 _, fun q => by omega, fun i hi => ⟨fun q => by omega, fun q => ?_⟩, fun q => by omega⟩, fE _⟩
          have := q.1
          rw [f12] at this
          exact absurd this (by decide)
        · rw [if_neg d, if_neg d]
          refine ⟨_, rfl, ⟨by simp [updD_at], f11 _, fun q => by omega, fun q => by omega, fun q => by omega, fun i hi => ⟨fun q => by omega, fun q => ?_⟩, fun _ => Or.inl (f12 _)⟩, fE _⟩
          have := q.1
          rw [f12] at this
          exact absurd this (by decide)
