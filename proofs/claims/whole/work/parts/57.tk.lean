/-! tokens -/
def isL (c : Nat) : Bool := decide (97 ≤ c) && decide (c ≤ 122)
def isDg (c : Nat) : Bool := decide (48 ≤ c) && decide (c ≤ 57)
def isSp (c : Nat) : Bool := decide (c = 32)
theorem isL_iff {c : Nat} : isL c = true ↔ 97 ≤ c ∧ c ≤ 122 := by simp [isL]
theorem isDg_iff {c : Nat} : isDg c = true ↔ 48 ≤ c ∧ c ≤ 57 := by simp [isDg]
theorem isSp_iff {c : Nat} : isSp c = true ↔ c = 32 := by simp [isSp]
def runF (P : Nat → Bool) (T : Nat → Nat) (n : Nat) : Nat → Nat → Nat
  | 0, p => p
  | f + 1, p => if p < n ∧ P (T p) = true then runF P T n f (p + 1) else p
def run (P : Nat → Bool) (T : Nat → Nat) (n p : Nat) : Nat := runF P T n (n - p) p
theorem run_go {P : Nat → Bool} {T : Nat → Nat} {n p : Nat} (h : p < n) (h2 : P (T p) = true) : run P T n p = run P T n (p + 1) := by
  rw [run, show n - p = (n - (p + 1)) + 1 by omega]
  simp only [runF]
  rw [if_pos ⟨h, h2⟩]
  rfl
theorem run_stop {P : Nat → Bool} {T : Nat → Nat} {n p : Nat} (h : ¬ (p < n ∧ P (T p) = true)) : run P T n p = p := by
  rw [run]
  cases n - p with
  | zero => rfl
  | succ f =>
    simp only [runF]
    rw [if_neg h]
theorem run_le {P : Nat → Bool} {T : Nat → Nat} {n : Nat} : ∀ d p, n - p ≤ d → p ≤ n → p ≤ run P T n p ∧ run P T n p ≤ n ∧ ∀ i, p ≤ i → i < run P T n p → P (T i) = true := by
  intro d
  induction d with
  | zero =>
    intro p h1 h2
    rw [run_stop (by omega)]
    exact ⟨Nat.le_refl _, h2, fun i a b => by omega⟩
  | succ d ih =>
    intro p h1 h2
    by_cases c : p < n ∧ P (T p) = true
    · rw [run_go c.1 c.2]
      obtain ⟨a1, a2, a3⟩ := ih (p + 1) (by omega) (by omega)
      refine ⟨by omega, a2, fun i b1 b2 => ?_⟩
      by_cases e : i = p
      · rw [e]; exact c.2
      · exact a3 i (by omega) b2
    · rw [run_stop c]
      exact ⟨Nat.le_refl _, h2, fun i a b => by omega⟩
theorem run_b {P : Nat → Bool} {T : Nat → Nat} {n p : Nat} (h : p ≤ n) : p ≤ run P T n p ∧ run P T n p ≤ n ∧ ∀ i, p ≤ i → i < run P T n p → P (T i) = true := run_le (n - p) p (Nat.le_refl _) h
theorem run_gt {P : Nat → Bool} {T : Nat → Nat} {n p : Nat} (h : p < n) (h2 : P (T p) = true) : p < run P T n p := by
  rw [run_go h h2]
  have := (run_b (P := P) (T := T) (n := n) (p := p + 1) (by omega)).1
  omega
def TXc (D : Dt) (n : Nat) (T : Nat → Nat) : Prop := D 22 0 1 = nI n ∧ n ≤ 150 ∧ ∀ i, i < n → T i < 256 ∧ D 23 0 i = nI (T i)
def E22 (J : Nat → Prop) (D D' : Dt) : Prop := (∀ k b, k ≠ 22 → D' k b = D k b) ∧ ∀ j, ¬ J j → D' 22 0 j = D 22 0 j
theorem E22.rf {J : Nat → Prop} {D : Dt} : E22 J D D := ⟨fun _ _ _ => rfl, fun _ _ => rfl⟩
theorem E22.tr {J : Nat → Prop} {D D1 D2 : Dt} (h : E22 J D D1) (g : E22 J D1 D2) : E22 J D D2 := ⟨fun k b a => (g.1 k b a).trans (h.1 k b a), fun j a => (g.2 j a).trans (h.2 j a)⟩
theorem E22.mono {J K : Nat → Prop} {D D' : Dt} (h : E22 J D D') (hJ : ∀ j, J j → K j) : E22 K D D' := ⟨h.1, fun j a => h.2 j (fun q => a (hJ j q))⟩
theorem E22.u {J : Nat → Prop} {D : Dt} {j : Nat} {x : Int32} (h : J j) : E22 J D (updD D 22 0 j x) := ⟨fun k b a => updD_other _ _ _ (by omega), fun i a => by
  rw [updD_at, if_neg]
  rintro ⟨_, _, rfl⟩
  exact a h⟩
theorem TXc.fr {D D' : Dt} {n : Nat} {T : Nat → Nat} (h : TXc D n T) (h1 : D' 22 0 1 = D 22 0 1) (h2 : D' 23 0 = D 23 0) : TXc D' n T := by
  refine ⟨h1.trans h.1, h.2.1, fun i hi => ?_⟩
  rw [h2]
  exact h.2.2 i hi
theorem isWithin_eq {D : Dt} {n p : Nat} {T : Nat → Nat} (h : TXc D n T) (hp : p < 2 ^ 31) : f_X8_isWithin (nI p) D = some (b01 (decide (p < n))) := by
  have hn := h.2.1
  rw [f_X8_isWithin, if_neg (nI_pos hp), h.1, if_le (by omega) hp]
  by_cases c : n ≤ p
  · rw [if_pos c, decide_eq_false (by omega)]; rfl
  · rw [if_neg c, if_neg (g150 (by omega)), decide_eq_true (by omega)]; rfl
theorem isLetter_eq {D : Dt} {n p : Nat} {T : Nat → Nat} (h : TXc D n T) (hp : p < 2 ^ 31) : f_X8_isLetter (nI p) D = some (b01 (decide (p < n) && isL (T p))) := by
  have hn := h.2.1
  rw [f_X8_isLetter, isWithin_eq h hp, Option.bind_some, b01_0]
  by_cases c : p < n
  · obtain ⟨t1, t2⟩ := h.2.2 p c
    rw [if_pos (decide_eq_true c), rd_at rfl (show p < 150 by omega) (by decide), rd_at rfl (show p < 150 by omega) (by decide), t2, decide_eq_true c, Bool.true_and, show (97 : Int32) = nI 97 from rfl, show (122 : Int32) = nI 122 from rfl, if_lt (by omega) (by decide), if_lt (by decide) (by omega), b01_ite isL_iff]
    by_cases c1 : T p < 97
    · rw [if_pos c1, if_neg (by omega)]
    · rw [if_neg c1]
      by_cases c2 : 122 < T p
      · rw [if_pos c2, if_neg (by omega)]
      · rw [if_neg c2, if_pos (by omega)]
  · rw [if_neg (by simp [c]), decide_eq_false c]; rfl
theorem isDigit_eq {D : Dt} {n p : Nat} {T : Nat → Nat} (h : TXc D n T) (hp : p < 2 ^ 31) : f_X8_isDigit (nI p) D = some (b01 (decide (p < n) && isDg (T p))) := by
  have hn := h.2.1
  rw [f_X8_isDigit, isWithin_eq h hp, Option.bind_some, b01_0]
  by_cases c : p < n
  · obtain ⟨t1, t2⟩ := h.2.2 p c
    rw [if_pos (decide_eq_true c), rd_at rfl (show p < 150 by omega) (by decide), rd_at rfl (show p < 150 by omega) (by decide), t2, decide_eq_true c, Bool.true_and, show (48 : Int32) = nI 48 from rfl, show (57 : Int32) = nI 57 from rfl, if_lt (by omega) (by decide), if_lt (by decide) (by omega), b01_ite isDg_iff]
    by_cases c1 : T p < 48
    · rw [if_pos c1, if_neg (by omega)]
    · rw [if_neg c1]
      by_cases c2 : 57 < T p
      · rw [if_pos c2, if_neg (by omega)]
      · rw [if_neg c2, if_pos (by omega)]
  · rw [if_neg (by simp [c]), decide_eq_false c]; rfl
def J2 : Nat → Prop := fun j => j = 2
theorem p_tk0 {D : Dt} {n p : Nat} {T : Nat → Nat} (h : TXc D n T) (h2 : D 22 0 2 = nI p) (hp : p ≤ n) : ∃ D', lp l_X8_readToken_0 FU D = some D' ∧ D' 22 0 2 = nI (run isSp T n p) ∧ E22 J2 D D' := by
  have hn := h.2.1
  apply lp_ex (fun E => ∃ q, E 22 0 2 = nI q ∧ q ≤ n ∧ run isSp T n q = run isSp T n p ∧ E22 J2 D E) (fun E => 150 - (E 22 0 2).toNatClampNeg) _
  · exact ⟨p, h2, hp, rfl, E22.rf⟩
  · exact FU_big (by omega)
  · rintro E ⟨q, q1, q2, q3, q4⟩
    have hE : TXc E n T := h.fr (q4.2 1 (by simp [J2])) (q4.1 23 0 (by decide))
    simp only [l_X8_readToken_0]
    rw [hE.1, q1, if_le (by omega) (by omega)]
    by_cases c : n ≤ q
    · right
      rw [if_pos c]
      refine ⟨_, rfl, ?_, q4⟩
      rw [q1, ← q3, run_stop (by omega)]
    · obtain ⟨t1, t2⟩ := hE.2.2 q (by omega)
      rw [if_neg c, isWithin_eq hE (by omega), Option.bind_some, b01_0, if_pos (decide_eq_true (by omega)), rd_at rfl (show q < 150 by omega) (by decide), t2, show (32 : Int32) = nI 32 from rfl, if_eq (by omega) (by decide)]
      by_cases c2 : T q = 32
      · left
        rw [if_pos c2]
        simp only [pu]
        rw [nI_1]
        refine ⟨_, rfl, ⟨q + 1, by simp [updD_at], by omega, ?_, q4.tr (E22.u rfl)⟩, ?_⟩
        · rw [← q3, run_go (by omega) (isSp_iff.mpr c2)]
        · show 150 - (updD E 22 0 2 (nI (q + 1)) 22 0 2).toNatClampNeg < 150 - (nI q).toNatClampNeg
          rw [show updD E 22 0 2 (nI (q + 1)) 22 0 2 = nI (q + 1) by simp [updD_at], nI_clamp (by omega), nI_clamp (by omega)]
          omega
      · right
        rw [if_neg c2]
        refine ⟨_, rfl, ?_, q4⟩
        rw [q1, ← q3, run_stop (fun w => c2 (isSp_iff.mp w.2))]
theorem p_wd0 {D : Dt} {n p : Nat} {T : Nat → Nat} (h : TXc D n T) (h2 : D 22 0 2 = nI p) (hp : p ≤ n) : ∃ D', lp l_X8_readWord_0 FU D = some D' ∧ D' 22 0 2 = nI (run isL T n p) ∧ E22 J2 D D' := by
  have hn := h.2.1
  apply lp_ex (fun E => ∃ q, E 22 0 2 = nI q ∧ q ≤ n ∧ run isL T n q = run isL T n p ∧ E22 J2 D E) (fun E => 150 - (E 22 0 2).toNatClampNeg) _
  · exact ⟨p, h2, hp, rfl, E22.rf⟩
  · exact FU_big (by omega)
  · rintro E ⟨q, q1, q2, q3, q4⟩
    have hE : TXc E n T := h.fr (q4.2 1 (by simp [J2])) (q4.1 23 0 (by decide))
    simp only [l_X8_readWord_0]
    rw [hE.1, q1, if_le (by omega) (by omega)]
    by_cases c : n ≤ q
    · right
      rw [if_pos c]
      refine ⟨_, rfl, ?_, q4⟩
      rw [q1, ← q3, run_stop (by omega)]
    · rw [if_neg c, isLetter_eq hE (by omega), Option.bind_some, b01_0, decide_eq_true (show q < n by omega), Bool.true_and]
      by_cases c2 : isL (T q) = true
      · left
        rw [if_pos c2]
        simp only [pu]
        rw [nI_1]
        refine ⟨_, rfl, ⟨q + 1, by simp [updD_at], by omega, ?_, q4.tr (E22.u rfl)⟩, ?_⟩
        · rw [← q3, run_go (by omega) c2]
        · show 150 - (updD E 22 0 2 (nI (q + 1)) 22 0 2).toNatClampNeg < 150 - (nI q).toNatClampNeg
          rw [show updD E 22 0 2 (nI (q + 1)) 22 0 2 = nI (q + 1) by simp [updD_at], nI_clamp (by omega), nI_clamp (by omega)]
          omega
      · right
        rw [if_neg c2]
        refine ⟨_, rfl, ?_, q4⟩
        rw [q1, ← q3, run_stop (fun w => c2 w.2)]
/-- numbers -/
def Nof (T : Nat → Nat) (st : Nat) : Nat → Nat
  | 0 => 0
  | L + 1 => Nof T st L * 10 + (T (st + L) - 48)
def J25 : Nat → Prop := fun j => j = 2 ∨ j = 5
theorem p_nm5 {D : Dt} {n st : Nat} {T : Nat → Nat} (h : TXc D n T) (h2 : D 22 0 2 = nI st) (h5 : D 22 0 5 = nI 0) (hp : st ≤ n) : ∃ D', lp l_X8_readNumber_5 FU D = some D' ∧ D' 22 0 2 = nI (run isDg T n st) ∧ D' 22 0 5 = nI (Nof T st (run isDg T n st - st)) ∧ E22 J25 D D' := by
  have hn := h.2.1
  apply lp_ex (fun E => ∃ q, E 22 0 2 = nI q ∧ st ≤ q ∧ q ≤ n ∧ run isDg T n q = run isDg T n st ∧ E 22 0 5 = nI (Nof T st (q - st)) ∧ E22 J25 D E) (fun E => 150 - (E 22 0 2).toNatClampNeg) _
  · exact ⟨st, h2, Nat.le_refl _, hp, rfl, by rw [Nat.sub_self]; exact h5, E22.rf⟩
  · exact FU_big (by omega)
  · rintro E ⟨q, q1, qs, q2, q3, q5, q4⟩
    have hE : TXc E n T := h.fr (q4.2 1 (by simp [J25])) (q4.1 23 0 (by decide))
    simp only [l_X8_readNumber_5]
    rw [hE.1, q1, if_le (by omega) (by omega)]
    by_cases c : n ≤ q
    · right
      rw [if_pos c]
      have e : run isDg T n st = q := by rw [← q3, run_stop (by omega)]
      rw [e]
      exact ⟨_, rfl, q1, q5, q4⟩
    · rw [if_neg c, isDigit_eq hE (by omega), Option.bind_some, b01_0, decide_eq_true (show q < n by omega), Bool.true_and]
      by_cases c2 : isDg (T q) = true
      · left
        obtain ⟨t1, t2⟩ := hE.2.2 q (by omega)
        have hd := isDg_iff.mp c2
        rw [if_pos c2, rd_at rfl (show q < 150 by omega) (by decide), t2]
        simp only [pu]
        have e2 : updD E 22 0 5 (nI (Nof T st (q - st)) * (10 : Int32) + (nI (T q) - (48 : Int32))) 22 0 2 = nI q := by rw [updD_at, if_neg (by omega)]; exact q1
        rw [q5, e2, nI_1, show (10 : Int32) = nI 10 from rfl, show (48 : Int32) = nI 48 from rfl, pk_mul, pk_sub hd.1, nI_add]
        refine ⟨_, rfl, ⟨q + 1, by simp [updD_at], by omega, by omega, ?_, ?_, (q4.tr (E22.u (Or.inr rfl))).tr (E22.u (Or.inl rfl))⟩, ?_⟩
        · rw [← q3, run_go (by omega) c2]
        · rw [show q + 1 - st = (q - st) + 1 by omega]
          simp only [Nof]
          rw [show st + (q - st) = q by omega]
          simp [updD_at]
        · show 150 - (updD (updD E 22 0 5 (nI (Nof T st (q - st) * 10 + (T q - 48)))) 22 0 2 (nI (q + 1)) 22 0 2).toNatClampNeg < 150 - (nI q).toNatClampNeg
          rw [show updD (updD E 22 0 5 (nI (Nof T st (q - st) * 10 + (T q - 48)))) 22 0 2 (nI (q + 1)) 22 0 2 = nI (q + 1) by simp [updD_at], nI_clamp (by omega), nI_clamp (by omega)]
          omega
      · right
        rw [if_neg c2]
        have e : run isDg T n st = q := by rw [← q3, run_stop (fun w => c2 w.2)]
        rw [e]
        exact ⟨_, rfl, q1, q5, q4⟩
/-- words -/
def wlE (i : Nat) : Nat := lenS.getD i 0
def wch (i k : Nat) : Nat := ((bytS.getD i []).getD k 0).toNatClampNeg
theorem wch_ok : ∀ i, i < 5 → ∀ k, k < wlE i → ((bytS.getD i []).getD k 0) = nI (wch i k) ∧ 97 ≤ wch i k ∧ wch i k ≤ 122 := by decide
theorem wlE_le : ∀ i, i < 5 → wlE i ≤ 6 := by decide
def eqW (T : Nat → Nat) (i st : Nat) : Nat → Bool
  | 0 => true
  | k + 1 => eqW T i st k && decide (T (st + k) = wch i k)
theorem eqW_iff {T : Nat → Nat} {i st : Nat} : ∀ m, eqW T i st m = true ↔ ∀ k, k < m → T (st + k) = wch i k := by
  intro m
  induction m with
  | zero => simp [eqW]
  | succ m ih =>
    simp only [eqW, Bool.and_eq_true, decide_eq_true_eq]
    rw [ih]
    constructor
    · rintro ⟨h1, h2⟩ k hk
      by_cases e : k = m
      · rw [e]; exact h2
      · exact h1 k (by omega)
    · intro h
      exact ⟨fun k hk => h k (by omega), h m (by omega)⟩
def isW (T : Nat → Nat) (st e i : Nat) : Bool := decide (e - st = wlE i) && eqW T i st (wlE i)
theorem p_isWord {D : Dt} {n st e i : Nat} {T : Nat → Nat} (h : TXc D n T) (h2 : D 22 0 2 = nI e) (h4 : D 22 0 4 = nI st) (hse : st ≤ e) (hen : e ≤ n) (hi : i < 5) : f_X8_isWord i D = some (b01 (isW T st e i)) := by
  have hn := h.2.1
  have hl := wlE_le i hi
  have fl : f_strlen i = some (nI (wlE i)) := rfl
  rw [f_X8_isWord, fl, Option.bind_some, h2, h4, pk_sub hse, if_eq (by omega) (by omega)]
  by_cases c : e - st = wlE i
  · rw [if_pos c, isW, decide_eq_true c, Bool.true_and]
    have key : ∃ r, lp (l_X8_isWord_20 i D) FU (0 : Int32) = some r ∧ r = b01 (eqW T i st (wlE i)) := by
      apply lp_n (fun k t => t = nI k ∧ eqW T i st k = true) _ (wlE i)
      · exact ⟨rfl, rfl⟩
      · omega
      · rintro k t hk ⟨rfl, hf⟩
        simp only [l_X8_isWord_20]
        rw [fl, Option.bind_some, if_le (by omega) (by omega)]
        by_cases w : wlE i ≤ k
        · right
          rw [if_pos w, show wlE i = k by omega, hf]
          exact ⟨_, rfl, rfl⟩
        · obtain ⟨t1, t2⟩ := h.2.2 (st + k) (by omega)
          obtain ⟨w1, w2, w3⟩ := wch_ok i hi k (by omega)
          have fc : f_strchar i (nI k) = some (nI (wch i k)) := by
            rw [f_strchar, inb_nI (show k < lenS.getD i 0 from (by omega : k < wlE i)) (by show wlE i < 2 ^ 31; omega), nI_clamp (by omega), w1]
            rfl
          rw [if_neg w, h4, nI_add, if_neg (nI_pos (by omega)), if_neg (g150 (by omega)), rd_at rfl (show st + k < 150 by omega) (by decide), t2, fc, Option.bind_some, if_eq (by omega) (by omega)]
          by_cases v : T (st + k) = wch i k
          · left
            rw [if_pos v, nI_1]
            refine ⟨by omega, _, rfl, rfl, ?_⟩
            simp only [eqW, hf, Bool.true_and]
            exact decide_eq_true v
          · right
            rw [if_neg v]
            refine ⟨_, rfl, ?_⟩
            have : eqW T i st (wlE i) = false := Bool.eq_false_iff.mpr (fun q => v ((eqW_iff _).mp q k (by omega)))
            rw [this]
            rfl
    obtain ⟨r, k1, k2⟩ := key
    rw [k1, k2]
  · rw [if_neg c, isW, decide_eq_false c, Bool.false_and]
    rfl
def wdK (T : Nat → Nat) (st e : Nat) : Nat := if isW T st e 0 = true then 4 else if isW T st e 1 = true then 5 else if isW T st e 2 = true then 6 else if isW T st e 3 = true then 7 else if isW T st e 4 = true then 8 else 0
def J23 : Nat → Prop := fun j => j = 2 ∨ j = 3
theorem p_readWord {D : Dt} {n st : Nat} {T : Nat → Nat} (h : TXc D n T) (h2 : D 22 0 2 = nI st) (h4 : D 22 0 4 = nI st) (hp : st ≤ n) : ∃ D', f_X8_readWord D = some D' ∧ D' 22 0 2 = nI (run isL T n st) ∧ D' 22 0 3 = nI (wdK T st (run isL T n st)) ∧ E22 J23 D D' := by
  obtain ⟨D1, a1, a2, a3⟩ := p_wd0 h h2 hp
  obtain ⟨r1, r2, r3⟩ := run_b (P := isL) (T := T) hp
  have hE : TXc D1 n T := h.fr (a3.2 1 (by simp [J2])) (a3.1 23 0 (by decide))
  have e4 : D1 22 0 4 = nI st := (a3.2 4 (by simp [J2])).trans h4
  have fin : ∀ K : Nat, (updD D1 22 0 3 (nI K)) 22 0 2 = nI (run isL T n st) ∧ (updD D1 22 0 3 (nI K)) 22 0 3 = nI K ∧ E22 J23 D (updD D1 22 0 3 (nI K)) := fun K => ⟨by rw [updD_at, if_neg (by omega)]; exact a2, by simp [updD_at], (a3.mono (fun j q => Or.inl q)).tr (E22.u (Or.inr rfl))⟩
  refine ⟨updD D1 22 0 3 (nI (wdK T st (run isL T n st))), ?_, (fin _).1, (fin _).2.1, (fin _).2.2⟩
  rw [f_X8_readWord, a1, Option.bind_some, p_isWord hE a2 e4 r1 r2 (by decide), Option.bind_some, b01_0, p_isWord hE a2 e4 r1 r2 (by decide), Option.bind_some, b01_0, p_isWord hE a2 e4 r1 r2 (by decide), Option.bind_some, b01_0, p_isWord hE a2 e4 r1 r2 (by decide), Option.bind_some, b01_0, p_isWord hE a2 e4 r1 r2 (by decide), Option.bind_some, b01_0]
  simp only [pu, wdK]
  by_cases c0 : isW T st (run isL T n st) 0 = true
  · rw [if_pos c0, if_pos c0]; rfl
  · rw [if_neg c0, if_neg c0]
    by_cases c1 : isW T st (run isL T n st) 1 = true
    · rw [if_pos c1, if_pos c1]; rfl
    · rw [if_neg c1, if_neg c1]
      by_cases c2 : isW T st (run isL T n st) 2 = true
      · rw [if_pos c2, if_pos c2]; rfl
      · rw [if_neg c2, if_neg c2]
        by_cases c3 : isW T st (run isL T n st) 3 = true
        · rw [if_pos c3, if_pos c3]; rfl
        · rw [if_neg c3, if_neg c3]
          by_cases c4 : isW T st (run isL T n st) 4 = true
          · rw [if_pos c4, if_pos c4]; rfl
          · rw [if_neg c4, if_neg c4]; rfl
def nmK (T : Nat → Nat) (st e : Nat) : Nat := if 5 < e - st ∨ (1 < e - st ∧ T st = 48) then 0 else 3
def J235 : Nat → Prop := fun j => j = 2 ∨ j = 3 ∨ j = 5
theorem p_readNumber {D : Dt} {n st : Nat} {T : Nat → Nat} (h : TXc D n T) (h2 : D 22 0 2 = nI st) (h4 : D 22 0 4 = nI st) (hp : st < n) : ∃ D', f_X8_readNumber D = some D' ∧ D' 22 0 2 = nI (run isDg T n st) ∧ D' 22 0 3 = nI (nmK T st (run isDg T n st)) ∧ D' 22 0 5 = nI (Nof T st (run isDg T n st - st)) ∧ E22 J235 D D' := by
  have hn := h.2.1
  have h' : TXc (updD D 22 0 5 0) n T := h.fr (by rw [updD_at, if_neg (by omega)]) (updD_other _ _ _ (by omega))
  obtain ⟨D1, a1, a2, a5, a3⟩ := p_nm5 h' (by rw [updD_at, if_neg (by omega)]; exact h2) (by simp [updD_at]; rfl) (Nat.le_of_lt hp)
  obtain ⟨r1, r2, r3⟩ := run_b (P := isDg) (T := T) (Nat.le_of_lt hp)
  have hE : TXc D1 n T := h'.fr (a3.2 1 (by simp [J25])) (a3.1 23 0 (by decide))
  have e4 : D1 22 0 4 = nI st := by
    rw [a3.2 4 (by simp [J25]), updD_at, if_neg (by omega)]
    exact h4
  have hE1 : E22 J235 D D1 := (E22.u (Or.inr (Or.inr rfl))).tr (a3.mono (fun j q => by simp only [J25] at q; simp only [J235]; omega))
  have fin : ∀ K : Nat, (updD D1 22 0 3 (nI K)) 22 0 2 = nI (run isDg T n st) ∧ (updD D1 22 0 3 (nI K)) 22 0 3 = nI K ∧ (updD D1 22 0 3 (nI K)) 22 0 5 = nI (Nof T st (run isDg T n st - st)) ∧ E22 J235 D (updD D1 22 0 3 (nI K)) := fun K => ⟨by rw [updD_at, if_neg (by omega)]; exact a2, by simp [updD_at], by rw [updD_at, if_neg (by omega)]; exact a5, hE1.tr (E22.u (Or.inr (Or.inl rfl)))⟩
  refine ⟨updD D1 22 0 3 (nI (nmK T st (run isDg T n st))), ?_, (fin _).1, (fin _).2.1, (fin _).2.2.1, (fin _).2.2.2⟩
  have hj : ∀ b : Bool, j_X8_readNumber_98_t7 D1 (b01 b) = some (updD D1 22 0 3 (nI (if 5 < run isDg T n st - st ∨ b = true then 0 else 3))) := by
    intro b
    simp only [j_X8_readNumber_98_t7, pu]
    rw [a2, e4, pk_sub r1, show (5 : Int32) = nI 5 from rfl, if_lt (by decide) (by omega), b01_0]
    by_cases c : 5 < run isDg T n st - st
    · rw [if_pos c, if_pos (Or.inl c)]; rfl
    · rw [if_neg c]
      by_cases c2 : b = true
      · rw [if_pos c2, if_pos (Or.inr c2)]; rfl
      · rw [if_neg c2, if_neg (fun q => by rcases q with q | q; exact c q; exact c2 q)]; rfl
  obtain ⟨t1, t2⟩ := hE.2.2 st hp
  rw [f_X8_readNumber]
  simp only [pu]
  rw [a1, Option.bind_some, a2, e4, pk_sub r1, show (1 : Int32) = nI 1 from rfl, if_le (by omega) (by decide), rd_at rfl (show st < 150 by omega) (by decide), t2, show (48 : Int32) = nI 48 from rfl, if_eq (by omega) (by decide), show (0 : Int32) = b01 false from rfl, show nI 1 = b01 true from rfl, hj, hj, nmK]
  by_cases c : run isDg T n st - st ≤ 1
  · rw [if_pos c, if_neg (by simp; omega), if_neg (by omega)]
  · rw [if_neg c]
    by_cases c2 : T st = 48
    · rw [if_pos c2, if_pos (Or.inr rfl), if_pos (Or.inr ⟨by omega, c2⟩)]
    · rw [if_neg c2]
      by_cases c3 : 5 < run isDg T n st - st
      · rw [if_pos (Or.inl c3), if_pos (Or.inl c3)]
      · rw [if_neg (by simp; omega), if_neg (by omega)]
/-- the token at a position: beginning, end, kind, value -/
def tkS (T : Nat → Nat) (n p : Nat) : Nat := run isSp T n p
def tkE (T : Nat → Nat) (n p : Nat) : Nat := if n ≤ tkS T n p then tkS T n p else if isL (T (tkS T n p)) = true then run isL T n (tkS T n p) else if isDg (T (tkS T n p)) = true then run isDg T n (tkS T n p) else tkS T n p + 1
def tkK (T : Nat → Nat) (n p : Nat) : Nat := if n ≤ tkS T n p then 1 else if isL (T (tkS T n p)) = true then wdK T (tkS T n p) (run isL T n (tkS T n p)) else if isDg (T (tkS T n p)) = true then nmK T (tkS T n p) (run isDg T n (tkS T n p)) else if T (tkS T n p) = 59 then 2 else 0
def tkV (T : Nat → Nat) (n p : Nat) : Nat := Nof T (tkS T n p) (run isDg T n (tkS T n p) - tkS T n p)
theorem tk_b {T : Nat → Nat} {n p : Nat} (hp : p ≤ n) : p ≤ tkS T n p ∧ tkS T n p ≤ tkE T n p ∧ tkE T n p ≤ n ∧ (tkK T n p ≠ 1 → tkS T n p < tkE T n p) := by
  obtain ⟨a1, a2, a3⟩ := run_b (P := isSp) (T := T) hp
  have e : tkS T n p = run isSp T n p := rfl
  rw [← e] at a1 a2
  simp only [tkE, tkK]
  by_cases c : n ≤ tkS T n p
  · rw [if_pos c, if_pos c]
    exact ⟨a1, Nat.le_refl _, a2, fun q => absurd rfl q⟩
  · rw [if_neg c, if_neg c]
    by_cases c1 : isL (T (tkS T n p)) = true
    · rw [if_pos c1]
      obtain ⟨b1, b2, b3⟩ := run_b (P := isL) (T := T) a2
      exact ⟨a1, b1, b2, fun _ => run_gt (by omega) c1⟩
    · rw [if_neg c1]
      by_cases c2 : isDg (T (tkS T n p)) = true
      · rw [if_pos c2]
        obtain ⟨b1, b2, b3⟩ := run_b (P := isDg) (T := T) a2
        exact ⟨a1, b1, b2, fun _ => run_gt (by omega) c2⟩
      · rw [if_neg c2]
        exact ⟨a1, by omega, by omega, fun _ => by omega⟩
def J22 : Nat → Prop := fun j => j = 2 ∨ j = 3 ∨ j = 4 ∨ j = 5
def CT (D : Dt) (T : Nat → Nat) (n p : Nat) : Prop := D 22 0 2 = nI (tkE T n p) ∧ D 22 0 4 = nI (tkS T n p) ∧ D 22 0 3 = nI (tkK T n p) ∧ (tkK T n p = 3 → D 22 0 5 = nI (tkV T n p))
theorem nmK_v {T : Nat → Nat} {st e : Nat} : nmK T st e = 0 ∨ nmK T st e = 3 := by
  rw [nmK]
  by_cases c : 5 < e - st ∨ (1 < e - st ∧ T st = 48)
  · rw [if_pos c]; exact Or.inl rfl
  · rw [if_neg c]; exact Or.inr rfl
theorem wdK_v {T : Nat → Nat} {st e : Nat} : wdK T st e = 0 ∨ (4 ≤ wdK T st e ∧ wdK T st e ≤ 8) := by
  rw [wdK]
  by_cases c0 : isW T st e 0 = true
  · rw [if_pos c0]; omega
  · rw [if_neg c0]
    by_cases c1 : isW T st e 1 = true
    · rw [if_pos c1]; omega
    · rw [if_neg c1]
      by_cases c2 : isW T st e 2 = true
      · rw [if_pos c2]; omega
      · rw [if_neg c2]
        by_cases c3 : isW T st e 3 = true
        · rw [if_pos c3]; omega
        · rw [if_neg c3]
          by_cases c4 : isW T st e 4 = true
          · rw [if_pos c4]; omega
          · rw [if_neg c4]; omega
theorem p_readToken {D : Dt} {n p : Nat} {T : Nat → Nat} (h : TXc D n T) (h2 : D 22 0 2 = nI p) (hp : p ≤ n) : ∃ D', f_X8_readToken D = some D' ∧ CT D' T n p ∧ E22 J22 D D' := by
  have hn := h.2.1
  obtain ⟨D1, a1, a2, a3⟩ := p_tk0 h h2 hp
  obtain ⟨s1, s2, s3⟩ := run_b (P := isSp) (T := T) hp
  have eS : tkS T n p = run isSp T n p := rfl
  rw [← eS] at a2 s1 s2
  have h1 : TXc D1 n T := h.fr (a3.2 1 (by simp [J2])) (a3.1 23 0 (by decide))
  have h5 : TXc (updD D1 22 0 4 (nI (tkS T n p))) n T := h1.fr (by rw [updD_at, if_neg (by omega)]) (updD_other _ _ _ (by omega))
  have e4 : updD D1 22 0 4 (nI (tkS T n p)) 22 0 4 = nI (tkS T n p) := by simp [updD_at]
  have e2 : updD D1 22 0 4 (nI (tkS T n p)) 22 0 2 = nI (tkS T n p) := by rw [updD_at, if_neg (by omega)]; exact a2
  have hE5 : E22 J22 D (updD D1 22 0 4 (nI (tkS T n p))) := (a3.mono (fun j q => by simp only [J2] at q; simp only [J22]; omega)).tr (E22.u (by simp [J22]))
  rw [f_X8_readToken, a1, Option.bind_some]
  simp only [pu]
  rw [a2, e4, isWithin_eq h5 (by omega), Option.bind_some, b01_0]
  generalize updD D1 22 0 4 (nI (tkS T n p)) = D5 at *
  unfold CT
  simp only [tkE, tkK]
  by_cases c : n ≤ tkS T n p
  · rw [if_neg (by simp; omega), if_pos c, if_pos c]
    refine ⟨_, rfl, ⟨by rw [updD_at, if_neg (by omega)]; exact e2, by rw [updD_at, if_neg (by omega)]; exact e4, by simp [updD_at]; rfl, fun q => by omega⟩, hE5.tr (E22.u (by simp [J22]))⟩
  · have hlt : tkS T n p < n := by omega
    rw [if_pos (decide_eq_true hlt), if_neg c, if_neg c, isLetter_eq h5 (by omega), Option.bind_some, b01_0, decide_eq_true hlt, Bool.true_and]
    by_cases c1 : isL (T (tkS T n p)) = true
    · rw [if_pos c1, if_pos c1, if_pos c1]
      obtain ⟨D6, b1, b2, b3, b4⟩ := p_readWord h5 e2 e4 (by omega)
      rw [b1, Option.bind_some]
      refine ⟨_, rfl, ⟨b2, (b4.2 4 (by simp [J23])).trans e4, b3, fun q => ?_⟩, hE5.tr (b4.mono (fun j q => by simp only [J23] at q; simp only [J22]; omega))⟩
      have := wdK_v (T := T) (st := tkS T n p) (e := run isL T n (tkS T n p))
      omega
    · rw [if_neg c1, if_neg c1, if_neg c1, isDigit_eq h5 (by omega), Option.bind_some, b01_0, decide_eq_true hlt, Bool.true_and]
      by_cases c2 : isDg (T (tkS T n p)) = true
      · rw [if_pos c2, if_pos c2, if_pos c2]
        obtain ⟨D6, b1, b2, b3, b5, b4⟩ := p_readNumber h5 e2 e4 hlt
        rw [b1, Option.bind_some]
        exact ⟨_, rfl, ⟨b2, (b4.2 4 (by simp [J235])).trans e4, b3, fun _ => b5⟩, hE5.tr (b4.mono (fun j q => by simp only [J235] at q; simp only [J22]; omega))⟩
      · obtain ⟨t1, t2⟩ := h5.2.2 _ hlt
        rw [if_neg c2, if_neg c2, if_neg c2, rd_at rfl (show tkS T n p < 150 by omega) (by decide), t2, show (59 : Int32) = nI 59 from rfl, if_eq (by omega) (by decide)]
        have f2 : ∀ v : Int32, updD D5 22 0 3 v 22 0 2 = nI (tkS T n p) := fun v => by rw [updD_at, if_neg (by omega)]; exact e2
        have f4 : ∀ v w : Int32, updD (updD D5 22 0 3 v) 22 0 2 w 22 0 4 = nI (tkS T n p) := fun v w => by rw [updD_at, if_neg (by omega), updD_at, if_neg (by omega)]; exact e4
        by_cases c3 : T (tkS T n p) = 59
        · rw [if_pos c3, if_pos c3, f2, nI_1]
          exact ⟨_, rfl, ⟨by simp [updD_at], f4 _ _, by simp [updD_at]; rfl, fun q => by omega⟩, (hE5.tr (E22.u (by simp [J22]))).tr (E22.u (by simp [J22]))⟩
        · rw [if_neg c3, if_neg c3, f2, nI_1]
          exact ⟨_, rfl, ⟨by simp [updD_at], f4 _ _, by simp [updD_at]; rfl, fun q => by omega⟩, (hE5.tr (E22.u (by simp [J22]))).tr (E22.u (by simp [J22]))⟩
