/-! calls that ask: network, owner, host, leaseOf -/
theorem ixN {x : Int32} (n : Nat) (hn : n < 2 ^ 31) (h0 : 0 ≤ x) (h : x < nI n) : ∃ j, j < n ∧ x = nI j := by
  rcases pk_ix x hn with w | w | w
  · rw [Int32.lt_iff_toInt_lt] at w
    rw [Int32.le_iff_toInt_le] at h0
    omega
  · rw [Int32.lt_iff_toInt_lt] at h
    rw [Int32.le_iff_toInt_le] at w
    omega
  · exact w
theorem ixL {x : Int32} (n : Nat) (hn : n + 1 < 2 ^ 31) (h0 : 0 ≤ x) (h : x ≤ nI n) : ∃ j, j ≤ n ∧ x = nI j := by
  obtain ⟨j, h1, h2⟩ := ixN (n + 1) hn h0 (by
    rw [Int32.lt_iff_toInt_lt, nI_toInt hn]
    rw [Int32.le_iff_toInt_le, nI_toInt (by omega)] at h
    omega)
  exact ⟨j, by omega, h2⟩
theorem le_lt {x : Int32} (n : Nat) (hn : n + 1 < 2 ^ 31) : x ≤ nI n ↔ x < nI (n + 1) := by
  rw [Int32.lt_iff_toInt_lt, nI_toInt hn, Int32.le_iff_toInt_le, nI_toInt (by omega)]
  omega
theorem isb_ite {c : Prop} [Decidable c] : isb (if c then (1 : Int32) else 0) = true := by
  by_cases h : c
  · rw [if_pos h]; rfl
  · rw [if_neg h]; rfl
theorem ro_ok {F G : Dt → Option Int32} {D : Dt} (h : Inv D) (hx : ∃ r, F D = some r ∧ G D = some r) : ∃ (r : Int32) (D1 D2 : Dt), (F D).bind (fun r => some (r, D)) = some (r, D1) ∧ (G D1).bind (fun r => some (r, D1)) = some (r, D2) ∧ Inv D2 := by
  obtain ⟨r, h1, h2⟩ := hx
  exact ⟨r, D, D, by rw [h1, Option.bind_some], by rw [h2, Option.bind_some], h⟩
theorem X10_isNet (x : Int32) (D : Dt) : f_X10_isNet x D = some (if 0 ≤ x ∧ x < 12 then 1 else 0) := by
  rw [f_X10_isNet, in_eq, Option.bind_some, isb_ite]
  have e : x ≤ (11 : Int32) ↔ x < (12 : Int32) := le_lt 11 (by decide)
  simp only [e]
  rfl
theorem X10_isHost (x : Int32) (D : Dt) : f_X10_isHost x D = some (if 0 ≤ x ∧ x < 16 then 1 else 0) := by
  rw [f_X10_isHost, in_eq, Option.bind_some, isb_ite]
  have e : x ≤ (15 : Int32) ↔ x < (16 : Int32) := le_lt 15 (by decide)
  simp only [e]
  rfl
theorem isHost_eq (x : Int32) (D : Dt) : f_X9_isHost x D = some (if 0 ≤ x ∧ x < 16 then 1 else 0) := by
  simp only [f_X9_isHost]
  by_cases h1 : x < 0
  · rw [if_pos h1, if_neg]
    intro h
    have a1 := Int32.lt_iff_toInt_lt.mp h1
    have a2 := Int32.le_iff_toInt_le.mp h.1
    omega
  · rw [if_neg h1]
    have a1 : ¬ x.toInt < (0 : Int32).toInt := fun q => h1 (Int32.lt_iff_toInt_lt.mpr q)
    by_cases h2 : (16 : Int32) ≤ x
    · rw [if_pos h2, if_neg]
      intro h
      have a3 := Int32.le_iff_toInt_le.mp h2
      have a4 := Int32.lt_iff_toInt_lt.mp h.2
      omega
    · rw [if_neg h2, if_pos]
      have a3 : ¬ (16 : Int32).toInt ≤ x.toInt := fun q => h2 (Int32.le_iff_toInt_le.mpr q)
      exact ⟨Int32.le_iff_toInt_le.mpr (by omega), Int32.lt_iff_toInt_lt.mpr (by omega)⟩
theorem p_property {D : Dt} {b n j : Nat} (hn : n < 12) (hj : j < 5) : f_X5_property b (nI n) (nI j) D = some (D (4 + j) b n) := by
  simp only [f_X5_property, rd_at rfl hn (show 12 < 2 ^ 31 by decide)]
  rcases (show j = 0 ∨ j = 1 ∨ j = 2 ∨ j = 3 ∨ j = 4 by omega) with rfl | rfl | rfl | rfl | rfl
  · rfl
  · rfl
  · rfl
  · rfl
  · rfl
theorem ok_network : ∀ (x1 x2 : Int32) (D : Dt), Inv D → ∃ (r : Int32) (D1 D2 : Dt), (f_X9_network x1 x2 D).bind (fun r => some (r, D)) = some (r, D1) ∧ (f_X10_network x1 x2 D1).bind (fun r => some (r, D1)) = some (r, D2) ∧ Inv D2 := by
  intro x y D h
  have hR := h.2.1
  have hG := h.1
  refine ro_ok (F := f_X9_network x y) (G := f_X10_network x y) h ?_
  simp only [f_X9_network, f_X10_network, isNetwork_eq, X10_isNet, isIn_eq, in_eq, Option.bind_some, if_b]
  by_cases c : (0 : Int32) ≤ x ∧ x < 12
  · obtain ⟨n, hn, rfl⟩ := ixN 12 (by decide) c.1 c.2
    simp only [if_pos c]
    by_cases c2 : (0 : Int32) ≤ y ∧ y ≤ 5
    · obtain ⟨j, hj, rfl⟩ := ixL 5 (by decide) c2.1 c2.2
      simp only [if_pos c2]
      by_cases c5 : j = 5
      · subst c5
        simp only [if_pos (show nI 5 = (5 : Int32) from rfl)]
        exact ⟨mofI (D 33 0) (nI n), by rw [p_membersOf hR.2.2]; rfl, by rw [p_hostsOf rfl]; rfl⟩
      · have e5 : ¬ nI j = (5 : Int32) := fun q => c5 ((nI_eq (b := 5) (by omega) (by decide)).mp q)
        simp only [if_neg e5, show (2 : Int32) = nI 2 from rfl, if_le (show 2 < 2 ^ 31 by decide) (show j < 2 ^ 31 by omega)]
        simp only [hasBlock_s hR.2.1 hn, hasOld_s hR.2.1 hn, X10_hasBlock rfl hG.2.1 hn, X10_hasOld rfl hG.2.1 hn, Option.bind_some, if_b', p_property hn (show j < 5 by omega), p_X10_net, nI_add, rd_at rfl (show 14 + 5 * n + j < 170 by omega) (show 170 < 2 ^ 31 by decide)]
        obtain ⟨r1, r2, r3, r4⟩ := hR.2.1.2.2.2 n hn
        by_cases c6 : 2 ≤ j
        · simp only [if_pos c6]
          by_cases c7 : D 33 0 (14 + 5 * n + 2) = -1
          · simp only [if_pos c7]
            exact ⟨-9, rfl, rfl⟩
          · simp only [if_neg c7, Option.bind_some]
            refine ⟨D 33 0 (14 + 5 * n + j), ?_, rfl⟩
            rcases (show j = 2 ∨ j = 3 ∨ j = 4 by omega) with rfl | rfl | rfl
            · rw [show 4 + 2 = 6 from rfl, r2]
            · rw [show 4 + 3 = 7 from rfl, (r4 c7).1]
            · rw [show 4 + 4 = 8 from rfl, (r4 c7).2]
        · simp only [if_neg c6]
          by_cases c7 : D 33 0 (14 + 5 * n) = -1
          · simp only [if_pos c7]
            exact ⟨-9, rfl, rfl⟩
          · simp only [if_neg c7, Option.bind_some]
            refine ⟨D 33 0 (14 + 5 * n + j), ?_, rfl⟩
            rcases (show j = 0 ∨ j = 1 by omega) with rfl | rfl
            · rw [show 4 + 0 = 4 from rfl, r1, Nat.add_zero]
            · rw [show 4 + 1 = 5 from rfl, r3 c7]
    · simp only [if_neg c2]
      exact ⟨-1, rfl, rfl⟩
  · simp only [if_neg c]
    exact ⟨-1, rfl, rfl⟩
/-! the first index of which something holds -/
def ff1 (p : Nat → Bool) : Nat → Option Nat
  | 0 => none
  | n + 1 => (ff1 p n).or (if p n = true then some n else none)
theorem ff1_s {p : Nat → Bool} {n : Nat} (h : ff1 p n = none) (h2 : p n = false) : ff1 p (n + 1) = none := by
  simp [ff1, h, h2]
theorem ff1_hit {p : Nat → Bool} {i : Nat} (h : ff1 p i = none) (h2 : p i = true) : ∀ n, i < n → ff1 p n = some i := by
  intro n
  induction n with
  | zero => intro w; omega
  | succ n ih =>
    intro w
    simp only [ff1]
    by_cases e : i = n
    · subst e
      rw [h, h2]
      rfl
    · rw [ih (by omega)]
      rfl
theorem ff1_lt {p : Nat → Bool} : ∀ n i, ff1 p n = some i → i < n ∧ p i = true := by
  intro n
  induction n with
  | zero => intro i h; cases h
  | succ n ih =>
    intro i h
    simp only [ff1] at h
    cases hf : ff1 p n with
    | none =>
      rw [hf] at h
      by_cases w : p n = true
      · rw [if_pos w] at h
        simp at h
        subst h
        exact ⟨by omega, w⟩
      · rw [if_neg w] at h
        cases h
    | some j =>
      rw [hf] at h
      simp at h
      subst h
      have := ih j hf
      exact ⟨by omega, this.2⟩
def cov (o : Option (Nat × Nat)) (a : Nat) : Bool := match o with
  | none => false
  | some q => decide (q.1 ≤ a) && decide (a < q.1 + zz q.2)
theorem covers_ob {x y : Int32} {o : Option (Nat × Nat)} {a : Nat} (h : OB x y o) (ha : a < 2 ^ 30) (D : Dt) : f_X9_covers x y (nI a) D = some (b01 (cov o a)) := by
  cases o with
  | none =>
    rw [f_X9_covers, if_pos (show x = -1 from h)]
    rfl
  | some q =>
    obtain ⟨h1, h2, h3, h4⟩ := h
    have hz := zz_le q.2
    rw [f_X9_covers, h1, h2, if_neg (nI_nm1 (by omega)), if_lt (by omega) (by omega), sizeOf_eq h4, Option.bind_some, nI_add, if_le (by omega) (by omega)]
    simp only [cov]
    by_cases w : a < q.1
    · rw [if_pos w, decide_eq_false (show ¬ q.1 ≤ a by omega)]
      rfl
    · rw [if_neg w, decide_eq_true (show q.1 ≤ a by omega)]
      by_cases w2 : q.1 + zz q.2 ≤ a
      · rw [if_pos w2, decide_eq_false (show ¬ a < q.1 + zz q.2 by omega)]
        rfl
      · rw [if_neg w2, decide_eq_true (show a < q.1 + zz q.2 by omega)]
        rfl
theorem p_networkAt {D : Dt} {b a : Nat} {us : Nat → Option (Nat × Nat)} (hS : SpV D b us) (ha : a < 2 ^ 30) : f_X5_networkAt b (nI a) D = some (oI ((ff1 (fun k => cov (us k) a) 24).map (fun k => k / 2))) := by
  have key : ∃ e, lp (l_X5_networkAt_2 b (nI a) D) FU (0 : Int32) = some e ∧ e = oI ((ff1 (fun k => cov (us k) a) 24).map (fun k => k / 2)) := by
    apply lp_n (fun i s => s = nI i ∧ ff1 (fun k => cov (us k) a) (2 * i) = none) _ 12
    · exact ⟨rfl, rfl⟩
    · decide
    · rintro i s hi ⟨rfl, hf⟩
      simp only [l_X5_networkAt_2]
      by_cases w : i = 12
      · right
        subst w
        rw [if_pos (by decide), hf]
        exact ⟨_, rfl, rfl⟩
      · have hi2 : i < 12 := by omega
        rw [if_neg (g12 hi2), rd_at rfl hi2 (by decide), rd_at rfl hi2 (by decide), covers_ob (hS i hi2).1 ha, Option.bind_some, b01_0]
        by_cases c1 : cov (us (2 * i)) a = true
        · right
          rw [if_pos c1, ff1_hit hf c1 24 (by omega)]
          refine ⟨_, rfl, ?_⟩
          show nI i = nI (2 * i / 2)
          rw [show 2 * i / 2 = i by omega]
        · have hf1 := ff1_s hf (Bool.eq_false_iff.mpr c1)
          rw [if_neg c1, rd_at rfl hi2 (by decide), rd_at rfl hi2 (by decide), covers_ob (hS i hi2).2 ha, Option.bind_some, b01_0]
          by_cases c2 : cov (us (2 * i + 1)) a = true
          · right
            rw [if_pos c2, ff1_hit hf1 c2 24 (by omega)]
            refine ⟨_, rfl, ?_⟩
            show nI i = nI ((2 * i + 1) / 2)
            rw [show (2 * i + 1) / 2 = i by omega]
          · left
            rw [if_neg c2, nI_1]
            exact ⟨hi2, _, rfl, rfl, ff1_s hf1 (Bool.eq_false_iff.mpr c2)⟩
  obtain ⟨e, h1, h2⟩ := key
  rw [f_X5_networkAt, h1, h2]
def o9 (o : Option Nat) : Int32 := match o with
  | none => -9
  | some n => nI n
theorem p_X10_owner14 {D : Dt} {a : Nat} {us : Nat → Option (Nat × Nat)} (hV : RV (D 33 0) us) (ha : a < 2 ^ 30) : lp (l_X10_owner_14 (nI a) D) FU (0 : Int32) = some (o9 ((ff1 (fun k => cov (us k) a) 24).map (fun k => k / 2))) := by
  have key : ∃ e, lp (l_X10_owner_14 (nI a) D) FU (0 : Int32) = some e ∧ e = o9 ((ff1 (fun k => cov (us k) a) 24).map (fun k => k / 2)) := by
    apply lp_n (fun i s => s = nI i ∧ ff1 (fun k => cov (us k) a) i = none) _ 24
    · exact ⟨rfl, rfl⟩
    · decide
    · rintro i s hi ⟨rfl, hf⟩
      simp only [l_X10_owner_14]
      by_cases w : i = 24
      · right
        subst w
        rw [if_pos (by decide), hf]
        exact ⟨_, rfl, rfl⟩
      · have hi2 : i < 24 := by omega
        have hob := hV i hi2
        rw [if_neg (g24 hi2), blockAt_eq hi2, Option.bind_some, nn_lt hob.nn]
        cases hu : us i with
        | none =>
          left
          rw [hu] at hob
          rw [if_pos (show D 33 0 (bix i) = -1 from hob), nI_1]
          exact ⟨hi2, _, rfl, rfl, ff1_s hf (by simp only [hu]; rfl)⟩
        | some q =>
          obtain ⟨g, m⟩ := q
          rw [hu] at hob
          obtain ⟨o1, o2, o3, o4⟩ := hob
          simp only at o1 o2 o3 o4
          have hz := zz_le m
          have hzp := zz_pos m
          rw [o1, if_neg (nI_nm1 (by omega)), Option.bind_some, Option.bind_some, lengthAt_eq hi2, Option.bind_some, o2, size_eq o4, Option.bind_some, nI_add, in_eq, Option.bind_some, if_b]
          have em : nI (g + zz m) - (1 : Int32) = nI (g + zz m - 1) := pk_sub (b := 1) (by omega)
          have hd : nI i / (2 : Int32) = nI (i / 2) := pk_div (d := 2) (by omega) (by decide) (by decide)
          rw [em, gd_2, hd]
          by_cases c1 : g ≤ a ∧ a < g + zz m
          · right
            have hc : cov (us i) a = true := by
              simp [hu, cov, c1.1, c1.2]
            rw [if_pos ⟨nI_le c1.1 (by omega), nI_le (by omega) (by omega)⟩, ff1_hit hf hc 24 hi2]
            exact ⟨_, rfl, rfl⟩
          · left
            rw [if_neg, nI_1]
            · refine ⟨hi2, _, rfl, rfl, ff1_s hf ?_⟩
              simp only [hu, cov]
              by_cases w2 : g ≤ a
              · rw [decide_eq_false (show ¬ a < g + zz m by omega), Bool.and_false]
              · rw [decide_eq_false w2, Bool.false_and]
            · rintro ⟨q1, q2⟩
              rw [nI_leI (by omega) (by omega)] at q1 q2
              omega
  obtain ⟨e, h1, h2⟩ := key
  rw [h1, h2]
theorem oI_o9 {o : Option Nat} (h : ∀ n, o = some n → n < 2 ^ 31) : (if oI o = -1 then (-9 : Int32) else oI o) = o9 o := by
  cases o with
  | none => rfl
  | some n =>
    rw [oI_s, if_neg (nI_nm1 (h n rfl))]
    rfl
theorem oI_o9b {β : Type} {o : Option Nat} {F : Int32 → β} (h : ∀ n, o = some n → n < 2 ^ 31) : (if oI o = -1 then F (-9 : Int32) else F (oI o)) = F (o9 o) := by
  cases o with
  | none => rfl
  | some n =>
    rw [oI_s, if_neg (nI_nm1 (h n rfl))]
    rfl
theorem ok_owner : ∀ (x1 : Int32) (D : Dt), Inv D → ∃ (r : Int32) (D1 D2 : Dt), (f_X9_owner x1 D).bind (fun r => some (r, D)) = some (r, D1) ∧ (f_X10_owner x1 D1).bind (fun r => some (r, D1)) = some (r, D2) ∧ Inv D2 := by
  intro x D h
  refine ro_ok (F := f_X9_owner x) (G := f_X10_owner x) h ?_
  simp only [f_X9_owner, f_X10_owner, isIn_eq, in_eq, Option.bind_some, if_b]
  by_cases c : (0 : Int32) ≤ x ∧ x ≤ 65535
  · obtain ⟨a, ha, rfl⟩ := ixL 65535 (by decide) c.1 c.2
    simp only [if_pos c]
    obtain ⟨N, po, us, h1, h2, h3⟩ := h.1.2.1
    refine ⟨o9 ((ff1 (fun k => cov (us k) a) 24).map (fun k => k / 2)), ?_, ?_⟩
    · rw [p_networkAt (h.2.1.2.1.spv h1) (by omega), Option.bind_some, oI_o9b (F := fun r => some r)]
      · intro n hn
        cases hf : ff1 (fun k => cov (us k) a) 24 with
        | none => rw [hf] at hn; cases hn
        | some k =>
          rw [hf] at hn
          have := (ff1_lt _ _ hf).1
          simp at hn
          omega
    · rw [p_X10_owner14 h1 (by omega)]
  · simp only [if_neg c]
    exact ⟨-1, rfl, rfl⟩
/-! the host that has a lease -/
def hfd (s : Nat → Int32) (x : Int32) : Option Nat := ff1 (fun h => decide (s (74 + 6 * h + 2) = x) || decide (s (74 + 6 * h + 4) = x)) 16
theorem hfd_lt {s : Nat → Int32} {x : Int32} : ∀ n, hfd s x = some n → n < 2 ^ 31 := by
  intro n hn
  have := (ff1_lt _ _ hn).1
  omega
theorem p_holderOf {D : Dt} {b : Nat} {s : Nat → Int32} (hR : RelH D b s) (x : Int32) : f_X2_holderOf b x D = some (oI (hfd s x)) := by
  have key : ∃ e, lp (l_X2_holderOf_2 b x D) FU (0 : Int32) = some e ∧ e = oI (hfd s x) := by
    apply lp_n (fun i t => t = nI i ∧ ff1 (fun h => decide (s (74 + 6 * h + 2) = x) || decide (s (74 + 6 * h + 4) = x)) i = none) _ 16
    · exact ⟨rfl, rfl⟩
    · decide
    · rintro i t hi ⟨rfl, hf⟩
      simp only [l_X2_holderOf_2]
      by_cases w : i = 16
      · right
        subst w
        rw [if_pos (by decide), hfd, hf]
        exact ⟨_, rfl, rfl⟩
      · have hi2 : i < 16 := by omega
        obtain ⟨r1, r2, r3, _⟩ := hR i hi2
        rw [if_neg (g16 hi2), rd_at rfl hi2 (by decide), rd_at rfl hi2 (by decide), r2, r3]
        by_cases c1 : s (74 + 6 * i + 2) = x
        · right
          rw [if_pos c1, hfd, ff1_hit hf (by simp [c1]) 16 hi2]
          exact ⟨_, rfl, rfl⟩
        · rw [if_neg c1]
          by_cases c2 : s (74 + 6 * i + 4) = x
          · right
            rw [if_pos c2, hfd, ff1_hit hf (by simp [c2]) 16 hi2]
            exact ⟨_, rfl, rfl⟩
          · left
            rw [if_neg c2, nI_1]
            exact ⟨hi2, _, rfl, rfl, ff1_s hf (by simp [c1, c2])⟩
  obtain ⟨e, h1, h2⟩ := key
  rw [f_X2_holderOf, h1, h2]
theorem p_holder {D : Dt} {s : Nat → Int32} (hs : D 33 0 = s) (x : Int32) : f_X10_holder x D = some (o9 (hfd s x)) := by
  have key : ∃ e, lp (l_X10_holder_2 x D) FU (0 : Int32) = some e ∧ e = o9 (hfd s x) := by
    apply lp_n (fun i t => t = nI i ∧ ff1 (fun h => decide (s (74 + 6 * h + 2) = x) || decide (s (74 + 6 * h + 4) = x)) i = none) _ 16
    · exact ⟨rfl, rfl⟩
    · decide
    · rintro i t hi ⟨rfl, hf⟩
      simp only [l_X10_holder_2]
      by_cases w : i = 16
      · right
        subst w
        rw [if_pos (by decide), hfd, hf]
        exact ⟨_, rfl, rfl⟩
      · have hi2 : i < 16 := by omega
        simp only [p_X10_hostAt, Option.bind_some, show (2 : Int32) = nI 2 from rfl, show (4 : Int32) = nI 4 from rfl, nI_add, rd_at rfl (show 74 + 6 * i + 2 < 170 by omega) (show 170 < 2 ^ 31 by decide), rd_at rfl (show 74 + 6 * i + 4 < 170 by omega) (show 170 < 2 ^ 31 by decide), hs]
        rw [if_neg (g16 hi2)]
        by_cases c1 : s (74 + 6 * i + 2) = x
        · right
          rw [if_pos c1, hfd, ff1_hit hf (by simp [c1]) 16 hi2]
          exact ⟨_, rfl, rfl⟩
        · rw [if_neg c1]
          by_cases c2 : s (74 + 6 * i + 4) = x
          · right
            rw [if_pos c2, hfd, ff1_hit hf (by simp [c2]) 16 hi2]
            exact ⟨_, rfl, rfl⟩
          · left
            rw [if_neg c2, nI_1]
            exact ⟨hi2, _, rfl, rfl, ff1_s hf (by simp [c1, c2])⟩
  obtain ⟨e, h1, h2⟩ := key
  rw [f_X10_holder, h1, h2]
theorem ok_leaseOf : ∀ (x1 : Int32) (D : Dt), Inv D → ∃ (r : Int32) (D1 D2 : Dt), (f_X9_leaseOf x1 D).bind (fun r => some (r, D)) = some (r, D1) ∧ (f_X10_leaseOf x1 D1).bind (fun r => some (r, D1)) = some (r, D2) ∧ Inv D2 := by
  intro x D h
  refine ro_ok (F := f_X9_leaseOf x) (G := f_X10_leaseOf x) h ?_
  simp only [f_X9_leaseOf, f_X10_leaseOf, isIn_eq, in_eq, Option.bind_some, if_b]
  by_cases c : (0 : Int32) ≤ x ∧ x ≤ 65535
  · simp only [if_pos c]
    refine ⟨o9 (hfd (D 33 0) x), ?_, ?_⟩
    · rw [p_holderOf h.2.1.2.2, Option.bind_some, oI_o9b (F := fun r => some r) hfd_lt]
    · rw [p_holder rfl, Option.bind_some]
  · simp only [if_neg c]
    exact ⟨-1, rfl, rfl⟩
theorem isMember_s {D : Dt} {b i : Nat} {s : Nat → Int32} (hR : RelH D b s) (hi : i < 16) : f_X2_isMember b (nI i) D = some (if s (74 + 6 * i) = -1 then 0 else 1) := by
  rw [f_X2_isMember, rd_at rfl hi (by decide), (hR i hi).1]
  by_cases q : s (74 + 6 * i) = -1
  · rw [if_pos q, if_pos q]
  · rw [if_neg q, if_neg q]
theorem ok_host : ∀ (x1 x2 : Int32) (D : Dt), Inv D → ∃ (r : Int32) (D1 D2 : Dt), (f_X9_host x1 x2 D).bind (fun r => some (r, D)) = some (r, D1) ∧ (f_X10_host x1 x2 D1).bind (fun r => some (r, D1)) = some (r, D2) ∧ Inv D2 := by
  intro x y D h
  have hR := h.2.1
  have hG := h.1
  refine ro_ok (F := f_X9_host x y) (G := f_X10_host x y) h ?_
  simp only [f_X9_host, f_X10_host, isHost_eq, X10_isHost, isIn_eq, in_eq, Option.bind_some, if_b]
  by_cases c : (0 : Int32) ≤ x ∧ x < 16
  · obtain ⟨i, hi, rfl⟩ := ixN 16 (by decide) c.1 c.2
    simp only [if_pos c]
    by_cases c2 : (0 : Int32) ≤ y ∧ y ≤ 5
    · obtain ⟨j, hj, rfl⟩ := ixL 5 (by decide) c2.1 c2.2
      obtain ⟨r0, r2, r4, r1, r3, r5⟩ := hR.2.2 i hi
      simp only [if_pos c2, isMember_s hR.2.2 hi, Option.bind_some, if_b', p_X10_hostAt, nI_add, gd_2, rd_at rfl (show 74 + 6 * i < 170 by omega) (show 170 < 2 ^ 31 by decide), rd_at rfl (show 74 + 6 * i + j < 170 by omega) (show 170 < 2 ^ 31 by decide), nn_lt (hG.2.2.nn0 hi), if_true, if_neg (show ¬ (1 : Int32) = 0 by decide)]
      by_cases c3 : D 33 0 (74 + 6 * i) = -1
      · simp only [if_pos c3]
        exact ⟨-9, rfl, rfl⟩
      · simp only [if_neg c3, f_X2_property, rd_at rfl hi (show 16 < 2 ^ 31 by decide), r0, r1 c3, r2, r4]
        obtain ⟨g1, g2, g3⟩ := hG.2.2 i hi
        rcases (show j = 0 ∨ j = 1 ∨ j = 2 ∨ j = 3 ∨ j = 4 ∨ j = 5 by omega) with rfl | rfl | rfl | rfl | rfl | rfl
        · refine ⟨D 33 0 (74 + 6 * i), ?_, ?_⟩
          · rw [if_pos (by decide), Option.bind_some, if_neg c3]
          · rw [if_pos (by decide)]
            rfl
        · refine ⟨D 33 0 (74 + 6 * i + 1), ?_, ?_⟩
          · rw [if_neg (by decide), if_pos (by decide), Option.bind_some, if_neg]
            · rcases g1 with w | ⟨n, _, _, _, w | w⟩
              · exact absurd w c3
              · rw [w]; decide
              · rw [w]; decide
          · rw [if_pos (by decide)]
        · rw [if_neg (by decide), if_neg (by decide), if_pos (by decide), Option.bind_some, if_neg (show ¬ nI 2 < 2 by decide), show nI (74 + 6 * i + 2) - (nI 2 - nI 2 / 2 * 2) = nI (74 + 6 * i + 2) by rw [show nI 2 - nI 2 / 2 * 2 = nI 0 by decide, pk_sub (by omega), Nat.sub_zero], rd_at rfl (show 74 + 6 * i + 2 < 170 by omega) (by decide), nn_lt (hG.2.2.nn2 hi)]
          by_cases c4 : D 33 0 (74 + 6 * i + 2) = -1
          · rw [if_pos c4]
            exact ⟨-9, rfl, rfl⟩
          · rw [if_neg c4]
            exact ⟨_, rfl, rfl⟩
        · rw [if_neg (by decide), if_neg (by decide), if_neg (by decide), if_pos (by decide), if_neg (show ¬ nI 3 < 2 by decide), show nI (74 + 6 * i + 3) - (nI 3 - nI 3 / 2 * 2) = nI (74 + 6 * i + 2) by rw [show nI 3 - nI 3 / 2 * 2 = nI 1 by decide, pk_sub (by omega)]; rfl, rd_at rfl (show 74 + 6 * i + 2 < 170 by omega) (by decide), nn_lt (hG.2.2.nn2 hi)]
          by_cases c4 : D 33 0 (74 + 6 * i + 2) = -1
          · rw [if_pos c4, if_pos c4, Option.bind_some, if_pos rfl]
            exact ⟨-9, rfl, rfl⟩
          · rw [if_neg c4, if_neg c4, r3 c4, Option.bind_some, if_neg]
            · exact ⟨_, rfl, rfl⟩
            · rcases g2 with w | ⟨a, u, _, w2, _, w4⟩
              · exact absurd w c4
              · rw [w4]; exact nI_nm1 (by omega)
        · rw [if_neg (by decide), if_neg (by decide), if_neg (by decide), if_neg (by decide), if_pos (by decide), Option.bind_some, if_neg (show ¬ nI 4 < 2 by decide), show nI (74 + 6 * i + 4) - (nI 4 - nI 4 / 2 * 2) = nI (74 + 6 * i + 4) by rw [show nI 4 - nI 4 / 2 * 2 = nI 0 by decide, pk_sub (by omega), Nat.sub_zero], rd_at rfl (show 74 + 6 * i + 4 < 170 by omega) (by decide), nn_lt (hG.2.2.nn4 hi)]
          by_cases c4 : D 33 0 (74 + 6 * i + 4) = -1
          · rw [if_pos c4]
            exact ⟨-9, rfl, rfl⟩
          · rw [if_neg c4]
            exact ⟨_, rfl, rfl⟩
        · rw [if_neg (by decide), if_neg (by decide), if_neg (by decide), if_neg (by decide), if_neg (by decide), if_neg (show ¬ nI 5 < 2 by decide), show nI (74 + 6 * i + 5) - (nI 5 - nI 5 / 2 * 2) = nI (74 + 6 * i + 4) by rw [show nI 5 - nI 5 / 2 * 2 = nI 1 by decide, pk_sub (by omega)]; rfl, rd_at rfl (show 74 + 6 * i + 4 < 170 by omega) (by decide), nn_lt (hG.2.2.nn4 hi)]
          by_cases c4 : D 33 0 (74 + 6 * i + 4) = -1
          · rw [if_pos c4, if_pos c4, Option.bind_some, if_pos rfl]
            exact ⟨-9, rfl, rfl⟩
          · rw [if_neg c4, if_neg c4, r5 c4, Option.bind_some, if_neg]
            · exact ⟨_, rfl, rfl⟩
            · rcases g3 with w | ⟨⟨a, u, _, w2, _, w4⟩, _⟩
              · exact absurd w c4
              · rw [w4]; exact nI_nm1 (by omega)
    · simp only [if_neg c2]
      exact ⟨-1, rfl, rfl⟩
  · simp only [if_neg c]
    exact ⟨-1, rfl, rfl⟩
