/-! resize -/
theorem neg_bits : ∀ l, l ≤ 16 → ∀ i, i < 32 → (-(nI (zz l))).toBitVec.getLsbD i = decide (16 - l ≤ i) := by decide
theorem and_neg {g l : Nat} (hl : l ≤ 16) : nI g &&& (-(nI (zz l))) = nI (g - g % zz l) := by
  apply Int32.toBitVec_inj.1
  show BitVec.ofNat 32 g &&& (-(nI (zz l))).toBitVec = BitVec.ofNat 32 (g - g % zz l)
  apply BitVec.eq_of_getLsbD_eq
  intro i hi
  have e : g - g % zz l = 2 ^ (16 - l) * (g / 2 ^ (16 - l)) := by
    have := Nat.div_add_mod g (2 ^ (16 - l))
    show g - g % 2 ^ (16 - l) = _
    omega
  rw [BitVec.getLsbD_and, BitVec.getLsbD_ofNat, BitVec.getLsbD_ofNat, neg_bits l hl i hi, decide_eq_true hi, Bool.true_and, Bool.true_and, e, Nat.testBit_two_pow_mul, Nat.testBit_div_two_pow]
  by_cases w : 16 - l ≤ i
  · rw [Nat.sub_add_cancel w, decide_eq_true w, Bool.true_and, Bool.and_true]
  · rw [decide_eq_false w, Bool.false_and, Bool.and_false]
def ovO (o : Option (Nat × Nat)) (g m : Nat) : Bool := match o with
  | none => false
  | some q => ovl q g m
theorem ovO_n (g m : Nat) : ovO none g m = false := rfl
theorem ovO_s (q : Nat × Nat) (g m : Nat) : ovO (some q) g m = ovl q g m := rfl
def bdk (us : Nat → Option (Nat × Nat)) (K g m k : Nat) : Bool := !decide (k = K) && ovO (us k) g m
theorem bdk_ne {us : Nat → Option (Nat × Nat)} {K g m k : Nat} (h : k ≠ K) : bdk us K g m k = ovO (us k) g m := by
  rw [bdk, decide_eq_false h]
  rfl
theorem bdk_eq {us : Nat → Option (Nat × Nat)} {K g m : Nat} : bdk us K g m K = false := by
  rw [bdk, decide_eq_true rfl]
  rfl
def inP (po : Nat → Nat × Nat) (g m p : Nat) : Bool := decide ((po p).2 ≤ m) && cov (some ((po p).1, (po p).2)) g
def inQ (po : Nat → Nat × Nat) (g m p : Nat) : Bool := decide ((po p).1 ≤ g) && decide (g + zz m ≤ (po p).1 + zz (po p).2)
theorem p_cc6 {D : Dt} {b N g m : Nat} {po : Nat → Nat × Nat} (hP : PoV D b N po) (hN : N ≤ 4) (hpo : ∀ p, p < N → (po p).1 < 65536 ∧ (po p).2 ≤ 16) (hg : g < 65536) (hm : m ≤ 16) : lp (l_X5_canCover_6 b (nI g) (nI m) D) FU ((0 : Int32), (0 : Int32)) = some (b01 (anyB (inP po g m) N)) := by
  apply lp_to (fun i => (b01 (anyB (inP po g m) i), nI i)) N
  · rfl
  · exact FU_big (by omega)
  · intro i hi
    obtain ⟨b1, b2⟩ := hpo i hi
    have o1 : OB (nI (po i).1) (nI (po i).2) (some ((po i).1, (po i).2)) := ⟨rfl, rfl, b1, b2⟩
    simp only [l_X5_canCover_6, hP.1]
    rw [if_neg (g4 (by omega)), if_neg (nI_ge hi (by omega)), rd_at rfl (show i < 4 by omega) (by decide), rd_at rfl (show i < 4 by omega) (by decide), rd_at rfl (show i < 4 by omega) (by decide), (hP.2 i hi).1, (hP.2 i hi).2, b01_0, if_lt (by omega) (by omega), covers_ob o1 (by omega), Option.bind_some, b01_0, nI_1]
    simp only [anyB]
    by_cases c : anyB (inP po g m) i = true
    · rw [if_pos c, c]; rfl
    · rw [if_neg c, Bool.eq_false_iff.mpr c, Bool.false_or]
      simp only [inP]
      by_cases w : m < (po i).2
      · rw [if_pos w, decide_eq_false (show ¬ (po i).2 ≤ m by omega)]; rfl
      · rw [if_neg w, decide_eq_true (show (po i).2 ≤ m by omega), Bool.true_and]
        by_cases w2 : cov (some ((po i).1, (po i).2)) g = true
        · rw [if_pos w2, w2]; rfl
        · rw [if_neg w2, Bool.eq_false_iff.mpr w2]; rfl
  · simp only [l_X5_canCover_6, hP.1]
    by_cases w : N = 4
    · rw [w, if_pos (by decide)]
    · rw [if_neg (g4 (by omega)), if_pos (nI_le (Nat.le_refl _) (by omega))]
theorem p_cc81 {D : Dt} {b n g m : Nat} {us : Nat → Option (Nat × Nat)} (hS : SpV D b us) (hn : n < 12) (hg : g < 65536) (hm : m ≤ 16) : lp (l_X5_canCover_81 b (nI n) (nI g) (nI m) D) FU (0 : Int32) = some (b01 (!anyB (bdk us (2 * n) g m) 24)) := by
  have key : ∃ e, lp (l_X5_canCover_81 b (nI n) (nI g) (nI m) D) FU (0 : Int32) = some e ∧ e = b01 (!anyB (bdk us (2 * n) g m) 24) := by
    apply lp_n (fun i s => s = nI i ∧ anyB (bdk us (2 * n) g m) (2 * i) = false) _ 12
    · exact ⟨rfl, rfl⟩
    · decide
    · rintro i s hi ⟨rfl, hf⟩
      by_cases w : i = 12
      · right
        subst w
        simp only [l_X5_canCover_81]
        rw [if_pos (by decide), hf]
        exact ⟨_, rfl, rfl⟩
      · have hi2 : i < 12 := by omega
        have old : (f_X5_hasOld b (nI i) D).bind (fun o6 => if o6 = 0 then (some (Sum.inl (nI i + (1 : Int32)))) else (rd D 6 b 12 (nI i) (fun v7 => rd D 7 b 12 (nI i) (fun v8 => (f_X9_meet v7 v8 (nI g) (nI m) D).bind (fun o9 => if o9 = 0 then (some (Sum.inl (nI i + (1 : Int32)))) else (some (Sum.inr (0 : Int32)))))))) = some (if ovO (us (2 * i + 1)) g m = true then (Sum.inr (0 : Int32) : Int32 ⊕ Int32) else Sum.inl (nI (i + 1))) := by
          have hob := (hS i hi2).2
          rw [hasOld_eq hS hi2, Option.bind_some, if_b', nI_1]
          cases hu : us (2 * i + 1) with
          | none =>
            rw [if_pos rfl, ovO_n, if_neg (by decide)]
          | some q =>
            rw [hu] at hob
            obtain ⟨o1, o2, o3, o4⟩ := hob
            rw [if_neg (by simp), rd_at rfl hi2 (by decide), rd_at rfl hi2 (by decide), o1, o2, meet_eq o3 o4 hg hm, Option.bind_some, b01_0, ovO_s]
            by_cases v : ovl (q.1, q.2) g m = true
            · rw [if_pos v, if_pos v]
            · rw [if_neg v, if_neg v]
        have done : ∀ (X : Option (Int32 ⊕ Int32)), X = some (if ovO (us (2 * i + 1)) g m = true then Sum.inr (0 : Int32) else Sum.inl (nI (i + 1))) → bdk us (2 * n) g m (2 * i) = false → (i < 12 ∧ ∃ t, X = some (Sum.inl t) ∧ t = nI (i + 1) ∧ anyB (bdk us (2 * n) g m) (2 * (i + 1)) = false) ∨ ∃ e, X = some (Sum.inr e) ∧ e = b01 (!anyB (bdk us (2 * n) g m) 24) := by
          intro X hX hb
          have h1 : bdk us (2 * n) g m (2 * i + 1) = ovO (us (2 * i + 1)) g m := bdk_ne (by omega)
          by_cases v : ovO (us (2 * i + 1)) g m = true
          · right
            rw [if_pos v] at hX
            refine ⟨_, hX, ?_⟩
            rw [anyB_mono (i := 2 * i + 1) (by omega) (by rw [h1]; exact v)]
            rfl
          · left
            rw [if_neg v] at hX
            refine ⟨hi2, _, hX, rfl, ?_⟩
            rw [show 2 * (i + 1) = 2 * i + 1 + 1 by omega]
            simp only [anyB, hf, hb, h1, Bool.eq_false_iff.mpr v, Bool.or_false]
        simp only [l_X5_canCover_81]
        rw [if_neg (g12 hi2), if_eq (by omega) (by omega), old]
        by_cases c : i = n
        · rw [if_pos c]
          exact done _ rfl (by rw [c]; exact bdk_eq)
        · rw [if_neg c]
          have hob := (hS i hi2).1
          have h0 : bdk us (2 * n) g m (2 * i) = ovO (us (2 * i)) g m := bdk_ne (by omega)
          rw [hasBlock_eq hS hi2, Option.bind_some, if_b']
          cases hu : us (2 * i) with
          | none =>
            rw [if_pos rfl]
            exact done _ rfl (by rw [h0, hu]; rfl)
          | some q =>
            rw [hu] at hob
            obtain ⟨o1, o2, o3, o4⟩ := hob
            rw [if_neg (by simp), rd_at rfl hi2 (by decide), rd_at rfl hi2 (by decide), o1, o2, meet_eq o3 o4 hg hm, Option.bind_some, b01_0]
            by_cases v : ovl (q.1, q.2) g m = true
            · right
              rw [if_pos v]
              refine ⟨_, rfl, ?_⟩
              rw [anyB_mono (i := 2 * i) (by omega) (by rw [h0, hu]; exact v)]
              rfl
            · rw [if_neg v]
              exact done _ rfl (by rw [h0, hu]; exact Bool.eq_false_iff.mpr v)
  obtain ⟨e, h1, h2⟩ := key
  rw [h1, h2]
theorem p_isInPool {D : Dt} {N g m : Nat} {po : Nat → Nat × Nat} (hP : PoR (D 33 0) N po) (hN : N ≤ 4) (hpo : ∀ p, p < N → (po p).1 < 65536 ∧ (po p).2 ≤ 16) (hg : g < 65536) (hm : m ≤ 16) : f_X10_isInPool (nI g) (nI m) D = some (b01 (anyB (inQ po g m) N)) := by
  have hz := zz_le m
  have h : lp (l_X10_isInPool_5 (nI g) (nI m) D) FU ((0 : Int32), (0 : Int32)) = some (b01 (anyB (inQ po g m) N)) := by
    apply lp_to (fun i => (b01 (anyB (inQ po g m) i), nI i)) N
    · rfl
    · exact FU_big (by omega)
    · intro i hi
      obtain ⟨b1, b2⟩ := hpo i hi
      have hzi := zz_le (po i).2
      simp only [l_X10_isInPool_5]
      rw [rd_at (i := (5 : Int32)) (j := 5) rfl (by decide) (by decide), hP.1, if_neg (nI_ge hi (by omega)), show (6 : Int32) = nI 6 from rfl, show (2 : Int32) = nI 2 from rfl, pk_mul, nI_add, rd_at rfl (show 6 + 2 * i < 170 by omega) (by decide), nI_1 (6 + 2 * i), size_eq hm, Option.bind_some, rd_at rfl (show 6 + 2 * i + 1 < 170 by omega) (by decide), (hP.2 i hi).1, (hP.2 i hi).2, b01_0, size_eq b2, Option.bind_some, nI_add, nI_add, if_lt (by omega) (by omega), if_lt (by omega) (by omega), nI_1]
      simp only [anyB]
      by_cases c : anyB (inQ po g m) i = true
      · rw [if_pos c, c]; rfl
      · rw [if_neg c, Bool.eq_false_iff.mpr c, Bool.false_or]
        simp only [inQ]
        by_cases w1 : g < (po i).1
        · rw [if_pos w1, decide_eq_false (show ¬ (po i).1 ≤ g by omega)]; rfl
        · rw [if_neg w1, decide_eq_true (show (po i).1 ≤ g by omega)]
          by_cases w2 : (po i).1 + zz (po i).2 < g + zz m
          · rw [if_pos w2, decide_eq_false (show ¬ g + zz m ≤ (po i).1 + zz (po i).2 by omega)]; rfl
          · rw [if_neg w2, decide_eq_true (show g + zz m ≤ (po i).1 + zz (po i).2 by omega)]; rfl
    · simp only [l_X10_isInPool_5]
      rw [rd_at (i := (5 : Int32)) (j := 5) rfl (by decide) (by decide), hP.1, if_pos (nI_le (Nat.le_refl _) (by omega))]
  rw [f_X10_isInPool, h, Option.bind_some, isb_b01]
  rfl
theorem inPQ {N g m : Nat} {po : Nat → Nat × Nat} {us : Nat → Option (Nat × Nat)} (hG : Geo N po us) (hm : m ≤ 16) (ha : g % zz m = 0) : anyB (inP po g m) N = anyB (inQ po g m) N := by
  have pt : ∀ p, p < N → (inP po g m p = true ↔ inQ po g m p = true) := by
    intro p hp
    obtain ⟨p1, p2, p3, p4⟩ := hG.2.1 p hp
    have z1 := zz_pos m
    simp only [inP, inQ, cov, Bool.and_eq_true, decide_eq_true_eq]
    constructor
    · rintro ⟨q1, q2, q3⟩
      exact ⟨q2, nest_in q1 p3 ha q3⟩
    · rintro ⟨q1, q2⟩
      refine ⟨?_, q1, by omega⟩
      rcases Nat.lt_or_ge m (po p).2 with w | w
      · have h1 := zz_mono (show m + 1 ≤ (po p).2 by omega)
        have h2 := zz_pred (show m < 16 by omega)
        have h3 := zz_pos (po p).2
        omega
      · exact w
  have e : anyB (inP po g m) N = true ↔ anyB (inQ po g m) N = true := by
    rw [anyB_iff, anyB_iff]
    constructor
    · rintro ⟨p, h1, h2⟩
      exact ⟨p, h1, (pt p h1).mp h2⟩
    · rintro ⟨p, h1, h2⟩
      exact ⟨p, h1, (pt p h1).mpr h2⟩
  cases h1 : anyB (inP po g m) N with
  | true => rw [e.mp h1]
  | false =>
    cases h2 : anyB (inQ po g m) N with
    | true => rw [e.mpr h2] at h1; cases h1
    | false => rfl
theorem sov_one {us : Nat → Option (Nat × Nat)} {a e K : Nat} : ∀ n, (∀ j, j < n → j ≠ K → ov us a e j = 0) → sov us a e n = if K < n then ov us a e K else 0 := by
  intro n
  induction n with
  | zero => intro _; rfl
  | succ n ih =>
    intro h
    simp only [sov]
    rw [ih (fun j hj => h j (by omega))]
    by_cases w : K = n
    · rw [w, if_neg (by omega), if_pos (by omega), Nat.zero_add]
    · rw [h n (by omega) (fun q => w q.symm), Nat.add_zero]
      by_cases w2 : K < n
      · rw [if_pos w2, if_pos (by omega)]
      · rw [if_neg w2, if_neg (by omega)]
theorem sov_bdk {us : Nat → Option (Nat × Nat)} {K g m g0 l0 : Nat} (hK : K < 24) (hu : us K = some (g0, l0)) (h1 : g ≤ g0) (h2 : g0 + zz l0 ≤ g + zz m) : sov us g (g + zz m) 24 ≤ zz l0 ↔ anyB (bdk us K g m) 24 = false := by
  have z0 := zz_pos l0
  have z1 := zz_pos m
  have eK : ov us g (g + zz m) K = zz l0 := by
    simp only [ov, hu]
    by_cases w1 : g0 + zz l0 < g + zz m
    · rw [if_pos w1]
      by_cases w2 : g < g0
      · rw [if_pos w2]; omega
      · rw [if_neg w2]; omega
    · rw [if_neg w1]
      by_cases w2 : g < g0
      · rw [if_pos w2]; omega
      · rw [if_neg w2]; omega
  have pt : ∀ j, j ≠ K → (ov us g (g + zz m) j = 0 ↔ bdk us K g m j = false) := by
    intro j hj
    rw [ov_0 (by omega), bdk_ne hj]
    cases hj2 : us j with
    | none => simp [ovO]
    | some q =>
      obtain ⟨gj, lj⟩ := q
      rw [ovO_s]
      have k3 : ovl (gj, lj) g m = true ↔ gj < g + zz m ∧ g < gj + zz lj := by simp [ovl]
      constructor
      · intro q
        apply Bool.eq_false_iff.mpr
        intro v
        have := q gj lj rfl
        have := k3.mp v
        omega
      · intro q g' l' e
        cases e
        have : ¬ (gj < g + zz m ∧ g < gj + zz lj) := fun v => by
          rw [k3.mpr v] at q
          cases q
        omega
  constructor
  · intro h
    apply Bool.eq_false_iff.mpr
    intro q
    obtain ⟨j, j1, j2⟩ := (anyB_iff 24).mp q
    have hjK : j ≠ K := by
      intro e
      rw [e, bdk_eq] at j2
      cases j2
    have h3 := sov_ge2 (us := us) (a := g) (e := g + zz m) (fun e => hjK e.symm) 24 hK j1
    have h4 : ov us g (g + zz m) j ≠ 0 := fun e => by
      rw [(pt j hjK).mp e] at j2
      cases j2
    omega
  · intro h
    rw [sov_one (K := K) 24 (fun j hj hjK => (pt j hjK).mpr (Bool.eq_false_iff.mpr (fun q => by
      rw [anyB_mono hj q] at h
      cases h))), if_pos hK, eK]
    exact Nat.le_refl _
def unf (s : Nat → Int32) (x : Int32) (g m h : Nat) : Bool := decide (s (74 + 6 * h) = x) && (!decide (s (74 + 6 * h + 2) = -1) && !clB g m (s (74 + 6 * h + 2)))
theorem p_newLeasesFit {D : Dt} {b g m : Nat} {s : Nat → Int32} (hR : RelH D b s) (x : Int32) (hg : g < 65536) (hm : m ≤ 16) : f_X2_newLeasesFit b x (nI g) (nI m) D = some (b01 (!anyB (unf s x g m) 16)) := by
  have key : ∃ e, lp (l_X2_newLeasesFit_3 b x (nI g) (nI m) D) FU (0 : Int32) = some e ∧ e = b01 (!anyB (unf s x g m) 16) := by
    apply lp_n (fun i t => t = nI i ∧ anyB (unf s x g m) i = false) _ 16
    · exact ⟨rfl, rfl⟩
    · decide
    · rintro i t hi ⟨rfl, hf⟩
      simp only [l_X2_newLeasesFit_3]
      by_cases w : i = 16
      · right
        subst w
        rw [if_pos (by decide), hf]
        exact ⟨_, rfl, rfl⟩
      · have hi2 : i < 16 := by omega
        obtain ⟨w0, w2, _⟩ := hR i hi2
        rw [if_neg (g16 hi2), rd_at rfl hi2 (by decide), rd_at rfl hi2 (by decide), rd_at rfl hi2 (by decide), w0, w2, p_canLease hg hm, Option.bind_some, b01_0, nI_1]
        have ok : unf s x g m i = false → (i < 16 ∧ ∃ t, some (Sum.inl (nI (i + 1)) : Int32 ⊕ Int32) = some (Sum.inl t) ∧ t = nI (i + 1) ∧ anyB (unf s x g m) (i + 1) = false) := fun q => ⟨hi2, _, rfl, rfl, by simp only [anyB, hf, q, Bool.or_false]⟩
        by_cases c1 : s (74 + 6 * i) = x
        · rw [if_pos c1]
          by_cases c2 : s (74 + 6 * i + 2) = -1
          · rw [if_pos c2]
            exact Or.inl (ok (by simp [unf, c2]))
          · rw [if_neg c2]
            by_cases c3 : clB g m (s (74 + 6 * i + 2)) = true
            · rw [if_pos c3]
              exact Or.inl (ok (by simp [unf, c3]))
            · right
              rw [if_neg c3, anyB_mono hi2 (by simp [unf, c1, c2, c3])]
              exact ⟨_, rfl, rfl⟩
        · rw [if_neg c1]
          exact Or.inl (ok (by simp [unf, c1]))
  obtain ⟨e, h1, h2⟩ := key
  rw [f_X2_newLeasesFit, h1, h2]
theorem p_rz116 {D : Dt} {g0 m n : Nat} {s : Nat → Int32} {x : Int32} {e0 : Int32 × Dt} (hs : D 33 0 = s) (hH : HoS s) (hg0 : g0 < 65536) (hm : m ≤ 16) (he : (f_X10_note D).bind (fun D10 => wr D10 33 0 170 (nI (14 + 5 * n)) (nI (g0 - g0 % zz m)) (fun D11 => wr D11 33 0 170 (nI (14 + 5 * n) + (1 : Int32)) (nI m) (fun D12 => some (nI (g0 - g0 % zz m), D12)))) = some e0) : lp (l_X10_resize_116 x (nI m) D (nI (14 + 5 * n)) (nI g0) (nI g0) (nI (zz m))) FU (0 : Int32) = some (if anyB (unf s x (g0 - g0 % zz m) m) 16 = true then (-2, D) else e0) := by
  have hz := zz_pos m
  have hzl := zz_le m
  have hle := Nat.mod_le g0 (zz m)
  have eB : nI g0 - (nI g0 - nI g0 / nI (zz m) * nI (zz m)) = nI (g0 - g0 % zz m) := by
    rw [pk_rem (by omega) hz (by omega), pk_sub hle]
  have key : ∃ e, lp (l_X10_resize_116 x (nI m) D (nI (14 + 5 * n)) (nI g0) (nI g0) (nI (zz m))) FU (0 : Int32) = some e ∧ e = (if anyB (unf s x (g0 - g0 % zz m) m) 16 = true then (-2, D) else e0) := by
    apply lp_n (fun i t => t = nI i ∧ anyB (unf s x (g0 - g0 % zz m) m) i = false) _ 16
    · exact ⟨rfl, rfl⟩
    · decide
    · rintro i t hi ⟨rfl, hf⟩
      simp only [l_X10_resize_116, eB]
      by_cases w : i = 16
      · right
        subst w
        rw [if_pos (by decide), hf, if_neg (by decide)]
        refine ⟨e0, ?_, rfl⟩
        cases hN : f_X10_note D with
        | none => rw [hN] at he; cases he
        | some Dn =>
          rw [hN, Option.bind_some] at he
          rw [Option.bind_some]
          unfold wr at he ⊢
          cases h1 : inb (nI (14 + 5 * n)) 170 with
          | false => rw [h1] at he; cases he
          | true =>
            rw [h1] at he
            simp only [gd] at he ⊢
            cases h2 : inb (nI (14 + 5 * n) + (1 : Int32)) 170 with
            | false => rw [h2] at he; cases he
            | true =>
              rw [h2] at he
              simp only at he ⊢
              injection he with he
              rw [he]
      · have hi2 : i < 16 := by omega
        rw [if_neg (g16 hi2)]
        simp only [p_X10_hostAt, Option.bind_some, show (2 : Int32) = nI 2 from rfl, nI_add, rd_at rfl (show 74 + 6 * i < 170 by omega) (show 170 < 2 ^ 31 by decide), rd_at rfl (show 74 + 6 * i + 2 < 170 by omega) (show 170 < 2 ^ 31 by decide), hs, nn_lt (hH.nn2 hi2), p_X10_canLease (show g0 - g0 % zz m < 65536 by omega) hm, b01_0, nI_1]
        have ok : unf s x (g0 - g0 % zz m) m i = false → (i < 16 ∧ ∃ t, some (Sum.inl (nI (i + 1)) : Int32 ⊕ (Int32 × Dt)) = some (Sum.inl t) ∧ t = nI (i + 1) ∧ anyB (unf s x (g0 - g0 % zz m) m) (i + 1) = false) := fun q => ⟨hi2, _, rfl, rfl, by simp only [anyB, hf, q, Bool.or_false]⟩
        by_cases c1 : s (74 + 6 * i) = x
        · rw [if_pos c1]
          by_cases c2 : s (74 + 6 * i + 2) = -1
          · rw [if_pos c2]
            exact Or.inl (ok (by simp [unf, c2]))
          · rw [if_neg c2]
            by_cases c3 : clB (g0 - g0 % zz m) m (s (74 + 6 * i + 2)) = true
            · rw [if_pos c3]
              exact Or.inl (ok (by simp [unf, c3]))
            · right
              rw [if_neg c3, if_pos (anyB_mono hi2 (by simp [unf, c1, c2, c3]))]
              exact ⟨_, rfl, rfl⟩
        · rw [if_neg c1]
          exact Or.inl (ok (by simp [unf, c1]))
  obtain ⟨e, h1, h2⟩ := key
  rw [h1, h2]
