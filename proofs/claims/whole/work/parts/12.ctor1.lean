def adB (cy : Nat → Nat → Nat) (a : Nat → Nat) (base : Nat) : Nat → Nat → Nat := fun k b => if 100 ≤ k then cy k b else a (k - base)
def Dz : Dt := fun _ _ _ => 0
def s0M (i : Nat) : Int32 := if i = 1 then 60 else if i = 2 then 100 else if 14 ≤ i ∧ i < 74 then (if (i - 14) % 5 = 0 ∨ (i - 14) % 5 = 2 then -1 else 0) else if 74 ≤ i ∧ i < 170 then (if (i - 74) % 2 = 0 then -1 else 0) else 0
def D0 : Dt := fun k _ i => if k = 0 then (if i = 3 then 60 else if i = 4 then 100 else 0) else if k = 4 ∨ k = 6 then (if i < 12 then -1 else 0) else if k = 10 ∨ k = 12 ∨ k = 14 then (if i < 16 then -1 else 0) else if k = 33 then s0M i else 0
def D0' : Dt := fun k b i => if k = 0 then 0 else D0 k b i
theorem df_0 : ∀ j, j < 3 → defaultValue (tyX0 j) = vp_V [.null, .null, .int 0] j := by
  intro j hj
  rcases (show j = 0 ∨ j = 1 ∨ j = 2 by omega) with rfl | rfl | rfl <;> rfl
theorem df_1 : ∀ j, j < 3 → defaultValue (tyX1 j) = vp_V [.null, .int 0, .int 0] j := by
  intro j hj
  rcases (show j = 0 ∨ j = 1 ∨ j = 2 by omega) with rfl | rfl | rfl <;> rfl
theorem df_2 : ∀ j, j < 6 → defaultValue (tyX2 j) = vp_V [.null, .null, .null, .null, .null, .null] j := by
  intro j hj
  rcases (show j = 0 ∨ j = 1 ∨ j = 2 ∨ j = 3 ∨ j = 4 ∨ j = 5 by omega) with rfl | rfl | rfl | rfl | rfl | rfl <;> rfl
theorem df_3 : ∀ j, j < 12 → defaultValue (tyX3 j) = vp_V [.null, .null, .null, .int 0, .int 0, .int 0, .int 0, .int 0, .null, .null, .null, .int 0] j := by
  intro j hj
  rcases (show j = 0 ∨ j = 1 ∨ j = 2 ∨ j = 3 ∨ j = 4 ∨ j = 5 ∨ j = 6 ∨ j = 7 ∨ j = 8 ∨ j = 9 ∨ j = 10 ∨ j = 11 by omega) with rfl | rfl | rfl | rfl | rfl | rfl | rfl | rfl | rfl | rfl | rfl | rfl <;> rfl
theorem df_4 : ∀ j, j < 3 → defaultValue (tyX4 j) = vp_V [.null, .null, .null] j := by
  intro j hj
  rcases (show j = 0 ∨ j = 1 ∨ j = 2 by omega) with rfl | rfl | rfl <;> rfl
theorem df_5 : ∀ j, j < 9 → defaultValue (tyX5 j) = vp_V [.int 0, .int 0, .null, .null, .null, .null, .null, .null, .null] j := by
  intro j hj
  rcases (show j = 0 ∨ j = 1 ∨ j = 2 ∨ j = 3 ∨ j = 4 ∨ j = 5 ∨ j = 6 ∨ j = 7 ∨ j = 8 by omega) with rfl | rfl | rfl | rfl | rfl | rfl | rfl | rfl | rfl <;> rfl
theorem df_6 : ∀ j, j < 6 → defaultValue (tyX6 j) = vp_V [.null, .null, .int 0, .int 0, .int 0, .int 0] j := by
  intro j hj
  rcases (show j = 0 ∨ j = 1 ∨ j = 2 ∨ j = 3 ∨ j = 4 ∨ j = 5 by omega) with rfl | rfl | rfl | rfl | rfl | rfl <;> rfl
theorem df_7 : ∀ j, j < 4 → defaultValue (tyX7 j) = vp_V [.null, .null, .int 0, .null] j := by
  intro j hj
  rcases (show j = 0 ∨ j = 1 ∨ j = 2 ∨ j = 3 by omega) with rfl | rfl | rfl | rfl <;> rfl
theorem df_8 : ∀ j, j < 6 → defaultValue (tyX8 j) = vp_V [.null, .int 0, .int 0, .int 0, .int 0, .int 0] j := by
  intro j hj
  rcases (show j = 0 ∨ j = 1 ∨ j = 2 ∨ j = 3 ∨ j = 4 ∨ j = 5 by omega) with rfl | rfl | rfl | rfl | rfl | rfl <;> rfl
theorem df_9 : ∀ j, j < 8 → defaultValue (tyX9 j) = vp_V [.null, .null, .null, .null, .null, .null, .null, .null] j := by
  intro j hj
  rcases (show j = 0 ∨ j = 1 ∨ j = 2 ∨ j = 3 ∨ j = 4 ∨ j = 5 ∨ j = 6 ∨ j = 7 by omega) with rfl | rfl | rfl | rfl | rfl | rfl | rfl | rfl <;> rfl
theorem df_10 : ∀ j, j < 19 → defaultValue (tyX10 j) = vp_V [.null, .null, .int 0, .null, .int 0, .null, .null, .null, .int 0, .int 0, .int 0, .int 0, .int 0, .long 0, .int 0, .int 0, .int 0, .null, .int 0] j := by
  intro j hj
  rcases (show j = 0 ∨ j = 1 ∨ j = 2 ∨ j = 3 ∨ j = 4 ∨ j = 5 ∨ j = 6 ∨ j = 7 ∨ j = 8 ∨ j = 9 ∨ j = 10 ∨ j = 11 ∨ j = 12 ∨ j = 13 ∨ j = 14 ∨ j = 15 ∨ j = 16 ∨ j = 17 ∨ j = 18 by omega) with rfl | rfl | rfl | rfl | rfl | rfl | rfl | rfl | rfl | rfl | rfl | rfl | rfl | rfl | rfl | rfl | rfl | rfl | rfl <;> rfl
def uH : List (Nat × Nat) := [(24, 0), (25, 0), (0, 2), (1, 2), (2, 2), (3, 2), (4, 2), (5, 2), (6, 2), (7, 2), (8, 2), (9, 2), (10, 2), (11, 2), (12, 2), (13, 2), (14, 2), (15, 2), (0, 3), (1, 3), (2, 3), (3, 3), (4, 3), (5, 3), (6, 3), (7, 3), (8, 3), (9, 3), (10, 3), (11, 3), (12, 3), (13, 3), (14, 3), (15, 3), (0, 4), (1, 4), (2, 4), (3, 4), (4, 4), (5, 4), (6, 4), (7, 4), (8, 4), (9, 4), (10, 4), (11, 4), (12, 4), (13, 4), (14, 4), (15, 4), (0, 5), (1, 5), (2, 5), (3, 5), (4, 5), (5, 5), (6, 5), (7, 5), (8, 5), (9, 5), (10, 5), (11, 5), (12, 5), (13, 5), (14, 5), (15, 5), (0, 6), (1, 6), (2, 6), (3, 6), (4, 6), (5, 6), (6, 6), (7, 6), (8, 6), (9, 6), (10, 6), (11, 6), (12, 6), (13, 6), (14, 6), (15, 6), (0, 7), (1, 7), (2, 7), (3, 7), (4, 7), (5, 7), (6, 7), (7, 7), (8, 7), (9, 7), (10, 7), (11, 7), (12, 7), (13, 7), (14, 7), (15, 7)]
def uP : List (Nat × Nat) := [(27, 0), (1, 8), (2, 8), (3, 8), (4, 8), (5, 8), (6, 8), (7, 8), (8, 8), (16, 1), (17, 1), (18, 1), (19, 1), (20, 1), (21, 1), (16, 2), (17, 2), (18, 2), (19, 2), (20, 2), (21, 2), (28, 0), (29, 0), (30, 0)]
def uR : List (Nat × Nat) := [(31, 0), (22, 0), (23, 0), (0, 0), (1, 0), (2, 0), (3, 0), (4, 0), (5, 0), (6, 0), (7, 0), (8, 0), (9, 0), (10, 0), (11, 0), (12, 0), (13, 0), (14, 0), (15, 0), (0, 1), (1, 1), (2, 1), (3, 1), (4, 1), (5, 1), (6, 1), (7, 1), (8, 1), (9, 1), (10, 1), (11, 1), (12, 1), (13, 1), (14, 1), (15, 1), (24, 0), (25, 0), (0, 2), (1, 2), (2, 2), (3, 2), (4, 2), (5, 2), (6, 2), (7, 2), (8, 2), (9, 2), (10, 2), (11, 2), (12, 2), (13, 2), (14, 2), (15, 2), (0, 3), (1, 3), (2, 3), (3, 3), (4, 3), (5, 3), (6, 3), (7, 3), (8, 3), (9, 3), (10, 3), (11, 3), (12, 3), (13, 3), (14, 3), (15, 3), (0, 4), (1, 4), (2, 4), (3, 4), (4, 4), (5, 4), (6, 4), (7, 4), (8, 4), (9, 4), (10, 4), (11, 4), (12, 4), (13, 4), (14, 4), (15, 4), (0, 5), (1, 5), (2, 5), (3, 5), (4, 5), (5, 5), (6, 5), (7, 5), (8, 5), (9, 5), (10, 5), (11, 5), (12, 5), (13, 5), (14, 5), (15, 5), (0, 6), (1, 6), (2, 6), (3, 6), (4, 6), (5, 6), (6, 6), (7, 6), (8, 6), (9, 6), (10, 6), (11, 6), (12, 6), (13, 6), (14, 6), (15, 6), (0, 7), (1, 7), (2, 7), (3, 7), (4, 7), (5, 7), (6, 7), (7, 7), (8, 7), (9, 7), (10, 7), (11, 7), (12, 7), (13, 7), (14, 7), (15, 7), (16, 0), (17, 0), (18, 0), (19, 0), (20, 0), (21, 0), (19, 3), (20, 3), (21, 3), (26, 0), (27, 0), (1, 8), (2, 8), (3, 8), (4, 8), (5, 8), (6, 8), (7, 8), (8, 8), (16, 1), (17, 1), (18, 1), (19, 1), (20, 1), (21, 1), (16, 2), (17, 2), (18, 2), (19, 2), (20, 2), (21, 2), (28, 0), (29, 0), (30, 0)]
def adH (cy : Nat → Nat → Nat) (a : Nat → Nat) : Nat → Nat → Nat := fun k b => if 100 ≤ k then cy k b else if k < 16 then a (2 + 16 * (b - 2) + k) else a (k - 24)
def adP (cy : Nat → Nat → Nat) (a : Nat → Nat) : Nat → Nat → Nat := fun k b => if 100 ≤ k then cy k b else if k ≤ 8 then a k else if k ≤ 21 then a (9 + 6 * (b - 1) + (k - 16)) else if k = 27 then a 0 else a (21 + (k - 28))
def adR (cy : Nat → Nat → Nat) (a : Nat → Nat) : Nat → Nat → Nat := fun k b => if 100 ≤ k then cy k b else if k ≤ 15 then (if b = 0 then a (3 + k) else if b = 1 then a (19 + k) else if b = 8 then a (143 + k) else a (37 + 16 * (b - 2) + k)) else if k ≤ 21 then (if b = 0 then a (133 + (k - 16)) else if b = 1 then a (152 + (k - 16)) else if b = 2 then a (158 + (k - 16)) else a (139 + (k - 19))) else if k = 22 then a 1 else if k = 23 then a 2 else if k = 24 then a 35 else if k = 25 then a 36 else if k = 26 then a 142 else if k = 27 then a 143 else if k ≤ 30 then a (164 + (k - 28)) else a 0
def tr8 (cy : Nat → Nat → Nat) (a : Nat → Nat) : va_W := wl (adB cy a 22) [(22, 0), (23, 0)] D0
def tr0 (cy : Nat → Nat → Nat) (a : Nat → Nat) : va_W := wl (adB cy a 19) [(19, 0), (20, 0), (21, 0)] D0
def tr2 (cy : Nat → Nat → Nat) (a : Nat → Nat) : va_W := wl (adB cy a 9) [(9, 0), (10, 0), (11, 0), (12, 0), (13, 0), (14, 0), (15, 0)] D0
def tr5 (cy : Nat → Nat → Nat) (a : Nat → Nat) : va_W := wl (adB cy a 1) [(1, 0), (2, 0), (3, 0), (4, 0), (5, 0), (6, 0), (7, 0), (8, 0)] D0
def tr7 (cy : Nat → Nat → Nat) (a : Nat → Nat) : va_W := wl (adB cy a 16) [(16, 0), (17, 0), (18, 0), (19, 0), (20, 0), (21, 0)] D0
def tr6 (cy : Nat → Nat → Nat) (a : Nat → Nat) : va_W := wl (adB cy a 0) [(0, 0), (1, 0), (2, 0), (3, 0), (4, 0), (5, 0), (6, 0), (7, 0), (8, 0), (9, 0), (10, 0), (11, 0), (12, 0), (13, 0), (14, 0), (15, 0)] D0
def tr1 (cy : Nat → Nat → Nat) (a : Nat → Nat) : va_W := wl (adH cy a) uH D0
def tr3 (cy : Nat → Nat → Nat) (a : Nat → Nat) : va_W := wl (adP cy a) uP D0
def tr9 (cy : Nat → Nat → Nat) (a : Nat → Nat) : va_W := wl (adR cy a) uR D0
def tr10 (cy : Nat → Nat → Nat) (a : Nat → Nat) : va_W := wl (adB cy a 32) [(32, 0), (33, 0), (34, 0), (35, 0), (36, 0), (37, 0), (38, 0), (39, 0)] D0
def tr4 (t d v : Nat) (a : Nat → Nat) : va_W := [(a 0, .inr (4, [.ref t, .ref d, .ref v]))]
theorem rle2 {fr lo mx : Nat} {R : Room} (h : (Nat.ble (fr + 1) R.frames && Nat.ble (8 + (mx + 11) + lo) R.locals) = true) : Rle fr lo mx R := by
  rw [Bool.and_eq_true] at h
  exact ⟨Nat.le_of_ble_eq_true h.1, Nat.le_of_ble_eq_true h.2⟩
theorem kg_Sp : SpU [(1, 0), (2, 0), (3, 0), (4, 0), (5, 0), (6, 0), (7, 0), (8, 0)] 0 := by
  intro k h1 h2
  rcases (show k = 1 ∨ k = 2 ∨ k = 3 ∨ k = 4 ∨ k = 5 ∨ k = 6 ∨ k = 7 ∨ k = 8 by omega) with rfl | rfl | rfl | rfl | rfl | rfl | rfl | rfl <;> decide
theorem kg_Ho : HoU [(9, 0), (10, 0), (11, 0), (12, 0), (13, 0), (14, 0), (15, 0)] 0 := by
  intro k h1 h2
  rcases (show k = 9 ∨ k = 10 ∨ k = 11 ∨ k = 12 ∨ k = 13 ∨ k = 14 ∨ k = 15 by omega) with rfl | rfl | rfl | rfl | rfl | rfl | rfl <;> decide
theorem kg_St : StU [(0, 0), (1, 0), (2, 0), (3, 0), (4, 0), (5, 0), (6, 0), (7, 0), (8, 0), (9, 0), (10, 0), (11, 0), (12, 0), (13, 0), (14, 0), (15, 0)] 0 := by
  refine ⟨fun k h1 h2 => ?_, fun k h1 h2 => ?_, fun k h1 h2 => ?_⟩
  · rcases (show k = 0 by omega) with rfl
    decide
  · rcases (show k = 1 ∨ k = 2 ∨ k = 3 ∨ k = 4 ∨ k = 5 ∨ k = 6 ∨ k = 7 ∨ k = 8 by omega) with rfl | rfl | rfl | rfl | rfl | rfl | rfl | rfl <;> decide
  · rcases (show k = 9 ∨ k = 10 ∨ k = 11 ∨ k = 12 ∨ k = 13 ∨ k = 14 ∨ k = 15 by omega) with rfl | rfl | rfl | rfl | rfl | rfl | rfl <;> decide
theorem kg_Mo : MoU [(32, 0), (33, 0), (34, 0), (35, 0), (36, 0), (37, 0), (38, 0), (39, 0)] := by
  intro k h1 h2
  rcases (show k = 32 ∨ k = 33 ∨ k = 34 ∨ k = 35 ∨ k = 36 ∨ k = 37 ∨ k = 38 ∨ k = 39 by omega) with rfl | rfl | rfl | rfl | rfl | rfl | rfl | rfl <;> decide
def r_5 : Dt := fillD (fillD (updD (updD Dz 1 0 0 0) 1 0 1 0) 4 0 12 (-1)) 6 0 12 (-1)
theorem r_5_ok : f_X5_reset 0 Dz = some r_5 := p_X5_reset 0 Dz
def r_2 : Dt := hresD Dz 0 16
theorem r_2_ok : f_X2_reset 0 Dz = some r_2 := p_X2_reset 0 Dz
def r_6 : Dt := updD (updD (updD (updD (hresD (fillD (fillD (updD (updD D0' 1 0 0 0) 1 0 1 0) 4 0 12 (-1)) 6 0 12 (-1)) 0 16) 0 0 2 0) 0 0 3 60) 0 0 4 100) 0 0 5 0
theorem r_6_ok : f_X6_reset 0 D0' = some r_6 := p_X6_reset 0 D0'
theorem r_5_eq : ∀ w ∈ [(1, 0), (2, 0), (3, 0), (4, 0), (5, 0), (6, 0), (7, 0), (8, 0)], r_5 w.1 w.2 = D0 w.1 w.2 := by
  intro w hw
  simp only [List.mem_cons, List.not_mem_nil, or_false] at hw
  rcases hw with rfl | rfl | rfl | rfl | rfl | rfl | rfl | rfl <;> funext i <;> simp [r_5, fillD, updD, Dz, D0]
theorem r_2_eq : ∀ w ∈ [(9, 0), (10, 0), (11, 0), (12, 0), (13, 0), (14, 0), (15, 0)], r_2 w.1 w.2 = D0 w.1 w.2 := by
  intro w hw
  simp only [List.mem_cons, List.not_mem_nil, or_false] at hw
  rcases hw with rfl | rfl | rfl | rfl | rfl | rfl | rfl <;> funext i <;> simp [r_2, hresD, fillD, Dz, D0]
theorem r_6_eq : ∀ w ∈ [(0, 0), (1, 0), (2, 0), (3, 0), (4, 0), (5, 0), (6, 0), (7, 0), (8, 0), (9, 0), (10, 0), (11, 0), (12, 0), (13, 0), (14, 0), (15, 0)], r_6 w.1 w.2 = D0 w.1 w.2 := by
  intro w hw
  simp only [List.mem_cons, List.not_mem_nil, or_false] at hw
  rcases hw with rfl | rfl | rfl | rfl | rfl | rfl | rfl | rfl | rfl | rfl | rfl | rfl | rfl | rfl | rfl | rfl
  · funext i
    simp only [r_6, hresD, fillD, updD, D0', D0]
    by_cases h5 : i = 5
    · simp [h5]
    · by_cases h4 : i = 4
      · simp [h4]
      · by_cases h3 : i = 3
        · simp [h3]
        · simp [h3, h4, h5]
  all_goals (funext i; simp [r_6, hresD, fillD, updD, D0', D0])
theorem kk_8 : Kok yX8_init cX8_init 1 0 := ⟨rfl, gw_30, gw_2, gw_31, by decide, by decide, by decide +kernel⟩
theorem kk_0 : Kok yX0_init cX0_init 1 0 := ⟨rfl, gw_228, gw_9, gw_229, by decide, by decide, by decide +kernel⟩
theorem kk_2 : Kok yX2_init cX2_init 1 0 := ⟨rfl, gw_131, gw_6, gw_132, by decide, by decide, by decide +kernel⟩
theorem kk_5 : Kok yX5_init cX5_init 1 0 := ⟨rfl, gw_66, gw_4, gw_67, by decide, by decide, by decide +kernel⟩
theorem kk_7 : Kok yX7_init cX7_init 1 0 := ⟨rfl, gw_222, gw_8, gw_223, by decide, by decide, by decide +kernel⟩
theorem kk_6 : Kok yX6_init cX6_init 1 0 := ⟨rfl, gw_60, gw_3, gw_61, by decide, by decide, by decide +kernel⟩
theorem kk_4 : Kok yX4_init cX4_init 4 3 := ⟨rfl, gw_265, gw_10, gw_266, by decide, by decide, by decide +kernel⟩
theorem kk_3 : Kok yX3_init cX3_init 1 0 := ⟨rfl, gw_281, gw_11, gw_282, by decide, by decide, by decide +kernel⟩
theorem kk_1 : Kok yX1_init cX1_init 2 0 := ⟨rfl, gw_202, gw_7, gw_203, by decide, by decide, by decide +kernel⟩
theorem kk_9 : Kok yX9_init cX9_init 1 0 := ⟨rfl, gw_22, gw_1, gw_23, by decide, by decide, by decide +kernel⟩
theorem kk_10 : Kok yX10_init cX10_init 1 0 := ⟨rfl, gw_983, gw_12, gw_984, by decide, by decide, by decide +kernel⟩
set_option maxRecDepth 100000 in
set_option maxHeartbeats 8000000 in
theorem c_X8_init {l : Launch} {G : va_G} {cy : Nat → Nat → Nat} {h0 : Nat} : MK l G cy yX8_init cX8_init 1 ({ frames := 1, cells := 1, slots := 150, locals := 12 } : Room) h0 (.inr (8, [.null, .int 0, .int 0, .int 0, .int 0, .int 0])) [] (tr8 cy) := by
  refine mK_of (lv := [(0, .ref h0)]) (by decide) rfl rfl (Nat.le_of_ble_eq_true rfl) (fun A p e s m args below meth c C hin hAO => ?_)
  have C : Cx G cy [] A p s m meth c args cX8_init RX8 1 none := C
  refine ik_aload_n C 1 0 dX8_init_0 rfl rfl rfl ?_
  refine ik_obj C 4 gw_32 ⟨Nat.le_of_ble_eq_true rfl, Nat.le_of_ble_eq_true rfl⟩ dX8_init_1 rfl ?_
  refine ik_aload_n C 5 0 dX8_init_4 rfl rfl rfl ?_
  refine ik_sipush C 8 dX8_init_5 rfl k_sp150 ?_
  refine ik_new_char C 10 150 rfl (by decide) ⟨Nat.le_of_ble_eq_true rfl, Nat.le_of_ble_eq_true rfl⟩ dX8_init_8 rfl (fun q1 => ?_)
  refine ik_putF C hin 13 0 0 ((h0, .inr (8, [.ref q1, .int 0, .int 0, .int 0, .int 0, .int 0])) :: ([] ++ [(q1, .inl (cy 100 2, 150, .inl (fun _ => 0)))])) ui_8 tyX8 tyX8_ok nmX8 rfl rfl (by decide) gw_33 rfl rfl rfl rfl rfl (Nat.le_of_ble_eq_true rfl) rfl dX8_init_10 rfl ?_
  exact ik_ret C (tr := tr8 cy) (fun i => if i = 0 then h0 else if i = 1 then q1 else 0) rfl rfl dX8_init_13
set_option maxRecDepth 100000 in
set_option maxHeartbeats 8000000 in
theorem c_X0_init {l : Launch} {G : va_G} {cy : Nat → Nat → Nat} {h0 : Nat} : MK l G cy yX0_init cX0_init 1 ({ frames := 1, cells := 2, slots := 584, locals := 12 } : Room) h0 (.inr (0, [.null, .null, .int 0])) [] (tr0 cy) := by
  refine mK_of (lv := [(0, .ref h0)]) (by decide) rfl rfl (Nat.le_of_ble_eq_true rfl) (fun A p e s m args below meth c C hin hAO => ?_)
  have C : Cx G cy [] A p s m meth c args cX0_init RX0 1 none := C
  refine ik_aload_n C 1 0 dX0_init_0 rfl rfl rfl ?_
  refine ik_obj C 4 gw_230 ⟨Nat.le_of_ble_eq_true rfl, Nat.le_of_ble_eq_true rfl⟩ dX0_init_1 rfl ?_
  refine ik_aload_n C 5 0 dX0_init_4 rfl rfl rfl ?_
  refine ik_sipush C 8 dX0_init_5 rfl k_sp292 ?_
  refine ik_new_int C 10 292 rfl (by decide) ⟨Nat.le_of_ble_eq_true rfl, Nat.le_of_ble_eq_true rfl⟩ dX0_init_8 rfl (fun q1 => ?_)
  refine ik_putF C hin 13 0 0 ((h0, .inr (0, [.ref q1, .null, .int 0])) :: ([] ++ [(q1, .inl (cy 100 0, 292, .inl (fun _ => 0)))])) ui_0 tyX0 tyX0_ok nmX0 rfl rfl (by decide) gw_231 rfl rfl rfl rfl rfl (Nat.le_of_ble_eq_true rfl) rfl dX0_init_10 rfl ?_
  refine ik_aload_n C 14 0 dX0_init_13 rfl rfl rfl ?_
  refine ik_sipush C 17 dX0_init_14 rfl k_sp292 ?_
  refine ik_new_int C 19 292 rfl (by decide) ⟨Nat.le_of_ble_eq_true rfl, Nat.le_of_ble_eq_true rfl⟩ dX0_init_17 rfl (fun q2 => ?_)
  refine ik_putF C hin 22 1 0 ((h0, .inr (0, [.ref q1, .ref q2, .int 0])) :: (([] ++ [(q1, .inl (cy 100 0, 292, .inl (fun _ => 0)))]) ++ [(q2, .inl (cy 100 0, 292, .inl (fun _ => 0)))])) ui_0 tyX0 tyX0_ok nmX0 rfl rfl (by decide) gw_233 rfl rfl rfl rfl rfl (Nat.le_of_ble_eq_true rfl) rfl dX0_init_19 rfl ?_
  exact ik_ret C (tr := tr0 cy) (fun i => if i = 0 then h0 else if i = 1 then q1 else if i = 2 then q2 else 0) rfl rfl dX0_init_22
set_option maxRecDepth 100000 in
set_option maxHeartbeats 8000000 in
theorem c_X2_init {l : Launch} {G : va_G} {cy : Nat → Nat → Nat} {h0 : Nat} : MK l G cy yX2_init cX2_init 1 ({ frames := 2, cells := 6, slots := 96, locals := 42 } : Room) h0 (.inr (2, [.null, .null, .null, .null, .null, .null])) [] (tr2 cy) := by
  refine mK_of (lv := [(0, .ref h0)]) (by decide) rfl rfl (Nat.le_of_ble_eq_true rfl) (fun A p e s m args below meth c C hin hAO => ?_)
  have C : Cx G cy [] A p s m meth c args cX2_init RX2 1 none := C
  refine ik_aload_n C 1 0 dX2_init_0 rfl rfl rfl ?_
  refine ik_obj C 4 gw_133 ⟨Nat.le_of_ble_eq_true rfl, Nat.le_of_ble_eq_true rfl⟩ dX2_init_1 rfl ?_
  refine ik_aload_n C 5 0 dX2_init_4 rfl rfl rfl ?_
  refine ik_bipush C 7 dX2_init_5 rfl k_bp16 ?_
  refine ik_new_int C 9 16 rfl (by decide) ⟨Nat.le_of_ble_eq_true rfl, Nat.le_of_ble_eq_true rfl⟩ dX2_init_7 rfl (fun q1 => ?_)
  refine ik_putF C hin 12 0 0 ((h0, .inr (2, [.ref q1, .null, .null, .null, .null, .null])) :: ([] ++ [(q1, .inl (cy 100 0, 16, .inl (fun _ => 0)))])) ui_2 tyX2 tyX2_ok nmX2 rfl rfl (by decide) gw_142 rfl rfl rfl rfl rfl (Nat.le_of_ble_eq_true rfl) rfl dX2_init_9 rfl ?_
  refine ik_aload_n C 13 0 dX2_init_12 rfl rfl rfl ?_
  refine ik_bipush C 15 dX2_init_13 rfl k_bp16 ?_
  refine ik_new_int C 17 16 rfl (by decide) ⟨Nat.le_of_ble_eq_true rfl, Nat.le_of_ble_eq_true rfl⟩ dX2_init_15 rfl (fun q2 => ?_)
  refine ik_putF C hin 20 1 0 ((h0, .inr (2, [.ref q1, .ref q2, .null, .null, .null, .null])) :: (([] ++ [(q1, .inl (cy 100 0, 16, .inl (fun _ => 0)))]) ++ [(q2, .inl (cy 100 0, 16, .inl (fun _ => 0)))])) ui_2 tyX2 tyX2_ok nmX2 rfl rfl (by decide) gw_144 rfl rfl rfl rfl rfl (Nat.le_of_ble_eq_true rfl) rfl dX2_init_17 rfl ?_
  refine ik_aload_n C 21 0 dX2_init_20 rfl rfl rfl ?_
  refine ik_bipush C 23 dX2_init_21 rfl k_bp16 ?_
  refine ik_new_int C 25 16 rfl (by decide) ⟨Nat.le_of_ble_eq_true rfl, Nat.le_of_ble_eq_true rfl⟩ dX2_init_23 rfl (fun q3 => ?_)
  refine ik_putF C hin 28 2 0 ((h0, .inr (2, [.ref q1, .ref q2, .ref q3, .null, .null, .null])) :: ((([] ++ [(q1, .inl (cy 100 0, 16, .inl (fun _ => 0)))]) ++ [(q2, .inl (cy 100 0, 16, .inl (fun _ => 0)))]) ++ [(q3, .inl (cy 100 0, 16, .inl (fun _ => 0)))])) ui_2 tyX2 tyX2_ok nmX2 rfl rfl (by decide) gw_145 rfl rfl rfl rfl rfl (Nat.le_of_ble_eq_true rfl) rfl dX2_init_25 rfl ?_
  refine ik_aload_n C 29 0 dX2_init_28 rfl rfl rfl ?_
  refine ik_bipush C 31 dX2_init_29 rfl k_bp16 ?_
  refine ik_new_int C 33 16 rfl (by decide) ⟨Nat.le_of_ble_eq_true rfl, Nat.le_of_ble_eq_true rfl⟩ dX2_init_31 rfl (fun q4 => ?_)
  refine ik_putF C hin 36 3 0 ((h0, .inr (2, [.ref q1, .ref q2, .ref q3, .ref q4, .null, .null])) :: (((([] ++ [(q1, .inl (cy 100 0, 16, .inl (fun _ => 0)))]) ++ [(q2, .inl (cy 100 0, 16, .inl (fun _ => 0)))]) ++ [(q3, .inl (cy 100 0, 16, .inl (fun _ => 0)))]) ++ [(q4, .inl (cy 100 0, 16, .inl (fun _ => 0)))])) ui_2 tyX2 tyX2_ok nmX2 rfl rfl (by decide) gw_147 rfl rfl rfl rfl rfl (Nat.le_of_ble_eq_true rfl) rfl dX2_init_33 rfl ?_
  refine ik_aload_n C 37 0 dX2_init_36 rfl rfl rfl ?_
  refine ik_bipush C 39 dX2_init_37 rfl k_bp16 ?_
  refine ik_new_int C 41 16 rfl (by decide) ⟨Nat.le_of_ble_eq_true rfl, Nat.le_of_ble_eq_true rfl⟩ dX2_init_39 rfl (fun q5 => ?_)
  refine ik_putF C hin 44 4 0 ((h0, .inr (2, [.ref q1, .ref q2, .ref q3, .ref q4, .ref q5, .null])) :: ((((([] ++ [(q1, .inl (cy 100 0, 16, .inl (fun _ => 0)))]) ++ [(q2, .inl (cy 100 0, 16, .inl (fun _ => 0)))]) ++ [(q3, .inl (cy 100 0, 16, .inl (fun _ => 0)))]) ++ [(q4, .inl (cy 100 0, 16, .inl (fun _ => 0)))]) ++ [(q5, .inl (cy 100 0, 16, .inl (fun _ => 0)))])) ui_2 tyX2 tyX2_ok nmX2 rfl rfl (by decide) gw_149 rfl rfl rfl rfl rfl (Nat.le_of_ble_eq_true rfl) rfl dX2_init_41 rfl ?_
  refine ik_aload_n C 45 0 dX2_init_44 rfl rfl rfl ?_
  refine ik_bipush C 47 dX2_init_45 rfl k_bp16 ?_
  refine ik_new_int C 49 16 rfl (by decide) ⟨Nat.le_of_ble_eq_true rfl, Nat.le_of_ble_eq_true rfl⟩ dX2_init_47 rfl (fun q6 => ?_)
  refine ik_putF C hin 52 5 0 ((h0, .inr (2, [.ref q1, .ref q2, .ref q3, .ref q4, .ref q5, .ref q6])) :: (((((([] ++ [(q1, .inl (cy 100 0, 16, .inl (fun _ => 0)))]) ++ [(q2, .inl (cy 100 0, 16, .inl (fun _ => 0)))]) ++ [(q3, .inl (cy 100 0, 16, .inl (fun _ => 0)))]) ++ [(q4, .inl (cy 100 0, 16, .inl (fun _ => 0)))]) ++ [(q5, .inl (cy 100 0, 16, .inl (fun _ => 0)))]) ++ [(q6, .inl (cy 100 0, 16, .inl (fun _ => 0)))])) ui_2 tyX2 tyX2_ok nmX2 rfl rfl (by decide) gw_151 rfl rfl rfl rfl rfl (Nat.le_of_ble_eq_true rfl) rfl dX2_init_49 rfl ?_
  refine ik_aload_n C 53 0 dX2_init_52 rfl rfl rfl ?_
  refine ik_eq (ws' := wl (adB cy (fun i => if i = 0 then h0 else if i = 1 then q1 else if i = 2 then q2 else if i = 3 then q3 else if i = 4 then q4 else if i = 5 then q5 else if i = 6 then q6 else 0) 9) [(9, 0), (10, 0), (11, 0), (12, 0), (13, 0), (14, 0), (15, 0)] Dz) rfl ?_
  refine ik_cV C 56 (ad := (adB cy (fun i => if i = 0 then h0 else if i = 1 then q1 else if i = 2 then q2 else if i = 3 then q3 else if i = 4 then q4 else if i = 5 then q5 else if i = 6 then q6 else 0) 9)) (U := [(9, 0), (10, 0), (11, 0), (12, 0), (13, 0), (14, 0), (15, 0)]) (D := Dz) (D1 := r_2) (kd := 9) (b := 0) vk_X2_reset gw_134 (fun hU => c_X2_reset (b := 0) hU kg_Ho) r_2_ok rfl rfl rfl (by decide) rfl rfl (rle2 rfl) rfl (st := []) rfl (Nat.le_of_ble_eq_true rfl) ⟨Nat.le_of_ble_eq_true rfl, Nat.le_of_ble_eq_true rfl⟩ dX2_init_53 rfl ?_
  refine ik_eq (wl_congr (ad := (adB cy (fun i => if i = 0 then h0 else if i = 1 then q1 else if i = 2 then q2 else if i = 3 then q3 else if i = 4 then q4 else if i = 5 then q5 else if i = 6 then q6 else 0) 9)) r_2_eq) ?_
  exact ik_ret C (tr := tr2 cy) (fun i => if i = 0 then h0 else if i = 1 then q1 else if i = 2 then q2 else if i = 3 then q3 else if i = 4 then q4 else if i = 5 then q5 else if i = 6 then q6 else 0) rfl rfl dX2_init_56
set_option maxRecDepth 100000 in
set_option maxHeartbeats 8000000 in
theorem c_X5_init {l : Launch} {G : va_G} {cy : Nat → Nat → Nat} {h0 : Nat} : MK l G cy yX5_init cX5_init 1 ({ frames := 2, cells := 7, slots := 68, locals := 43 } : Room) h0 (.inr (5, [.int 0, .int 0, .null, .null, .null, .null, .null, .null, .null])) [] (tr5 cy) := by
  refine mK_of (lv := [(0, .ref h0)]) (by decide) rfl rfl (Nat.le_of_ble_eq_true rfl) (fun A p e s m args below meth c C hin hAO => ?_)
  have C : Cx G cy [] A p s m meth c args cX5_init RX5 1 none := C
  refine ik_aload_n C 1 0 dX5_init_0 rfl rfl rfl ?_
  refine ik_obj C 4 gw_68 ⟨Nat.le_of_ble_eq_true rfl, Nat.le_of_ble_eq_true rfl⟩ dX5_init_1 rfl ?_
  refine ik_aload_n C 5 0 dX5_init_4 rfl rfl rfl ?_
  refine ik_iconst C 6 dX5_init_5 rfl k_ic4 ?_
  refine ik_new_int C 8 4 rfl (by decide) ⟨Nat.le_of_ble_eq_true rfl, Nat.le_of_ble_eq_true rfl⟩ dX5_init_6 rfl (fun q1 => ?_)
  refine ik_putF C hin 11 2 0 ((h0, .inr (5, [.int 0, .int 0, .ref q1, .null, .null, .null, .null, .null, .null])) :: ([] ++ [(q1, .inl (cy 100 0, 4, .inl (fun _ => 0)))])) ui_5 tyX5 tyX5_ok nmX5 rfl rfl (by decide) gw_85 rfl rfl rfl rfl rfl (Nat.le_of_ble_eq_true rfl) rfl dX5_init_8 rfl ?_
  refine ik_aload_n C 12 0 dX5_init_11 rfl rfl rfl ?_
  refine ik_iconst C 13 dX5_init_12 rfl k_ic4 ?_
  refine ik_new_int C 15 4 rfl (by decide) ⟨Nat.le_of_ble_eq_true rfl, Nat.le_of_ble_eq_true rfl⟩ dX5_init_13 rfl (fun q2 => ?_)
  refine ik_putF C hin 18 3 0 ((h0, .inr (5, [.int 0, .int 0, .ref q1, .ref q2, .null, .null, .null, .null, .null])) :: (([] ++ [(q1, .inl (cy 100 0, 4, .inl (fun _ => 0)))]) ++ [(q2, .inl (cy 100 0, 4, .inl (fun _ => 0)))])) ui_5 tyX5 tyX5_ok nmX5 rfl rfl (by decide) gw_88 rfl rfl rfl rfl rfl (Nat.le_of_ble_eq_true rfl) rfl dX5_init_15 rfl ?_
  refine ik_aload_n C 19 0 dX5_init_18 rfl rfl rfl ?_
  refine ik_bipush C 21 dX5_init_19 rfl k_bp12 ?_
  refine ik_new_int C 23 12 rfl (by decide) ⟨Nat.le_of_ble_eq_true rfl, Nat.le_of_ble_eq_true rfl⟩ dX5_init_21 rfl (fun q3 => ?_)
  refine ik_putF C hin 26 4 0 ((h0, .inr (5, [.int 0, .int 0, .ref q1, .ref q2, .ref q3, .null, .null, .null, .null])) :: ((([] ++ [(q1, .inl (cy 100 0, 4, .inl (fun _ => 0)))]) ++ [(q2, .inl (cy 100 0, 4, .inl (fun _ => 0)))]) ++ [(q3, .inl (cy 100 0, 12, .inl (fun _ => 0)))])) ui_5 tyX5 tyX5_ok nmX5 rfl rfl (by decide) gw_91 rfl rfl rfl rfl rfl (Nat.le_of_ble_eq_true rfl) rfl dX5_init_23 rfl ?_
  refine ik_aload_n C 27 0 dX5_init_26 rfl rfl rfl ?_
  refine ik_bipush C 29 dX5_init_27 rfl k_bp12 ?_
  refine ik_new_int C 31 12 rfl (by decide) ⟨Nat.le_of_ble_eq_true rfl, Nat.le_of_ble_eq_true rfl⟩ dX5_init_29 rfl (fun q4 => ?_)
  refine ik_putF C hin 34 5 0 ((h0, .inr (5, [.int 0, .int 0, .ref q1, .ref q2, .ref q3, .ref q4, .null, .null, .null])) :: (((([] ++ [(q1, .inl (cy 100 0, 4, .inl (fun _ => 0)))]) ++ [(q2, .inl (cy 100 0, 4, .inl (fun _ => 0)))]) ++ [(q3, .inl (cy 100 0, 12, .inl (fun _ => 0)))]) ++ [(q4, .inl (cy 100 0, 12, .inl (fun _ => 0)))])) ui_5 tyX5 tyX5_ok nmX5 rfl rfl (by decide) gw_96 rfl rfl rfl rfl rfl (Nat.le_of_ble_eq_true rfl) rfl dX5_init_31 rfl ?_
  refine ik_aload_n C 35 0 dX5_init_34 rfl rfl rfl ?_
  refine ik_bipush C 37 dX5_init_35 rfl k_bp12 ?_
  refine ik_new_int C 39 12 rfl (by decide) ⟨Nat.le_of_ble_eq_true rfl, Nat.le_of_ble_eq_true rfl⟩ dX5_init_37 rfl (fun q5 => ?_)
  refine ik_putF C hin 42 6 0 ((h0, .inr (5, [.int 0, .int 0, .ref q1, .ref q2, .ref q3, .ref q4, .ref q5, .null, .null])) :: ((((([] ++ [(q1, .inl (cy 100 0, 4, .inl (fun _ => 0)))]) ++ [(q2, .inl (cy 100 0, 4, .inl (fun _ => 0)))]) ++ [(q3, .inl (cy 100 0, 12, .inl (fun _ => 0)))]) ++ [(q4, .inl (cy 100 0, 12, .inl (fun _ => 0)))]) ++ [(q5, .inl (cy 100 0, 12, .inl (fun _ => 0)))])) ui_5 tyX5 tyX5_ok nmX5 rfl rfl (by decide) gw_101 rfl rfl rfl rfl rfl (Nat.le_of_ble_eq_true rfl) rfl dX5_init_39 rfl ?_
  refine ik_aload_n C 43 0 dX5_init_42 rfl rfl rfl ?_
  refine ik_bipush C 45 dX5_init_43 rfl k_bp12 ?_
  refine ik_new_int C 47 12 rfl (by decide) ⟨Nat.le_of_ble_eq_true rfl, Nat.le_of_ble_eq_true rfl⟩ dX5_init_45 rfl (fun q6 => ?_)
  refine ik_putF C hin 50 7 0 ((h0, .inr (5, [.int 0, .int 0, .ref q1, .ref q2, .ref q3, .ref q4, .ref q5, .ref q6, .null])) :: (((((([] ++ [(q1, .inl (cy 100 0, 4, .inl (fun _ => 0)))]) ++ [(q2, .inl (cy 100 0, 4, .inl (fun _ => 0)))]) ++ [(q3, .inl (cy 100 0, 12, .inl (fun _ => 0)))]) ++ [(q4, .inl (cy 100 0, 12, .inl (fun _ => 0)))]) ++ [(q5, .inl (cy 100 0, 12, .inl (fun _ => 0)))]) ++ [(q6, .inl (cy 100 0, 12, .inl (fun _ => 0)))])) ui_5 tyX5 tyX5_ok nmX5 rfl rfl (by decide) gw_104 rfl rfl rfl rfl rfl (Nat.le_of_ble_eq_true rfl) rfl dX5_init_47 rfl ?_
  refine ik_aload_n C 51 0 dX5_init_50 rfl rfl rfl ?_
  refine ik_bipush C 53 dX5_init_51 rfl k_bp12 ?_
  refine ik_new_int C 55 12 rfl (by decide) ⟨Nat.le_of_ble_eq_true rfl, Nat.le_of_ble_eq_true rfl⟩ dX5_init_53 rfl (fun q7 => ?_)
  refine ik_putF C hin 58 8 0 ((h0, .inr (5, [.int 0, .int 0, .ref q1, .ref q2, .ref q3, .ref q4, .ref q5, .ref q6, .ref q7])) :: ((((((([] ++ [(q1, .inl (cy 100 0, 4, .inl (fun _ => 0)))]) ++ [(q2, .inl (cy 100 0, 4, .inl (fun _ => 0)))]) ++ [(q3, .inl (cy 100 0, 12, .inl (fun _ => 0)))]) ++ [(q4, .inl (cy 100 0, 12, .inl (fun _ => 0)))]) ++ [(q5, .inl (cy 100 0, 12, .inl (fun _ => 0)))]) ++ [(q6, .inl (cy 100 0, 12, .inl (fun _ => 0)))]) ++ [(q7, .inl (cy 100 0, 12, .inl (fun _ => 0)))])) ui_5 tyX5 tyX5_ok nmX5 rfl rfl (by decide) gw_106 rfl rfl rfl rfl rfl (Nat.le_of_ble_eq_true rfl) rfl dX5_init_55 rfl ?_
  refine ik_aload_n C 59 0 dX5_init_58 rfl rfl rfl ?_
  refine ik_eq (ws' := wl (adB cy (fun i => if i = 0 then h0 else if i = 1 then q1 else if i = 2 then q2 else if i = 3 then q3 else if i = 4 then q4 else if i = 5 then q5 else if i = 6 then q6 else if i = 7 then q7 else 0) 1) [(1, 0), (2, 0), (3, 0), (4, 0), (5, 0), (6, 0), (7, 0), (8, 0)] Dz) rfl ?_
  refine ik_cV C 62 (ad := (adB cy (fun i => if i = 0 then h0 else if i = 1 then q1 else if i = 2 then q2 else if i = 3 then q3 else if i = 4 then q4 else if i = 5 then q5 else if i = 6 then q6 else if i = 7 then q7 else 0) 1)) (U := [(1, 0), (2, 0), (3, 0), (4, 0), (5, 0), (6, 0), (7, 0), (8, 0)]) (D := Dz) (D1 := r_5) (kd := 1) (b := 0) vk_X5_reset gw_69 (fun hU => c_X5_reset (b := 0) hU kg_Sp) r_5_ok rfl rfl rfl (by decide) rfl rfl (rle2 rfl) rfl (st := []) rfl (Nat.le_of_ble_eq_true rfl) ⟨Nat.le_of_ble_eq_true rfl, Nat.le_of_ble_eq_true rfl⟩ dX5_init_59 rfl ?_
  refine ik_eq (wl_congr (ad := (adB cy (fun i => if i = 0 then h0 else if i = 1 then q1 else if i = 2 then q2 else if i = 3 then q3 else if i = 4 then q4 else if i = 5 then q5 else if i = 6 then q6 else if i = 7 then q7 else 0) 1)) r_5_eq) ?_
  exact ik_ret C (tr := tr5 cy) (fun i => if i = 0 then h0 else if i = 1 then q1 else if i = 2 then q2 else if i = 3 then q3 else if i = 4 then q4 else if i = 5 then q5 else if i = 6 then q6 else if i = 7 then q7 else 0) rfl rfl dX5_init_62
set_option maxRecDepth 100000 in
set_option maxHeartbeats 8000000 in
theorem c_X7_init {l : Launch} {G : va_G} {cy : Nat → Nat → Nat} {h0 : Nat} : MK l G cy yX7_init cX7_init 1 ({ frames := 2, cells := 5, slots := 635, locals := 32 } : Room) h0 (.inr (7, [.null, .null, .int 0, .null])) [] (tr7 cy) := by
  refine mK_of (lv := [(0, .ref h0)]) (by decide) rfl rfl (Nat.le_of_ble_eq_true rfl) (fun A p e s m args below meth c C hin hAO => ?_)
  have C : Cx G cy [] A p s m meth c args cX7_init RX7 1 none := C
  refine ik_aload_n C 1 0 dX7_init_0 rfl rfl rfl ?_
  refine ik_obj C 4 gw_224 ⟨Nat.le_of_ble_eq_true rfl, Nat.le_of_ble_eq_true rfl⟩ dX7_init_1 rfl ?_
  refine ik_aload_n C 5 0 dX7_init_4 rfl rfl rfl ?_
  refine ik_bipush C 7 dX7_init_5 rfl k_bp24 ?_
  refine ik_new_int C 9 24 rfl (by decide) ⟨Nat.le_of_ble_eq_true rfl, Nat.le_of_ble_eq_true rfl⟩ dX7_init_7 rfl (fun q1 => ?_)
  refine ik_putF C hin 12 0 0 ((h0, .inr (7, [.ref q1, .null, .int 0, .null])) :: ([] ++ [(q1, .inl (cy 100 0, 24, .inl (fun _ => 0)))])) ui_7 tyX7 tyX7_ok nmX7 rfl rfl (by decide) gw_245 rfl rfl rfl rfl rfl (Nat.le_of_ble_eq_true rfl) rfl dX7_init_9 rfl ?_
  refine ik_aload_n C 13 0 dX7_init_12 rfl rfl rfl ?_
  refine ik_bipush C 15 dX7_init_13 rfl k_bp24 ?_
  refine ik_new_int C 17 24 rfl (by decide) ⟨Nat.le_of_ble_eq_true rfl, Nat.le_of_ble_eq_true rfl⟩ dX7_init_15 rfl (fun q2 => ?_)
  refine ik_putF C hin 20 1 0 ((h0, .inr (7, [.ref q1, .ref q2, .int 0, .null])) :: (([] ++ [(q1, .inl (cy 100 0, 24, .inl (fun _ => 0)))]) ++ [(q2, .inl (cy 100 0, 24, .inl (fun _ => 0)))])) ui_7 tyX7 tyX7_ok nmX7 rfl rfl (by decide) gw_246 rfl rfl rfl rfl rfl (Nat.le_of_ble_eq_true rfl) rfl dX7_init_17 rfl ?_
  refine ik_aload_n C 21 0 dX7_init_20 rfl rfl rfl ?_
  refine ik_new C 24 (ci := 0) (fs := [.null, .null, .int 0]) ui_0 tyX0 tyX0_ok gw_225 gw_226 gw_9 rfl df_0 ⟨Nat.le_of_ble_eq_true rfl, Nat.le_of_ble_eq_true rfl⟩ dX7_init_21 rfl (fun q3 => ?_)
  refine ik_dup C 25 dX7_init_24 rfl rfl ?_
  refine ik_ctorN C hAO 28 kk_0 gw_227 (c_X0_init) ⟨Nat.le_of_ble_eq_true rfl, Nat.le_of_ble_eq_true rfl⟩ rfl (st := [.ref q3, .ref h0]) rfl (Nat.le_of_ble_eq_true rfl) ⟨Nat.le_of_ble_eq_true rfl, Nat.le_of_ble_eq_true rfl⟩ dX7_init_25 rfl (fun a4 ha4 => ?_)
  subst ha4
  refine ik_putF C hin 31 3 0 ((h0, .inr (7, [.ref q1, .ref q2, .int 0, .ref (a4 0)])) :: ((([] ++ [(q1, .inl (cy 100 0, 24, .inl (fun _ => 0)))]) ++ [(q2, .inl (cy 100 0, 24, .inl (fun _ => 0)))]) ++ tr0 cy a4)) ui_7 tyX7 tyX7_ok nmX7 rfl rfl (by decide) gw_248 rfl rfl rfl rfl rfl (Nat.le_of_ble_eq_true rfl) rfl dX7_init_28 rfl ?_
  exact ik_ret C (tr := tr7 cy) (fun i => if i = 0 then h0 else if i = 1 then q1 else if i = 2 then q2 else if i < 6 then a4 (i - 3) else 0) rfl rfl dX7_init_31
set_option maxRecDepth 100000 in
set_option maxHeartbeats 8000000 in
theorem c_X6_init {l : Launch} {G : va_G} {cy : Nat → Nat → Nat} {h0 : Nat} : MK l G cy yX6_init cX6_init 1 ({ frames := 3, cells := 15, slots := 179, locals := 63 } : Room) h0 (.inr (6, [.null, .null, .int 0, .int 0, .int 0, .int 0])) [] (tr6 cy) := by
  refine mK_of (lv := [(0, .ref h0)]) (by decide) rfl rfl (Nat.le_of_ble_eq_true rfl) (fun A p e s m args below meth c C hin hAO => ?_)
  have C : Cx G cy [] A p s m meth c args cX6_init RX6 1 none := C
  refine ik_aload_n C 1 0 dX6_init_0 rfl rfl rfl ?_
  refine ik_obj C 4 gw_62 ⟨Nat.le_of_ble_eq_true rfl, Nat.le_of_ble_eq_true rfl⟩ dX6_init_1 rfl ?_
  refine ik_aload_n C 5 0 dX6_init_4 rfl rfl rfl ?_
  refine ik_new C 8 (ci := 5) (fs := [.int 0, .int 0, .null, .null, .null, .null, .null, .null, .null]) ui_5 tyX5 tyX5_ok gw_63 gw_64 gw_4 rfl df_5 ⟨Nat.le_of_ble_eq_true rfl, Nat.le_of_ble_eq_true rfl⟩ dX6_init_5 rfl (fun q1 => ?_)
  refine ik_dup C 9 dX6_init_8 rfl rfl ?_
  refine ik_ctor C hAO 12 kk_5 gw_65 (c_X5_init) ⟨Nat.le_of_ble_eq_true rfl, Nat.le_of_ble_eq_true rfl⟩ rfl (st := [.ref q1, .ref h0]) rfl (Nat.le_of_ble_eq_true rfl) ⟨Nat.le_of_ble_eq_true rfl, Nat.le_of_ble_eq_true rfl⟩ dX6_init_9 rfl (fun a2 ha2 => ?_)
  subst ha2
  refine ik_putF C hin 15 0 0 ((h0, .inr (6, [.ref (a2 0), .null, .int 0, .int 0, .int 0, .int 0])) :: ([] ++ tr5 cy a2)) ui_6 tyX6 tyX6_ok nmX6 rfl rfl (by decide) gw_172 rfl rfl rfl rfl rfl (Nat.le_of_ble_eq_true rfl) rfl dX6_init_12 rfl ?_
  refine ik_aload_n C 16 0 dX6_init_15 rfl rfl rfl ?_
  refine ik_new C 19 (ci := 2) (fs := [.null, .null, .null, .null, .null, .null]) ui_2 tyX2 tyX2_ok gw_128 gw_129 gw_6 rfl df_2 ⟨Nat.le_of_ble_eq_true rfl, Nat.le_of_ble_eq_true rfl⟩ dX6_init_16 rfl (fun q3 => ?_)
  refine ik_dup C 20 dX6_init_19 rfl rfl ?_
  refine ik_ctor C hAO 23 kk_2 gw_130 (c_X2_init) ⟨Nat.le_of_ble_eq_true rfl, Nat.le_of_ble_eq_true rfl⟩ rfl (st := [.ref q3, .ref h0]) rfl (Nat.le_of_ble_eq_true rfl) ⟨Nat.le_of_ble_eq_true rfl, Nat.le_of_ble_eq_true rfl⟩ dX6_init_20 rfl (fun a4 ha4 => ?_)
  subst ha4
  refine ik_putF C hin 26 1 0 ((h0, .inr (6, [.ref (a2 0), .ref (a4 0), .int 0, .int 0, .int 0, .int 0])) :: (([] ++ tr5 cy a2) ++ tr2 cy a4)) ui_6 tyX6 tyX6_ok nmX6 rfl rfl (by decide) gw_175 rfl rfl rfl rfl rfl (Nat.le_of_ble_eq_true rfl) rfl dX6_init_23 rfl ?_
  refine ik_aload_n C 27 0 dX6_init_26 rfl rfl rfl ?_
  refine ik_eq (ws' := wl (adB cy (fun i => if i = 0 then h0 else if i < 9 then a2 (i - 1) else if i < 16 then a4 (i - 9) else 0) 0) [(0, 0), (1, 0), (2, 0), (3, 0), (4, 0), (5, 0), (6, 0), (7, 0), (8, 0), (9, 0), (10, 0), (11, 0), (12, 0), (13, 0), (14, 0), (15, 0)] D0') (by simp only [tr5, tr2]; rfl) ?_
  refine ik_cV C 30 (ad := (adB cy (fun i => if i = 0 then h0 else if i < 9 then a2 (i - 1) else if i < 16 then a4 (i - 9) else 0) 0)) (U := [(0, 0), (1, 0), (2, 0), (3, 0), (4, 0), (5, 0), (6, 0), (7, 0), (8, 0), (9, 0), (10, 0), (11, 0), (12, 0), (13, 0), (14, 0), (15, 0)]) (D := D0') (D1 := r_6) (kd := 0) (b := 0) vk_X6_reset gw_166 (fun hU => c_X6_reset (b := 0) hU kg_St) r_6_ok rfl rfl rfl (by decide) rfl rfl (rle2 rfl) rfl (st := []) rfl (Nat.le_of_ble_eq_true rfl) ⟨Nat.le_of_ble_eq_true rfl, Nat.le_of_ble_eq_true rfl⟩ dX6_init_27 rfl ?_
  refine ik_eq (wl_congr (ad := (adB cy (fun i => if i = 0 then h0 else if i < 9 then a2 (i - 1) else if i < 16 then a4 (i - 9) else 0) 0)) r_6_eq) ?_
  exact ik_ret C (tr := tr6 cy) (fun i => if i = 0 then h0 else if i < 9 then a2 (i - 1) else if i < 16 then a4 (i - 9) else 0) rfl rfl dX6_init_30
set_option maxRecDepth 100000 in
set_option maxHeartbeats 8000000 in
theorem c_X4_init {l : Launch} {G : va_G} {cy : Nat → Nat → Nat} {h0 : Nat} {t d v : Nat} : MK l G cy yX4_init cX4_init 4 ({ frames := 1, cells := 0, slots := 0, locals := 12 } : Room) h0 (.inr (4, [.null, .null, .null])) [.ref t, .ref d, .ref v] (tr4 t d v) := by
  refine mK_of (lv := [(0, .ref h0), (1, .ref t), (2, .ref d), (3, .ref v)]) (by decide) rfl rfl (Nat.le_of_ble_eq_true rfl) (fun A p e s m args below meth c C hin hAO => ?_)
  have C : Cx G cy [] A p s m meth c args cX4_init RX4 4 none := C
  refine ik_aload_n C 1 0 dX4_init_0 rfl rfl rfl ?_
  refine ik_obj C 4 gw_267 ⟨Nat.le_of_ble_eq_true rfl, Nat.le_of_ble_eq_true rfl⟩ dX4_init_1 rfl ?_
  refine ik_aload_n C 5 0 dX4_init_4 rfl rfl rfl ?_
  refine ik_aload_n C 6 1 dX4_init_5 rfl rfl rfl ?_
  refine ik_putF C hin 9 0 0 ((h0, .inr (4, [.ref t, .null, .null])) :: []) ui_4 tyX4 tyX4_ok nmX4 rfl rfl (by decide) gw_268 rfl rfl rfl rfl rfl (Nat.le_of_ble_eq_true rfl) rfl dX4_init_6 rfl ?_
  refine ik_aload_n C 10 0 dX4_init_9 rfl rfl rfl ?_
  refine ik_aload_n C 11 2 dX4_init_10 rfl rfl rfl ?_
  refine ik_putF C hin 14 1 0 ((h0, .inr (4, [.ref t, .ref d, .null])) :: []) ui_4 tyX4 tyX4_ok nmX4 rfl rfl (by decide) gw_269 rfl rfl rfl rfl rfl (Nat.le_of_ble_eq_true rfl) rfl dX4_init_11 rfl ?_
  refine ik_aload_n C 15 0 dX4_init_14 rfl rfl rfl ?_
  refine ik_aload_n C 16 3 dX4_init_15 rfl rfl rfl ?_
  refine ik_putF C hin 19 2 0 ((h0, .inr (4, [.ref t, .ref d, .ref v])) :: []) ui_4 tyX4 tyX4_ok nmX4 rfl rfl (by decide) gw_270 rfl rfl rfl rfl rfl (Nat.le_of_ble_eq_true rfl) rfl dX4_init_16 rfl ?_
  exact ik_ret C (tr := tr4 t d v) (fun _ => h0) rfl rfl dX4_init_19
set_option maxRecDepth 100000 in
set_option maxHeartbeats 8000000 in
theorem c_X3_init {l : Launch} {G : va_G} {cy : Nat → Nat → Nat} {h0 : Nat} : MK l G cy yX3_init cX3_init 1 ({ frames := 3, cells := 23, slots := 1391, locals := 63 } : Room) h0 (.inr (3, [.null, .null, .null, .int 0, .int 0, .int 0, .int 0, .int 0, .null, .null, .null, .int 0])) [] (tr3 cy) := by
  refine mK_of (lv := [(0, .ref h0)]) (by decide) rfl rfl (Nat.le_of_ble_eq_true rfl) (fun A p e s m args below meth c C hin hAO => ?_)
  have C : Cx G cy [] A p s m meth c args cX3_init RX3 1 none := C
  refine ik_aload_n C 1 0 dX3_init_0 rfl rfl rfl ?_
  refine ik_obj C 4 gw_283 ⟨Nat.le_of_ble_eq_true rfl, Nat.le_of_ble_eq_true rfl⟩ dX3_init_1 rfl ?_
  refine ik_aload_n C 5 0 dX3_init_4 rfl rfl rfl ?_
  refine ik_new C 8 (ci := 5) (fs := [.int 0, .int 0, .null, .null, .null, .null, .null, .null, .null]) ui_5 tyX5 tyX5_ok gw_284 gw_64 gw_4 rfl df_5 ⟨Nat.le_of_ble_eq_true rfl, Nat.le_of_ble_eq_true rfl⟩ dX3_init_5 rfl (fun q1 => ?_)
  refine ik_dup C 9 dX3_init_8 rfl rfl ?_
  refine ik_ctor C hAO 12 kk_5 gw_285 (c_X5_init) ⟨Nat.le_of_ble_eq_true rfl, Nat.le_of_ble_eq_true rfl⟩ rfl (st := [.ref q1, .ref h0]) rfl (Nat.le_of_ble_eq_true rfl) ⟨Nat.le_of_ble_eq_true rfl, Nat.le_of_ble_eq_true rfl⟩ dX3_init_9 rfl (fun a2 ha2 => ?_)
  subst ha2
  refine ik_putF C hin 15 0 0 ((h0, .inr (3, [.ref (a2 0), .null, .null, .int 0, .int 0, .int 0, .int 0, .int 0, .null, .null, .null, .int 0])) :: ([] ++ tr5 cy a2)) ui_3 tyX3 tyX3_ok nmX3 rfl rfl (by decide) gw_288 rfl rfl rfl rfl rfl (Nat.le_of_ble_eq_true rfl) rfl dX3_init_12 rfl ?_
  refine ik_aload_n C 16 0 dX3_init_15 rfl rfl rfl ?_
  refine ik_new C 19 (ci := 7) (fs := [.null, .null, .int 0, .null]) ui_7 tyX7 tyX7_ok gw_286 gw_220 gw_8 rfl df_7 ⟨Nat.le_of_ble_eq_true rfl, Nat.le_of_ble_eq_true rfl⟩ dX3_init_16 rfl (fun q3 => ?_)
  refine ik_dup C 20 dX3_init_19 rfl rfl ?_
  refine ik_ctorN C hAO 23 kk_7 gw_287 (c_X7_init) ⟨Nat.le_of_ble_eq_true rfl, Nat.le_of_ble_eq_true rfl⟩ rfl (st := [.ref q3, .ref h0]) rfl (Nat.le_of_ble_eq_true rfl) ⟨Nat.le_of_ble_eq_true rfl, Nat.le_of_ble_eq_true rfl⟩ dX3_init_20 rfl (fun a4 ha4 => ?_)
  subst ha4
  refine ik_putF C hin 26 1 0 ((h0, .inr (3, [.ref (a2 0), .ref (a4 0), .null, .int 0, .int 0, .int 0, .int 0, .int 0, .null, .null, .null, .int 0])) :: (([] ++ tr5 cy a2) ++ tr7 cy a4)) ui_3 tyX3 tyX3_ok nmX3 rfl rfl (by decide) gw_289 rfl rfl rfl rfl rfl (Nat.le_of_ble_eq_true rfl) rfl dX3_init_23 rfl ?_
  refine ik_aload_n C 27 0 dX3_init_26 rfl rfl rfl ?_
  refine ik_new C 30 (ci := 7) (fs := [.null, .null, .int 0, .null]) ui_7 tyX7 tyX7_ok gw_286 gw_220 gw_8 rfl df_7 ⟨Nat.le_of_ble_eq_true rfl, Nat.le_of_ble_eq_true rfl⟩ dX3_init_27 rfl (fun q5 => ?_)
  refine ik_dup C 31 dX3_init_30 rfl rfl ?_
  refine ik_ctorN C hAO 34 kk_7 gw_287 (c_X7_init) ⟨Nat.le_of_ble_eq_true rfl, Nat.le_of_ble_eq_true rfl⟩ rfl (st := [.ref q5, .ref h0]) rfl (Nat.le_of_ble_eq_true rfl) ⟨Nat.le_of_ble_eq_true rfl, Nat.le_of_ble_eq_true rfl⟩ dX3_init_31 rfl (fun a6 ha6 => ?_)
  subst ha6
  refine ik_putF C hin 37 2 0 ((h0, .inr (3, [.ref (a2 0), .ref (a4 0), .ref (a6 0), .int 0, .int 0, .int 0, .int 0, .int 0, .null, .null, .null, .int 0])) :: ((([] ++ tr5 cy a2) ++ tr7 cy a4) ++ tr7 cy a6)) ui_3 tyX3 tyX3_ok nmX3 rfl rfl (by decide) gw_290 rfl rfl rfl rfl rfl (Nat.le_of_ble_eq_true rfl) rfl dX3_init_34 rfl ?_
  refine ik_aload_n C 38 0 dX3_init_37 rfl rfl rfl ?_
  refine ik_bipush C 40 dX3_init_38 rfl k_bp12 ?_
  refine ik_new_int C 42 12 rfl (by decide) ⟨Nat.le_of_ble_eq_true rfl, Nat.le_of_ble_eq_true rfl⟩ dX3_init_40 rfl (fun q7 => ?_)
  refine ik_putF C hin 45 8 0 ((h0, .inr (3, [.ref (a2 0), .ref (a4 0), .ref (a6 0), .int 0, .int 0, .int 0, .int 0, .int 0, .ref q7, .null, .null, .int 0])) :: (((([] ++ tr5 cy a2) ++ tr7 cy a4) ++ tr7 cy a6) ++ [(q7, .inl (cy 100 0, 12, .inl (fun _ => 0)))])) ui_3 tyX3 tyX3_ok nmX3 rfl rfl (by decide) gw_298 rfl rfl rfl rfl rfl (Nat.le_of_ble_eq_true rfl) rfl dX3_init_42 rfl ?_
  refine ik_aload_n C 46 0 dX3_init_45 rfl rfl rfl ?_
  refine ik_bipush C 48 dX3_init_46 rfl k_bp12 ?_
  refine ik_new_int C 50 12 rfl (by decide) ⟨Nat.le_of_ble_eq_true rfl, Nat.le_of_ble_eq_true rfl⟩ dX3_init_48 rfl (fun q8 => ?_)
  refine ik_putF C hin 53 9 0 ((h0, .inr (3, [.ref (a2 0), .ref (a4 0), .ref (a6 0), .int 0, .int 0, .int 0, .int 0, .int 0, .ref q7, .ref q8, .null, .int 0])) :: ((((([] ++ tr5 cy a2) ++ tr7 cy a4) ++ tr7 cy a6) ++ [(q7, .inl (cy 100 0, 12, .inl (fun _ => 0)))]) ++ [(q8, .inl (cy 100 0, 12, .inl (fun _ => 0)))])) ui_3 tyX3 tyX3_ok nmX3 rfl rfl (by decide) gw_299 rfl rfl rfl rfl rfl (Nat.le_of_ble_eq_true rfl) rfl dX3_init_50 rfl ?_
  refine ik_aload_n C 54 0 dX3_init_53 rfl rfl rfl ?_
  refine ik_bipush C 56 dX3_init_54 rfl k_bp12 ?_
  refine ik_new_int C 58 12 rfl (by decide) ⟨Nat.le_of_ble_eq_true rfl, Nat.le_of_ble_eq_true rfl⟩ dX3_init_56 rfl (fun q9 => ?_)
  refine ik_putF C hin 61 10 0 ((h0, .inr (3, [.ref (a2 0), .ref (a4 0), .ref (a6 0), .int 0, .int 0, .int 0, .int 0, .int 0, .ref q7, .ref q8, .ref q9, .int 0])) :: (((((([] ++ tr5 cy a2) ++ tr7 cy a4) ++ tr7 cy a6) ++ [(q7, .inl (cy 100 0, 12, .inl (fun _ => 0)))]) ++ [(q8, .inl (cy 100 0, 12, .inl (fun _ => 0)))]) ++ [(q9, .inl (cy 100 0, 12, .inl (fun _ => 0)))])) ui_3 tyX3 tyX3_ok nmX3 rfl rfl (by decide) gw_300 rfl rfl rfl rfl rfl (Nat.le_of_ble_eq_true rfl) rfl dX3_init_58 rfl ?_
  exact ik_ret C (tr := tr3 cy) (fun i => if i = 0 then h0 else if i < 9 then a2 (i - 1) else if i < 15 then a4 (i - 9) else if i < 21 then a6 (i - 15) else if i = 21 then q7 else if i = 22 then q8 else if i = 23 then q9 else 0) rfl (by simp only [tr3, tr5, tr7]; rfl) dX3_init_61
