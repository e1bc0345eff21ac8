set_option maxRecDepth 100000 in
set_option maxHeartbeats 4000000 in
theorem law_loop {Inv : Dt → Prop} (hAll : AllOK Inv) {G : va_G} {cy : Nat → Nat → Nat} {a a2 : Nat → Nat} {p : Program} {l : Launch} {e : Env} {s : State} {m : MethodId} {below : List Frame} {meth : Method} {c : Code} {b L : Nat} {xs : Nat → Int32} (hL : L ≤ 2048) (C0 : lw_At p s m meth c b L xs) (C : Cx G cy [] (fun q => s.heap.size ≤ q) p s m meth c #[Value.ref b] code RL 4 (some .boolean)) : ∀ (n i : Nat) (D : Dt), i ≤ 2052 → L < i + 4 * n + 4 → Inv D → Ik G (fun q => s.heap.size ≤ q) p l e room_1 s m #[Value.ref b] below meth c 4 (lw_Z below #[Value.ref b] s) 18 [(0, .ref b), (1, .ref (adF cy a a2 31 0)), (2, .ref (adF cy a a2 32 0)), (3, .int (nI i))] [] (wl (adF cy a a2) uF D) 175 7450 := by
  obtain ⟨hx, hb, hr, -, -, -, hX, hbl, hlocks, -⟩ := id C0
  have hbA : ¬ (fun q : Nat => s.heap.size ≤ q) b := Nat.not_le.mpr hbl
  have hsub : (nI L - 4).toInt = (L : Int) - 4 := pk_sub_toInt (b := 4) (by omega) (by decide)
  intro n
  induction n with
  | zero =>
    intro i D hi hn hD
    refine ik_iload_n C 19 3 dL_law_18 rfl rfl rfl ?_
    refine ik_aload_n C 20 0 dL_law_19 rfl rfl rfl ?_
    refine ik_slen C hX hbl hbA 21 dL_law_20 rfl ?_
    refine ik_iconst C 22 dL_law_21 rfl k_ic4 ?_
    refine ik_isub C 23 dL_law_22 rfl ?_
    refine ik_icgt C 1012 26 dL_law_23 rfl rfl (fun hc => ?_) (fun hc => ?_)
    · intro H locs ls hP hD hS hl
      refine lv_iconst (v := 1) hx hb dL_law_1012 (by decide) ?_
      refine va_forget (fun q hq => hS.2.2 q hq) ?_
      refine W.widen (k := 600000) (n := 7302250) (by decide) (by decide) ?_
      exact lw_ret hx hb hr hlocks dL_law_1013
    · have hle : i + 4 ≤ L := by
        rcases Nat.lt_or_ge L (i + 4) with q | q
        · exact absurd (Int32.lt_iff_toInt_lt.mpr (by rw [hsub, nI_toInt (by omega)]; omega)) hc
        · exact q
      omega
  | succ n ih =>
    intro i D hi hn hD
    refine ik_iload_n C 19 3 dL_law_18 rfl rfl rfl ?_
    refine ik_aload_n C 20 0 dL_law_19 rfl rfl rfl ?_
    refine ik_slen C hX hbl hbA 21 dL_law_20 rfl ?_
    refine ik_iconst C 22 dL_law_21 rfl k_ic4 ?_
    refine ik_isub C 23 dL_law_22 rfl ?_
    refine ik_icgt C 1012 26 dL_law_23 rfl rfl (fun hc => ?_) (fun hc => ?_)
    · intro H locs ls hP hD hS hl
      refine lv_iconst (v := 1) hx hb dL_law_1012 (by decide) ?_
      refine va_forget (fun q hq => hS.2.2 q hq) ?_
      refine W.widen (k := 600000) (n := 7302250) (by decide) (by decide) ?_
      exact lw_ret hx hb hr hlocks dL_law_1013
    · have hle : i + 4 ≤ L := by
        rcases Nat.lt_or_ge L (i + 4) with q | q
        · exact absurd (Int32.lt_iff_toInt_lt.mpr (by rw [hsub, nI_toInt (by omega)]; omega)) hc
        · exact q
      refine ik_aload_n C 27 0 dL_law_26 rfl rfl rfl ?_
      refine ik_iload_n C 28 3 dL_law_27 rfl rfl rfl ?_
      refine ik_sld C hX hbl hbA 29 i rfl (by omega) hL dL_law_28 rfl ?_
      refine ik_bipush C 31 dL_law_29 rfl k_bp63 ?_
      refine ik_iand C 32 dL_law_31 rfl ?_
      have hback : ∀ D2, Inv D2 → Ik G (fun q => s.heap.size ≤ q) p l e room_1 s m #[Value.ref b] below meth c 4 (lw_Z below #[Value.ref b] s) 1006 [(0, .ref b), (1, .ref (adF cy a a2 31 0)), (2, .ref (adF cy a a2 32 0)), (3, .int (nI i))] [] (wl (adF cy a a2) uF D2) 175 7450 := by
        intro D2 hD2
        refine ik_iinc C 1009 3 [(3, .int (nI (i + 4))), (0, .ref b), (1, .ref (adF cy a a2 31 0)), (2, .ref (adF cy a a2 32 0))] dL_law_1006 rfl (nI_add i 4) (by decide) rfl rfl ?_
        refine ik_goto C 18 dL_law_1009 rfl ?_
        exact ik_sub [1, 2, 3, 0] [(0, .ref b), (1, .ref (adF cy a a2 31 0)), (2, .ref (adF cy a a2 32 0)), (3, .int (nI (i + 4)))] rfl (ih (i + 4) D2 (by omega) (by omega) hD2)
      by_cases h0 : xs i &&& 63 = (0 : Int32)
      · refine ik_tabIn C 184 (y := (0 : Int32)) h0 dL_law_32 (by decide) (by decide) rfl rfl ?_
        exact law_case0 hAll hL C0 C hle hD hback
      by_cases h1 : xs i &&& 63 = (1 : Int32)
      · refine ik_tabIn C 207 (y := (1 : Int32)) h1 dL_law_32 (by decide) (by decide) rfl rfl ?_
        exact law_case1 hAll hL C0 C hle hD hback
      by_cases h2 : xs i &&& 63 = (2 : Int32)
      · refine ik_tabIn C 220 (y := (2 : Int32)) h2 dL_law_32 (by decide) (by decide) rfl rfl ?_
        exact law_case2 hAll hL C0 C hle hD hback
      by_cases h3 : xs i &&& 63 = (3 : Int32)
      · refine ik_tabIn C 233 (y := (3 : Int32)) h3 dL_law_32 (by decide) (by decide) rfl rfl ?_
        exact law_case3 hAll hL C0 C hle hD hback
      by_cases h4 : xs i &&& 63 = (4 : Int32)
      · refine ik_tabIn C 266 (y := (4 : Int32)) h4 dL_law_32 (by decide) (by decide) rfl rfl ?_
        exact law_case4 hAll hL C0 C hle hD hback
      by_cases h5 : xs i &&& 63 = (5 : Int32)
      · refine ik_tabIn C 289 (y := (5 : Int32)) h5 dL_law_32 (by decide) (by decide) rfl rfl ?_
        exact law_case5 hAll hL C0 C hle hD hback
      by_cases h6 : xs i &&& 63 = (6 : Int32)
      · refine ik_tabIn C 312 (y := (6 : Int32)) h6 dL_law_32 (by decide) (by decide) rfl rfl ?_
        exact law_case6 hAll hL C0 C hle hD hback
      by_cases h7 : xs i &&& 63 = (7 : Int32)
      · refine ik_tabIn C 345 (y := (7 : Int32)) h7 dL_law_32 (by decide) (by decide) rfl rfl ?_
        exact law_case7 hAll hL C0 C hle hD hback
      by_cases h8 : xs i &&& 63 = (8 : Int32)
      · refine ik_tabIn C 368 (y := (8 : Int32)) h8 dL_law_32 (by decide) (by decide) rfl rfl ?_
        exact law_case8 hAll hL C0 C hle hD hback
      by_cases h9 : xs i &&& 63 = (9 : Int32)
      · refine ik_tabIn C 381 (y := (9 : Int32)) h9 dL_law_32 (by decide) (by decide) rfl rfl ?_
        exact law_case9 hAll hL C0 C hle hD hback
      by_cases h10 : xs i &&& 63 = (10 : Int32)
      · refine ik_tabIn C 404 (y := (10 : Int32)) h10 dL_law_32 (by decide) (by decide) rfl rfl ?_
        exact law_case10 hAll hL C0 C hle hD hback
      by_cases h11 : xs i &&& 63 = (11 : Int32)
      · refine ik_tabIn C 417 (y := (11 : Int32)) h11 dL_law_32 (by decide) (by decide) rfl rfl ?_
        exact law_case11 hAll hL C0 C hle hD hback
      by_cases h12 : xs i &&& 63 = (12 : Int32)
      · refine ik_tabIn C 450 (y := (12 : Int32)) h12 dL_law_32 (by decide) (by decide) rfl rfl ?_
        exact law_case12 hAll hL C0 C hle hD hback
      by_cases h13 : xs i &&& 63 = (13 : Int32)
      · refine ik_tabIn C 473 (y := (13 : Int32)) h13 dL_law_32 (by decide) (by decide) rfl rfl ?_
        exact law_case13 hAll hL C0 C hle hD hback
      by_cases h14 : xs i &&& 63 = (14 : Int32)
      · refine ik_tabIn C 506 (y := (14 : Int32)) h14 dL_law_32 (by decide) (by decide) rfl rfl ?_
        exact law_case14 hAll hL C0 C hle hD hback
      by_cases h15 : xs i &&& 63 = (15 : Int32)
      · refine ik_tabIn C 539 (y := (15 : Int32)) h15 dL_law_32 (by decide) (by decide) rfl rfl ?_
        exact law_case15 hAll hL C0 C hle hD hback
      by_cases h16 : xs i &&& 63 = (16 : Int32)
      · refine ik_tabIn C 562 (y := (16 : Int32)) h16 dL_law_32 (by decide) (by decide) rfl rfl ?_
        exact law_case16 hAll hL C0 C hle hD hback
      by_cases h17 : xs i &&& 63 = (17 : Int32)
      · refine ik_tabIn C 595 (y := (17 : Int32)) h17 dL_law_32 (by decide) (by decide) rfl rfl ?_
        exact law_case17 hAll hL C0 C hle hD hback
      by_cases h18 : xs i &&& 63 = (18 : Int32)
      · refine ik_tabIn C 618 (y := (18 : Int32)) h18 dL_law_32 (by decide) (by decide) rfl rfl ?_
        exact law_case18 hAll hL C0 C hle hD hback
      by_cases h19 : xs i &&& 63 = (19 : Int32)
      · refine ik_tabIn C 661 (y := (19 : Int32)) h19 dL_law_32 (by decide) (by decide) rfl rfl ?_
        exact law_case19 hAll hL C0 C hle hD hback
      by_cases h20 : xs i &&& 63 = (20 : Int32)
      · refine ik_tabIn C 684 (y := (20 : Int32)) h20 dL_law_32 (by decide) (by decide) rfl rfl ?_
        exact law_case20 hAll hL C0 C hle hD hback
      by_cases h21 : xs i &&& 63 = (21 : Int32)
      · refine ik_tabIn C 707 (y := (21 : Int32)) h21 dL_law_32 (by decide) (by decide) rfl rfl ?_
        exact law_case21 hAll hL C0 C hle hD hback
      by_cases h22 : xs i &&& 63 = (22 : Int32)
      · refine ik_tabIn C 740 (y := (22 : Int32)) h22 dL_law_32 (by decide) (by decide) rfl rfl ?_
        exact law_case22 hAll hL C0 C hle hD hback
      by_cases h23 : xs i &&& 63 = (23 : Int32)
      · refine ik_tabIn C 763 (y := (23 : Int32)) h23 dL_law_32 (by decide) (by decide) rfl rfl ?_
        exact law_case23 hAll hL C0 C hle hD hback
      by_cases h24 : xs i &&& 63 = (24 : Int32)
      · refine ik_tabIn C 786 (y := (24 : Int32)) h24 dL_law_32 (by decide) (by decide) rfl rfl ?_
        exact law_case24 hAll hL C0 C hle hD hback
      by_cases h25 : xs i &&& 63 = (25 : Int32)
      · refine ik_tabIn C 819 (y := (25 : Int32)) h25 dL_law_32 (by decide) (by decide) rfl rfl ?_
        exact law_case25 hAll hL C0 C hle hD hback
      by_cases h26 : xs i &&& 63 = (26 : Int32)
      · refine ik_tabIn C 832 (y := (26 : Int32)) h26 dL_law_32 (by decide) (by decide) rfl rfl ?_
        exact law_case26 hAll hL C0 C hle hD hback
      by_cases h27 : xs i &&& 63 = (27 : Int32)
      · refine ik_tabIn C 855 (y := (27 : Int32)) h27 dL_law_32 (by decide) (by decide) rfl rfl ?_
        exact law_case27 hAll hL C0 C hle hD hback
      by_cases h28 : xs i &&& 63 = (28 : Int32)
      · refine ik_tabIn C 868 (y := (28 : Int32)) h28 dL_law_32 (by decide) (by decide) rfl rfl ?_
        exact law_case28 hAll hL C0 C hle hD hback
      by_cases h29 : xs i &&& 63 = (29 : Int32)
      · refine ik_tabIn C 901 (y := (29 : Int32)) h29 dL_law_32 (by decide) (by decide) rfl rfl ?_
        exact law_case29 hAll hL C0 C hle hD hback
      by_cases h30 : xs i &&& 63 = (30 : Int32)
      · refine ik_tabIn C 924 (y := (30 : Int32)) h30 dL_law_32 (by decide) (by decide) rfl rfl ?_
        exact law_case30 hAll hL C0 C hle hD hback
      by_cases h31 : xs i &&& 63 = (31 : Int32)
      · refine ik_tabIn C 937 (y := (31 : Int32)) h31 dL_law_32 (by decide) (by decide) rfl rfl ?_
        exact law_case31 hAll hL C0 C hle hD hback
      by_cases h32 : xs i &&& 63 = (32 : Int32)
      · refine ik_tabIn C 960 (y := (32 : Int32)) h32 dL_law_32 (by decide) (by decide) rfl rfl ?_
        exact law_case32 hAll hL C0 C hle hD hback
      by_cases h33 : xs i &&& 63 = (33 : Int32)
      · refine ik_tabIn C 993 (y := (33 : Int32)) h33 dL_law_32 (by decide) (by decide) rfl rfl ?_
        exact law_case33 hAll hL C0 C hle hD hback
      refine ik_tabOut C 1006 dL_law_32 (by
        have a0 := nz h0 (n := 0) (by decide)
        have a1 := nz h1 (n := 1) (by decide)
        have a2 := nz h2 (n := 2) (by decide)
        have a3 := nz h3 (n := 3) (by decide)
        have a4 := nz h4 (n := 4) (by decide)
        have a5 := nz h5 (n := 5) (by decide)
        have a6 := nz h6 (n := 6) (by decide)
        have a7 := nz h7 (n := 7) (by decide)
        have a8 := nz h8 (n := 8) (by decide)
        have a9 := nz h9 (n := 9) (by decide)
        have a10 := nz h10 (n := 10) (by decide)
        have a11 := nz h11 (n := 11) (by decide)
        have a12 := nz h12 (n := 12) (by decide)
        have a13 := nz h13 (n := 13) (by decide)
        have a14 := nz h14 (n := 14) (by decide)
        have a15 := nz h15 (n := 15) (by decide)
        have a16 := nz h16 (n := 16) (by decide)
        have a17 := nz h17 (n := 17) (by decide)
        have a18 := nz h18 (n := 18) (by decide)
        have a19 := nz h19 (n := 19) (by decide)
        have a20 := nz h20 (n := 20) (by decide)
        have a21 := nz h21 (n := 21) (by decide)
        have a22 := nz h22 (n := 22) (by decide)
        have a23 := nz h23 (n := 23) (by decide)
        have a24 := nz h24 (n := 24) (by decide)
        have a25 := nz h25 (n := 25) (by decide)
        have a26 := nz h26 (n := 26) (by decide)
        have a27 := nz h27 (n := 27) (by decide)
        have a28 := nz h28 (n := 28) (by decide)
        have a29 := nz h29 (n := 29) (by decide)
        have a30 := nz h30 (n := 30) (by decide)
        have a31 := nz h31 (n := 31) (by decide)
        have a32 := nz h32 (n := 32) (by decide)
        have a33 := nz h33 (n := 33) (by decide)
        omega) rfl ?_
      exact hback D hD
set_option maxRecDepth 100000 in
set_option maxHeartbeats 8000000 in
theorem law_start {Inv : Dt → Prop} (hAll : AllOK Inv) (h0 : Inv D0) {p : Program} {e : Env} {s : State} {m : MethodId} {below : List Frame} {meth : Method} {c : Code} (l : Launch) {b L : Nat} {xs : Nat → Int32} (hL : L ≤ 2048) (C0 : lw_At p s m meth c b L xs) : W p l e room_1 s m #[Value.ref b] below meth c s.heap [] 0 0 (lw_Z below #[Value.ref b] s) (entryFrame m ([Value.ref b] : List Value).toArray 4) := by
  obtain ⟨G, cy, C, hAO⟩ := lw_ctx C0
  have hl := lv_entry [.ref b] (n := 4) (Nat.le_of_ble_eq_true rfl)
  rw [lg_entry_eq]
  have key : Ik G (fun q => s.heap.size ≤ q) p l e room_1 s m #[Value.ref b] below meth c 4 (lw_Z below #[Value.ref b] s) 0 [(0, .ref b)] [] [] 0 0 := by
    refine ik_new C 3 (ci := 9) (fs := [.null, .null, .null, .null, .null, .null, .null, .null]) ui_9 tyX9 tyX9_ok gw_19 gw_20 gw_1 rfl df_9 ⟨Nat.le_of_ble_eq_true rfl, Nat.le_of_ble_eq_true rfl⟩ dL_law_0 rfl (fun q1 => ?_)
    refine ik_dup C 4 dL_law_3 rfl rfl ?_
    refine ik_ctor C hAO 7 kk_9 gw_21 c_X9_init ⟨Nat.le_of_ble_eq_true rfl, Nat.le_of_ble_eq_true rfl⟩ rfl (st := [.ref q1]) rfl (Nat.le_of_ble_eq_true rfl) ⟨Nat.le_of_ble_eq_true rfl, Nat.le_of_ble_eq_true rfl⟩ dL_law_4 rfl (fun a ha => ?_)
    subst ha
    refine ik_astore_n C 8 [(1, .ref (a 0)), (0, .ref b)] dL_law_7 rfl (by decide) rfl rfl ?_
    refine ik_new C 11 (ci := 10) (fs := [.null, .null, .int 0, .null, .int 0, .null, .null, .null, .int 0, .int 0, .int 0, .int 0, .int 0, .long 0, .int 0, .int 0, .int 0, .null, .int 0]) ui_10 tyX10 tyX10_ok gw_980 gw_981 gw_12 rfl df_10 ⟨Nat.le_of_ble_eq_true rfl, Nat.le_of_ble_eq_true rfl⟩ dL_law_8 rfl (fun q2 => ?_)
    refine ik_dup C 12 dL_law_11 rfl rfl ?_
    refine ik_ctor C hAO 15 kk_10 gw_982 c_X10_init ⟨Nat.le_of_ble_eq_true rfl, Nat.le_of_ble_eq_true rfl⟩ rfl (st := [.ref q2]) rfl (Nat.le_of_ble_eq_true rfl) ⟨Nat.le_of_ble_eq_true rfl, Nat.le_of_ble_eq_true rfl⟩ dL_law_12 rfl (fun a2 ha2 => ?_)
    subst ha2
    refine ik_astore_n C 16 [(2, .ref (a2 0)), (1, .ref (a 0)), (0, .ref b)] dL_law_15 rfl (by decide) rfl rfl ?_
    refine ik_iconst C 17 dL_law_16 rfl k_ic0 ?_
    refine ik_istore_n C 18 [(3, .int (0 : Int32)), (2, .ref (a2 0)), (1, .ref (a 0)), (0, .ref b)] dL_law_17 rfl (by decide) rfl rfl ?_
    refine ik_eq (ws' := wl (adF cy a a2) uF D0) (by simp only [tr9, tr10, uF, wl, List.map_append]; rfl) ?_
    exact ik_sub [3, 2, 1, 0] [(0, .ref b), (1, .ref (adF cy a a2 31 0)), (2, .ref (adF cy a a2 32 0)), (3, .int (nI 0))] rfl (law_loop hAll hL C0 C 513 0 D0 (by decide) (by omega) h0)
  exact key s.heap [] _ (fun k q hk => by simp at hk) ⟨fun i j y z hi _ _ => by simp at hi, fun k q hk => by simp at hk⟩ va_S.rf hl
