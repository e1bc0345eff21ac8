set_option maxRecDepth 100000 in
set_option maxHeartbeats 4000000 in
theorem c_X9_isIn {l : Launch} {G : va_G} {ad : Nat → Nat → Nat} {U : List (Nat × Nat)} {D : Dt} {x0 : Int32} {x1 : Int32} {x2 : Int32} (hU : Uinj ad U) : MI l G ad U yX9_isIn cX9_isIn 3 .boolean (k2_rm 0 0) [.int x0, .int x1, .int x2] D ((f_X9_isIn x0 x1 x2 D).bind (fun r => some (r, D))) := by
  refine mI_of (lv := [(0, .int x0), (1, .int x1), (2, .int x2)]) (by decide) hU rfl (Nat.le_of_ble_eq_true rfl) (fun A p e s m args below meth c C => ?_)
  have C : Cx G ad U A p s m meth c args cX9_isIn RX9 3 (some .boolean) := C
  unfold f_X9_isIn
  refine im_iload_n C 1 0 dX9_isIn_0 rfl rfl rfl ?_
  refine im_iload_n C 2 1 dX9_isIn_1 rfl rfl rfl ?_
  refine im_ic_lt C 14 5 dX9_isIn_2 rfl rfl ?_ ?_
  · refine im_iconst C 15 dX9_isIn_14 rfl k_ic0 ?_
    exact im_iret C rfl rfl dX9_isIn_15
  · refine im_iload_n C 6 0 dX9_isIn_5 rfl rfl rfl ?_
    refine im_iload_n C 7 2 dX9_isIn_6 rfl rfl rfl ?_
    refine im_ic_gt C 14 10 dX9_isIn_7 rfl rfl ?_ ?_
    · refine im_iconst C 15 dX9_isIn_14 rfl k_ic0 ?_
      exact im_iret C rfl rfl dX9_isIn_15
    · refine im_iconst C 11 dX9_isIn_10 rfl k_ic1 ?_
      refine im_goto C 15 dX9_isIn_11 rfl ?_
      exact im_iret C rfl rfl dX9_isIn_15
set_option maxRecDepth 100000 in
set_option maxHeartbeats 4000000 in
theorem c_X8_addSign {l : Launch} {G : va_G} {ad : Nat → Nat → Nat} {U : List (Nat × Nat)} {D : Dt} {x1 : Int32} (hU : Uinj ad U) (h0 : ToU U) : MI l G ad U yX8_addSign cX8_addSign 2 .boolean (k2_rm 0 0) [.ref (ad 22 0), .int x1] D (f_X8_addSign x1 D) := by
  refine mI_of0 (lv := [(0, .ref (ad 22 0)), (1, .int x1)]) (by decide) hU rfl (Nat.le_of_ble_eq_true rfl) (fun A p e s m args below meth c C => ?_)
  have C : Cx G ad U A p s m meth c args cX8_addSign RX8 2 (some .boolean) := C
  unfold f_X8_addSign
  refine im_aload_n C 1 0 dX8_addSign_0 rfl rfl rfl ?_
  refine gl_X8_15 C 4 (h0 22 (by decide) (by decide)) dX8_addSign_1 rfl ?_
  refine im_if_lt C 17 7 dX8_addSign_4 rfl rfl ?_ ?_
  · refine im_iconst C 18 dX8_addSign_17 rfl k_ic0 ?_
    exact im_iret C rfl rfl dX8_addSign_18
  · refine im_aload_n C 8 0 dX8_addSign_7 rfl rfl rfl ?_
    refine gl_X8_15 C 11 (h0 22 (by decide) (by decide)) dX8_addSign_8 rfl ?_
    refine im_sipush C 14 dX8_addSign_11 rfl k_sp150 ?_
    refine im_ic_lt C 19 17 dX8_addSign_14 rfl rfl ?_ ?_
    · refine im_aload_n C 20 0 dX8_addSign_19 rfl rfl rfl ?_
      refine gl_X8_9 C 23 (h0 22 (by decide) (by decide)) dX8_addSign_20 rfl ?_
      refine im_aload_n C 24 0 dX8_addSign_23 rfl rfl rfl ?_
      refine gl_X8_15 C 27 (h0 22 (by decide) (by decide)) dX8_addSign_24 rfl ?_
      refine im_iload_n C 28 1 dX8_addSign_27 rfl rfl rfl ?_
      refine im_wrc C 29 150 (h0 23 (by decide) (by decide)) (fun _ => rfl) dX8_addSign_28 rfl (fun D1 => ?_)
      refine im_aload_n C 30 0 dX8_addSign_29 rfl rfl rfl ?_
      refine im_dup C 31 dX8_addSign_30 rfl rfl ?_
      refine gl_X8_15 C 34 (h0 22 (by decide) (by decide)) dX8_addSign_31 rfl ?_
      refine im_iconst C 35 dX8_addSign_34 rfl k_ic1 ?_
      refine im_iadd C 36 dX8_addSign_35 rfl ?_
      refine pl_X8_15 C 39 (h0 22 (by decide) (by decide)) dX8_addSign_36 rfl (fun D2 => ?_)
      refine im_iconst C 40 dX8_addSign_39 rfl k_ic1 ?_
      exact im_iret C rfl rfl dX8_addSign_40
    · refine im_iconst C 18 dX8_addSign_17 rfl k_ic0 ?_
      exact im_iret C rfl rfl dX8_addSign_18
set_option maxRecDepth 100000 in
set_option maxHeartbeats 4000000 in
theorem c_X5_reset {l : Launch} {G : va_G} {ad : Nat → Nat → Nat} {U : List (Nat × Nat)} {D : Dt} {b : Nat} (hU : Uinj ad U) (h0 : SpU U b) : MV l G ad U yX5_reset cX5_reset 1 (k2_rm 1 23) [.ref (ad 1 b)] D (f_X5_reset b D) := by
  refine mV_of0 (lv := [(0, .ref (ad 1 b))]) (by decide) hU rfl (Nat.le_of_ble_eq_true rfl) (fun A p e s m args below meth c C => ?_)
  have C : Cx G ad U A p s m meth c args cX5_reset RX5 1 none := C
  unfold f_X5_reset
  refine im_aload_n C 1 0 dX5_reset_0 rfl rfl rfl ?_
  refine im_iconst C 2 dX5_reset_1 rfl k_ic0 ?_
  refine pl_X5_36 C 5 (h0 1 (by decide) (by decide)) dX5_reset_2 rfl (fun D1 => ?_)
  refine im_aload_n C 6 0 dX5_reset_5 rfl rfl rfl ?_
  refine im_iconst C 7 dX5_reset_6 rfl k_ic0 ?_
  refine pl_X5_40 C 10 (h0 1 (by decide) (by decide)) dX5_reset_7 rfl (fun D2 => ?_)
  refine im_aload_n C 11 0 dX5_reset_10 rfl rfl rfl ?_
  refine gl_X5_18 C 14 (h0 1 (by decide) (by decide)) dX5_reset_11 rfl ?_
  refine im_iconst C 15 dX5_reset_14 rfl k_icm1 ?_
  refine im_cSV C 18 sk_fill gw_73 (c_fill 4 12 hU (h0 4 (by decide) (by decide)) (fun _ => rfl) (by decide)) (rle rfl) rfl (st := []) rfl (Nat.le_of_ble_eq_true rfl) dX5_reset_15 rfl (fun D3 => ?_)
  refine im_aload_n C 19 0 dX5_reset_18 rfl rfl rfl ?_
  refine gl_X5_24 C 22 (h0 1 (by decide) (by decide)) dX5_reset_19 rfl ?_
  refine im_iconst C 23 dX5_reset_22 rfl k_icm1 ?_
  refine im_cSV C 26 sk_fill gw_73 (c_fill 6 12 hU (h0 6 (by decide) (by decide)) (fun _ => rfl) (by decide)) (rle rfl) rfl (st := []) rfl (Nat.le_of_ble_eq_true rfl) dX5_reset_23 rfl (fun D4 => ?_)
  exact im_vret C rfl dX5_reset_26
set_option maxRecDepth 100000 in
set_option maxHeartbeats 4000000 in
theorem c_X2_dismiss {l : Launch} {G : va_G} {ad : Nat → Nat → Nat} {U : List (Nat × Nat)} {D : Dt} {b : Nat} {x1 : Int32} (hU : Uinj ad U) (h0 : HoU U b) : MV l G ad U yX2_dismiss cX2_dismiss 2 (k2_rm 0 0) [.ref (ad 9 b), .int x1] D (f_X2_dismiss b x1 D) := by
  refine mV_of0 (lv := [(0, .ref (ad 9 b)), (1, .int x1)]) (by decide) hU rfl (Nat.le_of_ble_eq_true rfl) (fun A p e s m args below meth c C => ?_)
  have C : Cx G ad U A p s m meth c args cX2_dismiss RX2 2 none := C
  unfold f_X2_dismiss
  refine im_aload_n C 1 0 dX2_dismiss_0 rfl rfl rfl ?_
  refine gl_X2_9 C 4 (h0 9 (by decide) (by decide)) dX2_dismiss_1 rfl ?_
  refine im_iload_n C 5 1 dX2_dismiss_4 rfl rfl rfl ?_
  refine im_iconst C 6 dX2_dismiss_5 rfl k_icm1 ?_
  refine im_wri C 7 16 (h0 10 (by decide) (by decide)) (fun _ => rfl) dX2_dismiss_6 rfl (fun D1 => ?_)
  refine im_aload_n C 8 0 dX2_dismiss_7 rfl rfl rfl ?_
  refine gl_X2_18 C 11 (h0 9 (by decide) (by decide)) dX2_dismiss_8 rfl ?_
  refine im_iload_n C 12 1 dX2_dismiss_11 rfl rfl rfl ?_
  refine im_iconst C 13 dX2_dismiss_12 rfl k_icm1 ?_
  refine im_wri C 14 16 (h0 12 (by decide) (by decide)) (fun _ => rfl) dX2_dismiss_13 rfl (fun D2 => ?_)
  refine im_aload_n C 15 0 dX2_dismiss_14 rfl rfl rfl ?_
  refine gl_X2_24 C 18 (h0 9 (by decide) (by decide)) dX2_dismiss_15 rfl ?_
  refine im_iload_n C 19 1 dX2_dismiss_18 rfl rfl rfl ?_
  refine im_iconst C 20 dX2_dismiss_19 rfl k_icm1 ?_
  refine im_wri C 21 16 (h0 14 (by decide) (by decide)) (fun _ => rfl) dX2_dismiss_20 rfl (fun D3 => ?_)
  exact im_vret C rfl dX2_dismiss_21
set_option maxRecDepth 100000 in
set_option maxHeartbeats 4000000 in
theorem c_X2_reset {l : Launch} {G : va_G} {ad : Nat → Nat → Nat} {U : List (Nat × Nat)} {D : Dt} {b : Nat} (hU : Uinj ad U) (h0 : HoU U b) : MV l G ad U yX2_reset cX2_reset 2 (k2_rm 1 21) [.ref (ad 9 b)] D (f_X2_reset b D) := by
  refine mV_of0 (lv := [(0, .ref (ad 9 b))]) (by decide) hU rfl (Nat.le_of_ble_eq_true rfl) (fun A p e s m args below meth c C => ?_)
  have C : Cx G ad U A p s m meth c args cX2_reset RX2 2 none := C
  unfold f_X2_reset
  refine im_iconst C 1 dX2_reset_0 rfl k_ic0 ?_
  refine im_istore_n C 2 [(1, .int (0 : Int32)), (0, .ref (ad 9 b))] dX2_reset_1 rfl (by decide) rfl rfl ?_
  refine im_sub [1, 0] [(0, .ref (ad 9 b)), (1, .int (0 : Int32))] rfl ?_
  refine im_lpB (l_X2_reset_2 b) (fun z2 => [(0, .ref (ad 9 b)), (1, .int z2.1)]) (fun z2 => z2.2) 19 (fun e1 => []) (fun e1 => e1) (fun e1 => ?_) (fun z2 X_z2 hX_z2 hE_z2 => ?_) FU ((0 : Int32), D)
  · exact im_vret C rfl dX2_reset_19
  · unfold l_X2_reset_2
    refine im_iload_n C 3 1 dX2_reset_2 rfl rfl rfl ?_
    refine im_bipush C 5 dX2_reset_3 rfl k_bp16 ?_
    refine im_ic_ge C 19 8 dX2_reset_5 rfl rfl ?_ ?_
    · exact im_sub [] [] rfl (hE_z2 z2.2)
    · refine im_aload_n C 9 0 dX2_reset_8 rfl rfl rfl ?_
      refine im_iload_n C 10 1 dX2_reset_9 rfl rfl rfl ?_
      refine im_cVV C 13 vk_X2_dismiss gw_138 (c_X2_dismiss (b := b) (x1 := z2.1) hU h0) (h0 9 (by decide) (by decide)) rfl rfl (rle rfl) rfl (st := []) rfl (Nat.le_of_ble_eq_true rfl) dX2_reset_10 rfl (fun D2 => ?_)
      refine im_iinc C 16 1 [(1, .int (z2.1 + (1 : Int32))), (0, .ref (ad 9 b))] dX2_reset_13 rfl (k_inc1) (by decide) rfl rfl ?_
      refine im_goto C 2 dX2_reset_16 rfl ?_
      exact im_sub [1, 0] [(0, .ref (ad 9 b)), (1, .int (z2.1 + (1 : Int32)))] rfl (hX_z2 (z2.1 + (1 : Int32), D2))
set_option maxRecDepth 100000 in
set_option maxHeartbeats 4000000 in
theorem c_X6_reset {l : Launch} {G : va_G} {ad : Nat → Nat → Nat} {U : List (Nat × Nat)} {D : Dt} {b : Nat} (hU : Uinj ad U) (h0 : StU U b) : MV l G ad U yX6_reset cX6_reset 1 (k2_rm 2 43) [.ref (ad 0 b)] D (f_X6_reset b D) := by
  refine mV_of0 (lv := [(0, .ref (ad 0 b))]) (by decide) hU rfl (Nat.le_of_ble_eq_true rfl) (fun A p e s m args below meth c C => ?_)
  have C : Cx G ad U A p s m meth c args cX6_reset RX6 1 none := C
  unfold f_X6_reset
  refine im_aload_n C 1 0 dX6_reset_0 rfl rfl rfl ?_
  refine gl_X6_12 C 4 (h0.1 0 (by decide) (by decide)) dX6_reset_1 rfl ?_
  refine im_cVV C 7 vk_X5_reset gw_170 (c_X5_reset (b := b) hU h0.2.1) (h0.2.1 1 (by decide) (by decide)) rfl rfl (rle rfl) rfl (st := []) rfl (Nat.le_of_ble_eq_true rfl) dX6_reset_4 rfl (fun D1 => ?_)
  refine im_aload_n C 8 0 dX6_reset_7 rfl rfl rfl ?_
  refine gl_X6_21 C 11 (h0.1 0 (by decide) (by decide)) dX6_reset_8 rfl ?_
  refine im_cVV C 14 vk_X2_reset gw_171 (c_X2_reset (b := b) hU h0.2.2) (h0.2.2 9 (by decide) (by decide)) rfl rfl (rle rfl) rfl (st := []) rfl (Nat.le_of_ble_eq_true rfl) dX6_reset_11 rfl (fun D2 => ?_)
  refine im_aload_n C 15 0 dX6_reset_14 rfl rfl rfl ?_
  refine im_iconst C 16 dX6_reset_15 rfl k_ic0 ?_
  refine pl_X6_30 C 19 (h0.1 0 (by decide) (by decide)) dX6_reset_16 rfl (fun D3 => ?_)
  refine im_aload_n C 20 0 dX6_reset_19 rfl rfl rfl ?_
  refine im_bipush C 22 dX6_reset_20 rfl k_bp60 ?_
  refine pl_X6_34 C 25 (h0.1 0 (by decide) (by decide)) dX6_reset_22 rfl (fun D4 => ?_)
  refine im_aload_n C 26 0 dX6_reset_25 rfl rfl rfl ?_
  refine im_bipush C 28 dX6_reset_26 rfl k_bp100 ?_
  refine pl_X6_37 C 31 (h0.1 0 (by decide) (by decide)) dX6_reset_28 rfl (fun D5 => ?_)
  refine im_aload_n C 32 0 dX6_reset_31 rfl rfl rfl ?_
  refine im_iconst C 33 dX6_reset_32 rfl k_ic0 ?_
  refine pl_X6_40 C 36 (h0.1 0 (by decide) (by decide)) dX6_reset_33 rfl (fun D6 => ?_)
  exact im_vret C rfl dX6_reset_36
set_option maxRecDepth 100000 in
set_option maxHeartbeats 4000000 in
theorem c_X8_rewind {l : Launch} {G : va_G} {ad : Nat → Nat → Nat} {U : List (Nat × Nat)} {D : Dt} (hU : Uinj ad U) (h0 : ToU U) : MV l G ad U yX8_rewind cX8_rewind 1 (k2_rm 0 0) [.ref (ad 22 0)] D (f_X8_rewind D) := by
  refine mV_of0 (lv := [(0, .ref (ad 22 0))]) (by decide) hU rfl (Nat.le_of_ble_eq_true rfl) (fun A p e s m args below meth c C => ?_)
  have C : Cx G ad U A p s m meth c args cX8_rewind RX8 1 none := C
  unfold f_X8_rewind
  refine im_aload_n C 1 0 dX8_rewind_0 rfl rfl rfl ?_
  refine im_iconst C 2 dX8_rewind_1 rfl k_ic0 ?_
  refine pl_X8_19 C 5 (h0 22 (by decide) (by decide)) dX8_rewind_2 rfl (fun D1 => ?_)
  exact im_vret C rfl dX8_rewind_5
set_option maxRecDepth 100000 in
set_option maxHeartbeats 4000000 in
theorem c_X8_isWithin {l : Launch} {G : va_G} {ad : Nat → Nat → Nat} {U : List (Nat × Nat)} {D : Dt} {x1 : Int32} (hU : Uinj ad U) (h0 : ToU U) : MI l G ad U yX8_isWithin cX8_isWithin 2 .boolean (k2_rm 0 0) [.ref (ad 22 0), .int x1] D ((f_X8_isWithin x1 D).bind (fun r => some (r, D))) := by
  refine mI_of (lv := [(0, .ref (ad 22 0)), (1, .int x1)]) (by decide) hU rfl (Nat.le_of_ble_eq_true rfl) (fun A p e s m args below meth c C => ?_)
  have C : Cx G ad U A p s m meth c args cX8_isWithin RX8 2 (some .boolean) := C
  unfold f_X8_isWithin
  refine im_iload_n C 1 1 dX8_isWithin_0 rfl rfl rfl ?_
  refine im_if_lt C 23 4 dX8_isWithin_1 rfl rfl ?_ ?_
  · refine im_iconst C 24 dX8_isWithin_23 rfl k_ic0 ?_
    exact im_iret C rfl rfl dX8_isWithin_24
  · refine im_iload_n C 5 1 dX8_isWithin_4 rfl rfl rfl ?_
    refine im_aload_n C 6 0 dX8_isWithin_5 rfl rfl rfl ?_
    refine gl_X8_15 C 9 (h0 22 (by decide) (by decide)) dX8_isWithin_6 rfl ?_
    refine im_ic_ge C 23 12 dX8_isWithin_9 rfl rfl ?_ ?_
    · refine im_iconst C 24 dX8_isWithin_23 rfl k_ic0 ?_
      exact im_iret C rfl rfl dX8_isWithin_24
    · refine im_iload_n C 13 1 dX8_isWithin_12 rfl rfl rfl ?_
      refine im_sipush C 16 dX8_isWithin_13 rfl k_sp150 ?_
      refine im_ic_ge C 23 19 dX8_isWithin_16 rfl rfl ?_ ?_
      · refine im_iconst C 24 dX8_isWithin_23 rfl k_ic0 ?_
        exact im_iret C rfl rfl dX8_isWithin_24
      · refine im_iconst C 20 dX8_isWithin_19 rfl k_ic1 ?_
        refine im_goto C 24 dX8_isWithin_20 rfl ?_
        exact im_iret C rfl rfl dX8_isWithin_24
set_option maxRecDepth 100000 in
set_option maxHeartbeats 4000000 in
theorem c_X8_isLetter {l : Launch} {G : va_G} {ad : Nat → Nat → Nat} {U : List (Nat × Nat)} {D : Dt} {x1 : Int32} (hU : Uinj ad U) (h0 : ToU U) : MI l G ad U yX8_isLetter cX8_isLetter 2 .boolean (k2_rm 1 21) [.ref (ad 22 0), .int x1] D ((f_X8_isLetter x1 D).bind (fun r => some (r, D))) := by
  refine mI_of (lv := [(0, .ref (ad 22 0)), (1, .int x1)]) (by decide) hU rfl (Nat.le_of_ble_eq_true rfl) (fun A p e s m args below meth c C => ?_)
  have C : Cx G ad U A p s m meth c args cX8_isLetter RX8 2 (some .boolean) := C
  unfold f_X8_isLetter
  refine im_aload_n C 1 0 dX8_isLetter_0 rfl rfl rfl ?_
  refine im_iload_n C 2 1 dX8_isLetter_1 rfl rfl rfl ?_
  refine im_cVP C 5 vk_X8_isWithin gw_385 (c_X8_isWithin (x1 := x1) hU h0) (h0 22 (by decide) (by decide)) rfl rfl (rle rfl) rfl (st := []) rfl (Nat.le_of_ble_eq_true rfl) dX8_isLetter_2 rfl (fun o1 => ?_)
  refine im_if_eq C 34 8 dX8_isLetter_5 rfl rfl ?_ ?_
  · refine im_iconst C 35 dX8_isLetter_34 rfl k_ic0 ?_
    exact im_iret C rfl rfl dX8_isLetter_35
  · refine im_aload_n C 9 0 dX8_isLetter_8 rfl rfl rfl ?_
    refine gl_X8_9 C 12 (h0 22 (by decide) (by decide)) dX8_isLetter_9 rfl ?_
    refine im_iload_n C 13 1 dX8_isLetter_12 rfl rfl rfl ?_
    refine im_rdc C 14 150 (h0 23 (by decide) (by decide)) rfl dX8_isLetter_13 rfl (fun v2 => ?_)
    refine im_bipush C 16 dX8_isLetter_14 rfl k_bp97 ?_
    refine im_ic_lt C 34 19 dX8_isLetter_16 rfl rfl ?_ ?_
    · refine im_iconst C 35 dX8_isLetter_34 rfl k_ic0 ?_
      exact im_iret C rfl rfl dX8_isLetter_35
    · refine im_aload_n C 20 0 dX8_isLetter_19 rfl rfl rfl ?_
      refine gl_X8_9 C 23 (h0 22 (by decide) (by decide)) dX8_isLetter_20 rfl ?_
      refine im_iload_n C 24 1 dX8_isLetter_23 rfl rfl rfl ?_
      refine im_rdc C 25 150 (h0 23 (by decide) (by decide)) rfl dX8_isLetter_24 rfl (fun v3 => ?_)
      refine im_bipush C 27 dX8_isLetter_25 rfl k_bp122 ?_
      refine im_ic_gt C 34 30 dX8_isLetter_27 rfl rfl ?_ ?_
      · refine im_iconst C 35 dX8_isLetter_34 rfl k_ic0 ?_
        exact im_iret C rfl rfl dX8_isLetter_35
      · refine im_iconst C 31 dX8_isLetter_30 rfl k_ic1 ?_
        refine im_goto C 35 dX8_isLetter_31 rfl ?_
        exact im_iret C rfl rfl dX8_isLetter_35
set_option maxRecDepth 100000 in
set_option maxHeartbeats 4000000 in
theorem c_X8_isDigit {l : Launch} {G : va_G} {ad : Nat → Nat → Nat} {U : List (Nat × Nat)} {D : Dt} {x1 : Int32} (hU : Uinj ad U) (h0 : ToU U) : MI l G ad U yX8_isDigit cX8_isDigit 2 .boolean (k2_rm 1 21) [.ref (ad 22 0), .int x1] D ((f_X8_isDigit x1 D).bind (fun r => some (r, D))) := by
  refine mI_of (lv := [(0, .ref (ad 22 0)), (1, .int x1)]) (by decide) hU rfl (Nat.le_of_ble_eq_true rfl) (fun A p e s m args below meth c C => ?_)
  have C : Cx G ad U A p s m meth c args cX8_isDigit RX8 2 (some .boolean) := C
  unfold f_X8_isDigit
  refine im_aload_n C 1 0 dX8_isDigit_0 rfl rfl rfl ?_
  refine im_iload_n C 2 1 dX8_isDigit_1 rfl rfl rfl ?_
  refine im_cVP C 5 vk_X8_isWithin gw_385 (c_X8_isWithin (x1 := x1) hU h0) (h0 22 (by decide) (by decide)) rfl rfl (rle rfl) rfl (st := []) rfl (Nat.le_of_ble_eq_true rfl) dX8_isDigit_2 rfl (fun o1 => ?_)
  refine im_if_eq C 34 8 dX8_isDigit_5 rfl rfl ?_ ?_
  · refine im_iconst C 35 dX8_isDigit_34 rfl k_ic0 ?_
    exact im_iret C rfl rfl dX8_isDigit_35
  · refine im_aload_n C 9 0 dX8_isDigit_8 rfl rfl rfl ?_
    refine gl_X8_9 C 12 (h0 22 (by decide) (by decide)) dX8_isDigit_9 rfl ?_
    refine im_iload_n C 13 1 dX8_isDigit_12 rfl rfl rfl ?_
    refine im_rdc C 14 150 (h0 23 (by decide) (by decide)) rfl dX8_isDigit_13 rfl (fun v2 => ?_)
    refine im_bipush C 16 dX8_isDigit_14 rfl k_bp48 ?_
    refine im_ic_lt C 34 19 dX8_isDigit_16 rfl rfl ?_ ?_
    · refine im_iconst C 35 dX8_isDigit_34 rfl k_ic0 ?_
      exact im_iret C rfl rfl dX8_isDigit_35
    · refine im_aload_n C 20 0 dX8_isDigit_19 rfl rfl rfl ?_
      refine gl_X8_9 C 23 (h0 22 (by decide) (by decide)) dX8_isDigit_20 rfl ?_
      refine im_iload_n C 24 1 dX8_isDigit_23 rfl rfl rfl ?_
      refine im_rdc C 25 150 (h0 23 (by decide) (by decide)) rfl dX8_isDigit_24 rfl (fun v3 => ?_)
      refine im_bipush C 27 dX8_isDigit_25 rfl k_bp57 ?_
      refine im_ic_gt C 34 30 dX8_isDigit_27 rfl rfl ?_ ?_
      · refine im_iconst C 35 dX8_isDigit_34 rfl k_ic0 ?_
        exact im_iret C rfl rfl dX8_isDigit_35
      · refine im_iconst C 31 dX8_isDigit_30 rfl k_ic1 ?_
        refine im_goto C 35 dX8_isDigit_31 rfl ?_
        exact im_iret C rfl rfl dX8_isDigit_35
set_option maxRecDepth 100000 in
set_option maxHeartbeats 4000000 in
theorem c_X8_readNumber {l : Launch} {G : va_G} {ad : Nat → Nat → Nat} {U : List (Nat × Nat)} {D : Dt} (hU : Uinj ad U) (h0 : ToU U) : MV l G ad U yX8_readNumber cX8_readNumber 3 (k2_rm 2 42) [.ref (ad 22 0)] D (f_X8_readNumber D) := by
  refine mV_of0 (lv := [(0, .ref (ad 22 0))]) (by decide) hU rfl (Nat.le_of_ble_eq_true rfl) (fun A p e s m args below meth c C => ?_)
  have C : Cx G ad U A p s m meth c args cX8_readNumber RX8 3 none := C
  unfold f_X8_readNumber
  refine im_aload_n C 1 0 dX8_readNumber_0 rfl rfl rfl ?_
  refine im_iconst C 2 dX8_readNumber_1 rfl k_ic0 ?_
  refine pl_X8_68 C 5 (h0 22 (by decide) (by decide)) dX8_readNumber_2 rfl (fun D1 => ?_)
  refine im_lpB l_X8_readNumber_5 (fun z5 => [(0, .ref (ad 22 0))]) (fun z5 => z5) 64 (fun e2 => [(0, .ref (ad 22 0))]) (fun e2 => e2) (fun e2 => ?_) (fun z5 X_z5 hX_z5 hE_z5 => ?_) FU D1
  · refine im_aload_n C 65 0 dX8_readNumber_64 rfl rfl rfl ?_
    refine gl_X8_19 C 68 (h0 22 (by decide) (by decide)) dX8_readNumber_65 rfl ?_
    refine im_aload_n C 69 0 dX8_readNumber_68 rfl rfl rfl ?_
    refine gl_X8_26 C 72 (h0 22 (by decide) (by decide)) dX8_readNumber_69 rfl ?_
    refine im_isub C 73 dX8_readNumber_72 rfl ?_
    refine im_istore_n C 74 [(1, .int ((e2 22 0 2) - (e2 22 0 4))), (0, .ref (ad 22 0))] dX8_readNumber_73 rfl (by decide) rfl rfl ?_
    refine im_iload_n C 75 0 dX8_readNumber_74 rfl rfl rfl ?_
    refine im_iconst C 76 dX8_readNumber_75 rfl k_ic1 ?_
    refine im_jn 98 (fun t7 => [(0, .ref (ad 22 0)), (1, .int ((e2 22 0 2) - (e2 22 0 4)))]) (fun t7 => [.int t7]) (fun t7 => e2) (fun t7 => j_X8_readNumber_98_t7 e2 t7) (fun t7 => ?_) (fun ht7 => ?_)
    · unfold j_X8_readNumber_98_t7
      refine im_istore_n C 99 [(2, .int t7), (0, .ref (ad 22 0)), (1, .int ((e2 22 0 2) - (e2 22 0 4)))] dX8_readNumber_98 rfl (by decide) rfl rfl ?_
      refine im_aload_n C 100 1 dX8_readNumber_99 rfl rfl rfl ?_
      refine im_iload_n C 101 2 dX8_readNumber_100 rfl rfl rfl ?_
      refine im_iconst C 102 dX8_readNumber_101 rfl k_ic5 ?_
      refine im_ic_gt C 109 105 dX8_readNumber_102 rfl rfl ?_ ?_
      · refine im_iconst C 110 dX8_readNumber_109 rfl k_ic0 ?_
        refine im_goto C 114 dX8_readNumber_110 rfl ?_
        refine pl_X8_29 C 117 (h0 22 (by decide) (by decide)) dX8_readNumber_114 rfl (fun D8 => ?_)
        exact im_vret C rfl dX8_readNumber_117
      · refine im_iload_n C 106 0 dX8_readNumber_105 rfl rfl rfl ?_
        refine im_if_eq C 113 109 dX8_readNumber_106 rfl rfl ?_ ?_
        · refine im_iconst C 114 dX8_readNumber_113 rfl k_ic3 ?_
          refine pl_X8_29 C 117 (h0 22 (by decide) (by decide)) dX8_readNumber_114 rfl (fun D9 => ?_)
          exact im_vret C rfl dX8_readNumber_117
        · refine im_iconst C 110 dX8_readNumber_109 rfl k_ic0 ?_
          refine im_goto C 114 dX8_readNumber_110 rfl ?_
          refine pl_X8_29 C 117 (h0 22 (by decide) (by decide)) dX8_readNumber_114 rfl (fun D10 => ?_)
          exact im_vret C rfl dX8_readNumber_117
    · refine im_ic_le C 97 79 dX8_readNumber_76 rfl rfl ?_ ?_
      · refine im_iconst C 98 dX8_readNumber_97 rfl k_ic0 ?_
        exact im_sub [1, 0] [(0, .ref (ad 22 0)), (1, .int ((e2 22 0 2) - (e2 22 0 4)))] rfl (ht7 (0 : Int32))
      · refine im_aload_n C 80 1 dX8_readNumber_79 rfl rfl rfl ?_
        refine gl_X8_9 C 83 (h0 22 (by decide) (by decide)) dX8_readNumber_80 rfl ?_
        refine im_aload_n C 84 1 dX8_readNumber_83 rfl rfl rfl ?_
        refine gl_X8_26 C 87 (h0 22 (by decide) (by decide)) dX8_readNumber_84 rfl ?_
        refine im_rdc C 88 150 (h0 23 (by decide) (by decide)) rfl dX8_readNumber_87 rfl (fun v11 => ?_)
        refine im_bipush C 90 dX8_readNumber_88 rfl k_bp48 ?_
        refine im_ic_ne C 97 93 dX8_readNumber_90 rfl rfl ?_ ?_
        · refine im_iconst C 98 dX8_readNumber_97 rfl k_ic0 ?_
          exact im_sub [1, 0] [(0, .ref (ad 22 0)), (1, .int ((e2 22 0 2) - (e2 22 0 4)))] rfl (ht7 (0 : Int32))
        · refine im_iconst C 94 dX8_readNumber_93 rfl k_ic1 ?_
          refine im_goto C 98 dX8_readNumber_94 rfl ?_
          exact im_sub [1, 0] [(0, .ref (ad 22 0)), (1, .int ((e2 22 0 2) - (e2 22 0 4)))] rfl (ht7 (1 : Int32))
  · unfold l_X8_readNumber_5
    refine im_aload_n C 6 0 dX8_readNumber_5 rfl rfl rfl ?_
    refine gl_X8_19 C 9 (h0 22 (by decide) (by decide)) dX8_readNumber_6 rfl ?_
    refine im_aload_n C 10 0 dX8_readNumber_9 rfl rfl rfl ?_
    refine gl_X8_15 C 13 (h0 22 (by decide) (by decide)) dX8_readNumber_10 rfl ?_
    refine im_ic_ge C 64 16 dX8_readNumber_13 rfl rfl ?_ ?_
    · exact hE_z5 z5
    · refine im_aload_n C 17 0 dX8_readNumber_16 rfl rfl rfl ?_
      refine im_aload_n C 18 0 dX8_readNumber_17 rfl rfl rfl ?_
      refine gl_X8_19 C 21 (h0 22 (by decide) (by decide)) dX8_readNumber_18 rfl ?_
      refine im_cVP C 24 vk_X8_isDigit gw_454 (c_X8_isDigit (x1 := z5 22 0 2) hU h0) (h0 22 (by decide) (by decide)) rfl rfl (rle rfl) rfl (st := []) rfl (Nat.le_of_ble_eq_true rfl) dX8_readNumber_21 rfl (fun o3 => ?_)
      refine im_if_eq C 64 27 dX8_readNumber_24 rfl rfl ?_ ?_
      · exact hE_z5 z5
      · refine im_aload_n C 28 0 dX8_readNumber_27 rfl rfl rfl ?_
        refine im_aload_n C 29 0 dX8_readNumber_28 rfl rfl rfl ?_
        refine gl_X8_68 C 32 (h0 22 (by decide) (by decide)) dX8_readNumber_29 rfl ?_
        refine im_bipush C 34 dX8_readNumber_32 rfl k_bp10 ?_
        refine im_imul C 35 dX8_readNumber_34 rfl ?_
        refine im_aload_n C 36 0 dX8_readNumber_35 rfl rfl rfl ?_
        refine gl_X8_9 C 39 (h0 22 (by decide) (by decide)) dX8_readNumber_36 rfl ?_
        refine im_aload_n C 40 0 dX8_readNumber_39 rfl rfl rfl ?_
        refine gl_X8_19 C 43 (h0 22 (by decide) (by decide)) dX8_readNumber_40 rfl ?_
        refine im_rdc C 44 150 (h0 23 (by decide) (by decide)) rfl dX8_readNumber_43 rfl (fun v4 => ?_)
        refine im_bipush C 46 dX8_readNumber_44 rfl k_bp48 ?_
        refine im_isub C 47 dX8_readNumber_46 rfl ?_
        refine im_iadd C 48 dX8_readNumber_47 rfl ?_
        refine pl_X8_68 C 51 (h0 22 (by decide) (by decide)) dX8_readNumber_48 rfl (fun D5 => ?_)
        refine im_aload_n C 52 0 dX8_readNumber_51 rfl rfl rfl ?_
        refine im_dup C 53 dX8_readNumber_52 rfl rfl ?_
        refine gl_X8_19 C 56 (h0 22 (by decide) (by decide)) dX8_readNumber_53 rfl ?_
        refine im_iconst C 57 dX8_readNumber_56 rfl k_ic1 ?_
        refine im_iadd C 58 dX8_readNumber_57 rfl ?_
        refine pl_X8_19 C 61 (h0 22 (by decide) (by decide)) dX8_readNumber_58 rfl (fun D6 => ?_)
        refine im_goto C 5 dX8_readNumber_61 rfl ?_
        exact hX_z5 D6
set_option maxRecDepth 100000 in
set_option maxHeartbeats 4000000 in
theorem c_X9_sizeOf {l : Launch} {G : va_G} {ad : Nat → Nat → Nat} {U : List (Nat × Nat)} {D : Dt} {x0 : Int32} (hU : Uinj ad U) : MI l G ad U yX9_sizeOf cX9_sizeOf 1 .int (k2_rm 0 0) [.int x0] D ((f_X9_sizeOf x0 D).bind (fun r => some (r, D))) := by
  refine mI_of (lv := [(0, .int x0)]) (by decide) hU rfl (Nat.le_of_ble_eq_true rfl) (fun A p e s m args below meth c C => ?_)
  have C : Cx G ad U A p s m meth c args cX9_sizeOf RX9 1 (some .int) := C
  unfold f_X9_sizeOf
  refine im_iconst C 1 dX9_sizeOf_0 rfl k_ic1 ?_
  refine im_bipush C 3 dX9_sizeOf_1 rfl k_bp16 ?_
  refine im_iload_n C 4 0 dX9_sizeOf_3 rfl rfl rfl ?_
  refine im_isub C 5 dX9_sizeOf_4 rfl ?_
  refine im_ishl C 6 dX9_sizeOf_5 rfl ?_
  exact im_iret C rfl rfl dX9_sizeOf_6
set_option maxRecDepth 100000 in
set_option maxHeartbeats 4000000 in
theorem c_X9_isAligned {l : Launch} {G : va_G} {ad : Nat → Nat → Nat} {U : List (Nat × Nat)} {D : Dt} {x0 : Int32} {x1 : Int32} (hU : Uinj ad U) : MI l G ad U yX9_isAligned cX9_isAligned 2 .boolean (k2_rm 1 20) [.int x0, .int x1] D ((f_X9_isAligned x0 x1 D).bind (fun r => some (r, D))) := by
  refine mI_of (lv := [(0, .int x0), (1, .int x1)]) (by decide) hU rfl (Nat.le_of_ble_eq_true rfl) (fun A p e s m args below meth c C => ?_)
  have C : Cx G ad U A p s m meth c args cX9_isAligned RX9 2 (some .boolean) := C
  unfold f_X9_isAligned
  refine im_iload_n C 1 0 dX9_isAligned_0 rfl rfl rfl ?_
  refine im_iload_n C 2 1 dX9_isAligned_1 rfl rfl rfl ?_
  refine im_cSP C 5 sk_X9_sizeOf gw_475 (c_X9_sizeOf (x0 := x1) hU) (rle rfl) rfl (st := [.int x0]) rfl (Nat.le_of_ble_eq_true rfl) dX9_isAligned_2 rfl (fun o1 => ?_)
  refine im_iconst C 6 dX9_isAligned_5 rfl k_ic1 ?_
  refine im_isub C 7 dX9_isAligned_6 rfl ?_
  refine im_iand C 8 dX9_isAligned_7 rfl ?_
  refine im_if_ne C 15 11 dX9_isAligned_8 rfl rfl ?_ ?_
  · refine im_iconst C 16 dX9_isAligned_15 rfl k_ic0 ?_
    exact im_iret C rfl rfl dX9_isAligned_16
  · refine im_iconst C 12 dX9_isAligned_11 rfl k_ic1 ?_
    refine im_goto C 16 dX9_isAligned_12 rfl ?_
    exact im_iret C rfl rfl dX9_isAligned_16
set_option maxRecDepth 100000 in
set_option maxHeartbeats 4000000 in
theorem c_X9_covers {l : Launch} {G : va_G} {ad : Nat → Nat → Nat} {U : List (Nat × Nat)} {D : Dt} {x0 : Int32} {x1 : Int32} {x2 : Int32} (hU : Uinj ad U) : MI l G ad U yX9_covers cX9_covers 3 .boolean (k2_rm 1 20) [.int x0, .int x1, .int x2] D ((f_X9_covers x0 x1 x2 D).bind (fun r => some (r, D))) := by
  refine mI_of (lv := [(0, .int x0), (1, .int x1), (2, .int x2)]) (by decide) hU rfl (Nat.le_of_ble_eq_true rfl) (fun A p e s m args below meth c C => ?_)
  have C : Cx G ad U A p s m meth c args cX9_covers RX9 3 (some .boolean) := C
  unfold f_X9_covers
  refine im_iload_n C 1 0 dX9_covers_0 rfl rfl rfl ?_
  refine im_iconst C 2 dX9_covers_1 rfl k_icm1 ?_
  refine im_ic_eq C 24 5 dX9_covers_2 rfl rfl ?_ ?_
  · refine im_iconst C 25 dX9_covers_24 rfl k_ic0 ?_
    exact im_iret C rfl rfl dX9_covers_25
  · refine im_iload_n C 6 2 dX9_covers_5 rfl rfl rfl ?_
    refine im_iload_n C 7 0 dX9_covers_6 rfl rfl rfl ?_
    refine im_ic_lt C 24 10 dX9_covers_7 rfl rfl ?_ ?_
    · refine im_iconst C 25 dX9_covers_24 rfl k_ic0 ?_
      exact im_iret C rfl rfl dX9_covers_25
    · refine im_iload_n C 11 2 dX9_covers_10 rfl rfl rfl ?_
      refine im_iload_n C 12 0 dX9_covers_11 rfl rfl rfl ?_
      refine im_iload_n C 13 1 dX9_covers_12 rfl rfl rfl ?_
      refine im_cSP C 16 sk_X9_sizeOf gw_475 (c_X9_sizeOf (x0 := x1) hU) (rle rfl) rfl (st := [.int x0, .int x2]) rfl (Nat.le_of_ble_eq_true rfl) dX9_covers_13 rfl (fun o1 => ?_)
      refine im_iadd C 17 dX9_covers_16 rfl ?_
      refine im_ic_ge C 24 20 dX9_covers_17 rfl rfl ?_ ?_
      · refine im_iconst C 25 dX9_covers_24 rfl k_ic0 ?_
        exact im_iret C rfl rfl dX9_covers_25
      · refine im_iconst C 21 dX9_covers_20 rfl k_ic1 ?_
        refine im_goto C 25 dX9_covers_21 rfl ?_
        exact im_iret C rfl rfl dX9_covers_25
set_option maxRecDepth 100000 in
set_option maxHeartbeats 4000000 in
theorem c_X9_meet {l : Launch} {G : va_G} {ad : Nat → Nat → Nat} {U : List (Nat × Nat)} {D : Dt} {x0 : Int32} {x1 : Int32} {x2 : Int32} {x3 : Int32} (hU : Uinj ad U) : MI l G ad U yX9_meet cX9_meet 4 .boolean (k2_rm 2 42) [.int x0, .int x1, .int x2, .int x3] D ((f_X9_meet x0 x1 x2 x3 D).bind (fun r => some (r, D))) := by
  refine mI_of (lv := [(0, .int x0), (1, .int x1), (2, .int x2), (3, .int x3)]) (by decide) hU rfl (Nat.le_of_ble_eq_true rfl) (fun A p e s m args below meth c C => ?_)
  have C : Cx G ad U A p s m meth c args cX9_meet RX9 4 (some .boolean) := C
  unfold f_X9_meet
  refine im_iload_n C 1 0 dX9_meet_0 rfl rfl rfl ?_
  refine im_iload_n C 2 1 dX9_meet_1 rfl rfl rfl ?_
  refine im_iload_n C 3 2 dX9_meet_2 rfl rfl rfl ?_
  refine im_cSP C 6 sk_X9_covers gw_485 (c_X9_covers (x0 := x0) (x1 := x1) (x2 := x2) hU) (rle rfl) rfl (st := []) rfl (Nat.le_of_ble_eq_true rfl) dX9_meet_3 rfl (fun o1 => ?_)
  refine im_if_ne C 18 9 dX9_meet_6 rfl rfl ?_ ?_
  · refine im_iconst C 19 dX9_meet_18 rfl k_ic1 ?_
    refine im_goto C 23 dX9_meet_19 rfl ?_
    exact im_iret C rfl rfl dX9_meet_23
  · refine im_iload_n C 10 2 dX9_meet_9 rfl rfl rfl ?_
    refine im_iload_n C 11 3 dX9_meet_10 rfl rfl rfl ?_
    refine im_iload_n C 12 0 dX9_meet_11 rfl rfl rfl ?_
    refine im_cSP C 15 sk_X9_covers gw_485 (c_X9_covers (x0 := x2) (x1 := x3) (x2 := x0) hU) (rle rfl) rfl (st := []) rfl (Nat.le_of_ble_eq_true rfl) dX9_meet_12 rfl (fun o2 => ?_)
    refine im_if_eq C 22 18 dX9_meet_15 rfl rfl ?_ ?_
    · refine im_iconst C 23 dX9_meet_22 rfl k_ic0 ?_
      exact im_iret C rfl rfl dX9_meet_23
    · refine im_iconst C 19 dX9_meet_18 rfl k_ic1 ?_
      refine im_goto C 23 dX9_meet_19 rfl ?_
      exact im_iret C rfl rfl dX9_meet_23
set_option maxRecDepth 100000 in
set_option maxHeartbeats 4000000 in
theorem c_X5_meetsPool {l : Launch} {G : va_G} {ad : Nat → Nat → Nat} {U : List (Nat × Nat)} {D : Dt} {b : Nat} {x1 : Int32} {x2 : Int32} (hU : Uinj ad U) (h0 : SpU U b) : MI l G ad U yX5_meetsPool cX5_meetsPool 4 .boolean (k2_rm 3 65) [.ref (ad 1 b), .int x1, .int x2] D ((f_X5_meetsPool b x1 x2 D).bind (fun r => some (r, D))) := by
  refine mI_of (lv := [(0, .ref (ad 1 b)), (1, .int x1), (2, .int x2)]) (by decide) hU rfl (Nat.le_of_ble_eq_true rfl) (fun A p e s m args below meth c C => ?_)
  have C : Cx G ad U A p s m meth c args cX5_meetsPool RX5 4 (some .boolean) := C
  unfold f_X5_meetsPool
  refine im_iconst C 1 dX5_meetsPool_0 rfl k_ic0 ?_
  refine im_istore_n C 2 [(3, .int (0 : Int32)), (0, .ref (ad 1 b)), (1, .int x1), (2, .int x2)] dX5_meetsPool_1 rfl (by decide) rfl rfl ?_
  refine im_sub [1, 2, 3, 0] [(0, .ref (ad 1 b)), (1, .int x1), (2, .int x2), (3, .int (0 : Int32))] rfl ?_
  refine im_lpI (l_X5_meetsPool_2 b x1 x2 D) (fun z2 => [(0, .ref (ad 1 b)), (1, .int x1), (2, .int x2), (3, .int z2)]) (fun z2 => D) (fun z2 X_z2 hX_z2 => ?_) FU (0 : Int32)
  unfold l_X5_meetsPool_2
  refine im_iload_n C 3 3 dX5_meetsPool_2 rfl rfl rfl ?_
  refine im_iconst C 4 dX5_meetsPool_3 rfl k_ic4 ?_
  refine im_ic_ge C 43 7 dX5_meetsPool_4 rfl rfl ?_ ?_
  · refine im_iconst C 44 dX5_meetsPool_43 rfl k_ic0 ?_
    exact im_iret C rfl rfl dX5_meetsPool_44
  · refine im_iload_n C 8 3 dX5_meetsPool_7 rfl rfl rfl ?_
    refine im_aload_n C 9 0 dX5_meetsPool_8 rfl rfl rfl ?_
    refine gl_X5_40 C 12 (h0 1 (by decide) (by decide)) dX5_meetsPool_9 rfl ?_
    refine im_ic_ge C 43 15 dX5_meetsPool_12 rfl rfl ?_ ?_
    · refine im_iconst C 44 dX5_meetsPool_43 rfl k_ic0 ?_
      exact im_iret C rfl rfl dX5_meetsPool_44
    · refine im_aload_n C 16 0 dX5_meetsPool_15 rfl rfl rfl ?_
      refine gl_X5_9 C 19 (h0 1 (by decide) (by decide)) dX5_meetsPool_16 rfl ?_
      refine im_iload_n C 20 3 dX5_meetsPool_19 rfl rfl rfl ?_
      refine im_rdi C 21 4 (h0 2 (by decide) (by decide)) rfl dX5_meetsPool_20 rfl (fun v1 => ?_)
      refine im_aload_n C 22 0 dX5_meetsPool_21 rfl rfl rfl ?_
      refine gl_X5_15 C 25 (h0 1 (by decide) (by decide)) dX5_meetsPool_22 rfl ?_
      refine im_iload_n C 26 3 dX5_meetsPool_25 rfl rfl rfl ?_
      refine im_rdi C 27 4 (h0 3 (by decide) (by decide)) rfl dX5_meetsPool_26 rfl (fun v2 => ?_)
      refine im_iload_n C 28 1 dX5_meetsPool_27 rfl rfl rfl ?_
      refine im_iload_n C 29 2 dX5_meetsPool_28 rfl rfl rfl ?_
      refine im_cSNP C 32 sk_X9_meet gw_482 (c_X9_meet (x0 := v1) (x1 := v2) (x2 := x1) (x3 := x2) hU) (rle rfl) rfl (st := []) rfl (Nat.le_of_ble_eq_true rfl) dX5_meetsPool_29 rfl (fun o3 => ?_)
      refine im_if_eq C 37 35 dX5_meetsPool_32 rfl rfl ?_ ?_
      · refine im_iinc C 40 3 [(3, .int (z2 + (1 : Int32))), (0, .ref (ad 1 b)), (1, .int x1), (2, .int x2)] dX5_meetsPool_37 rfl (k_inc1) (by decide) rfl rfl ?_
        refine im_goto C 2 dX5_meetsPool_40 rfl ?_
        exact im_sub [1, 2, 3, 0] [(0, .ref (ad 1 b)), (1, .int x1), (2, .int x2), (3, .int (z2 + (1 : Int32)))] rfl (hX_z2 (z2 + (1 : Int32)))
      · refine im_iconst C 36 dX5_meetsPool_35 rfl k_ic1 ?_
        exact im_iret C rfl rfl dX5_meetsPool_36
set_option maxRecDepth 100000 in
set_option maxHeartbeats 4000000 in
theorem c_X5_putPool {l : Launch} {G : va_G} {ad : Nat → Nat → Nat} {U : List (Nat × Nat)} {D : Dt} {b : Nat} {x1 : Int32} {x2 : Int32} (hU : Uinj ad U) (h0 : SpU U b) : MV l G ad U yX5_putPool cX5_putPool 3 (k2_rm 0 0) [.ref (ad 1 b), .int x1, .int x2] D (f_X5_putPool b x1 x2 D) := by
  refine mV_of0 (lv := [(0, .ref (ad 1 b)), (1, .int x1), (2, .int x2)]) (by decide) hU rfl (Nat.le_of_ble_eq_true rfl) (fun A p e s m args below meth c C => ?_)
  have C : Cx G ad U A p s m meth c args cX5_putPool RX5 3 none := C
  unfold f_X5_putPool
  refine im_aload_n C 1 0 dX5_putPool_0 rfl rfl rfl ?_
  refine gl_X5_40 C 4 (h0 1 (by decide) (by decide)) dX5_putPool_1 rfl ?_
  refine im_if_lt C 45 7 dX5_putPool_4 rfl rfl ?_ ?_
  · exact im_vret C rfl dX5_putPool_45
  · refine im_aload_n C 8 0 dX5_putPool_7 rfl rfl rfl ?_
    refine gl_X5_40 C 11 (h0 1 (by decide) (by decide)) dX5_putPool_8 rfl ?_
    refine im_iconst C 12 dX5_putPool_11 rfl k_ic4 ?_
    refine im_ic_ge C 45 15 dX5_putPool_12 rfl rfl ?_ ?_
    · exact im_vret C rfl dX5_putPool_45
    · refine im_aload_n C 16 0 dX5_putPool_15 rfl rfl rfl ?_
      refine gl_X5_9 C 19 (h0 1 (by decide) (by decide)) dX5_putPool_16 rfl ?_
      refine im_aload_n C 20 0 dX5_putPool_19 rfl rfl rfl ?_
      refine gl_X5_40 C 23 (h0 1 (by decide) (by decide)) dX5_putPool_20 rfl ?_
      refine im_iload_n C 24 1 dX5_putPool_23 rfl rfl rfl ?_
      refine im_wri C 25 4 (h0 2 (by decide) (by decide)) (fun _ => rfl) dX5_putPool_24 rfl (fun D1 => ?_)
      refine im_aload_n C 26 0 dX5_putPool_25 rfl rfl rfl ?_
      refine gl_X5_15 C 29 (h0 1 (by decide) (by decide)) dX5_putPool_26 rfl ?_
      refine im_aload_n C 30 0 dX5_putPool_29 rfl rfl rfl ?_
      refine gl_X5_40 C 33 (h0 1 (by decide) (by decide)) dX5_putPool_30 rfl ?_
      refine im_iload_n C 34 2 dX5_putPool_33 rfl rfl rfl ?_
      refine im_wri C 35 4 (h0 3 (by decide) (by decide)) (fun _ => rfl) dX5_putPool_34 rfl (fun D2 => ?_)
      refine im_aload_n C 36 0 dX5_putPool_35 rfl rfl rfl ?_
      refine im_dup C 37 dX5_putPool_36 rfl rfl ?_
      refine gl_X5_40 C 40 (h0 1 (by decide) (by decide)) dX5_putPool_37 rfl ?_
      refine im_iconst C 41 dX5_putPool_40 rfl k_ic1 ?_
      refine im_iadd C 42 dX5_putPool_41 rfl ?_
      refine pl_X5_40 C 45 (h0 1 (by decide) (by decide)) dX5_putPool_42 rfl (fun D3 => ?_)
      exact im_vret C rfl dX5_putPool_45
set_option maxRecDepth 100000 in
set_option maxHeartbeats 4000000 in
theorem c_X9_isNetwork {l : Launch} {G : va_G} {ad : Nat → Nat → Nat} {U : List (Nat × Nat)} {D : Dt} {x0 : Int32} (hU : Uinj ad U) : MI l G ad U yX9_isNetwork cX9_isNetwork 1 .boolean (k2_rm 0 0) [.int x0] D ((f_X9_isNetwork x0 D).bind (fun r => some (r, D))) := by
  refine mI_of (lv := [(0, .int x0)]) (by decide) hU rfl (Nat.le_of_ble_eq_true rfl) (fun A p e s m args below meth c C => ?_)
  have C : Cx G ad U A p s m meth c args cX9_isNetwork RX9 1 (some .boolean) := C
  unfold f_X9_isNetwork
  refine im_iload_n C 1 0 dX9_isNetwork_0 rfl rfl rfl ?_
  refine im_if_lt C 14 4 dX9_isNetwork_1 rfl rfl ?_ ?_
  · refine im_iconst C 15 dX9_isNetwork_14 rfl k_ic0 ?_
    exact im_iret C rfl rfl dX9_isNetwork_15
  · refine im_iload_n C 5 0 dX9_isNetwork_4 rfl rfl rfl ?_
    refine im_bipush C 7 dX9_isNetwork_5 rfl k_bp12 ?_
    refine im_ic_ge C 14 10 dX9_isNetwork_7 rfl rfl ?_ ?_
    · refine im_iconst C 15 dX9_isNetwork_14 rfl k_ic0 ?_
      exact im_iret C rfl rfl dX9_isNetwork_15
    · refine im_iconst C 11 dX9_isNetwork_10 rfl k_ic1 ?_
      refine im_goto C 15 dX9_isNetwork_11 rfl ?_
      exact im_iret C rfl rfl dX9_isNetwork_15
set_option maxRecDepth 100000 in
set_option maxHeartbeats 4000000 in
theorem c_X5_hasBlock {l : Launch} {G : va_G} {ad : Nat → Nat → Nat} {U : List (Nat × Nat)} {D : Dt} {b : Nat} {x1 : Int32} (hU : Uinj ad U) (h0 : SpU U b) : MI l G ad U yX5_hasBlock cX5_hasBlock 2 .boolean (k2_rm 1 20) [.ref (ad 1 b), .int x1] D ((f_X5_hasBlock b x1 D).bind (fun r => some (r, D))) := by
  refine mI_of (lv := [(0, .ref (ad 1 b)), (1, .int x1)]) (by decide) hU rfl (Nat.le_of_ble_eq_true rfl) (fun A p e s m args below meth c C => ?_)
  have C : Cx G ad U A p s m meth c args cX5_hasBlock RX5 2 (some .boolean) := C
  unfold f_X5_hasBlock
  refine im_iload_n C 1 1 dX5_hasBlock_0 rfl rfl rfl ?_
  refine im_cSNP C 4 sk_X9_isNetwork gw_504 (c_X9_isNetwork (x0 := x1) hU) (rle rfl) rfl (st := []) rfl (Nat.le_of_ble_eq_true rfl) dX5_hasBlock_1 rfl (fun o1 => ?_)
  refine im_if_eq C 21 7 dX5_hasBlock_4 rfl rfl ?_ ?_
  · refine im_iconst C 22 dX5_hasBlock_21 rfl k_ic0 ?_
    exact im_iret C rfl rfl dX5_hasBlock_22
  · refine im_aload_n C 8 0 dX5_hasBlock_7 rfl rfl rfl ?_
    refine gl_X5_18 C 11 (h0 1 (by decide) (by decide)) dX5_hasBlock_8 rfl ?_
    refine im_iload_n C 12 1 dX5_hasBlock_11 rfl rfl rfl ?_
    refine im_rdi C 13 12 (h0 4 (by decide) (by decide)) rfl dX5_hasBlock_12 rfl (fun v2 => ?_)
    refine im_iconst C 14 dX5_hasBlock_13 rfl k_icm1 ?_
    refine im_ic_eq C 21 17 dX5_hasBlock_14 rfl rfl ?_ ?_
    · refine im_iconst C 22 dX5_hasBlock_21 rfl k_ic0 ?_
      exact im_iret C rfl rfl dX5_hasBlock_22
    · refine im_iconst C 18 dX5_hasBlock_17 rfl k_ic1 ?_
      refine im_goto C 22 dX5_hasBlock_18 rfl ?_
      exact im_iret C rfl rfl dX5_hasBlock_22
set_option maxRecDepth 100000 in
set_option maxHeartbeats 4000000 in
theorem c_X7_insertUsed {l : Launch} {G : va_G} {ad : Nat → Nat → Nat} {U : List (Nat × Nat)} {D : Dt} {b : Nat} {x1 : Int32} {x2 : Int32} (hU : Uinj ad U) (h0 : SuU U b) : MV l G ad U yX7_insertUsed cX7_insertUsed 4 (k2_rm 1 20) [.ref (ad 16 b), .int x1, .int x2] D (f_X7_insertUsed b x1 x2 D) := by
  refine mV_of0 (lv := [(0, .ref (ad 16 b)), (1, .int x1), (2, .int x2)]) (by decide) hU rfl (Nat.le_of_ble_eq_true rfl) (fun A p e s m args below meth c C => ?_)
  have C : Cx G ad U A p s m meth c args cX7_insertUsed RX7 4 none := C
  unfold f_X7_insertUsed
  refine im_aload_n C 1 0 dX7_insertUsed_0 rfl rfl rfl ?_
  refine gl_X7_62 C 4 (h0.1 16 (by decide) (by decide)) dX7_insertUsed_1 rfl ?_
  refine im_if_lt C 16 7 dX7_insertUsed_4 rfl rfl ?_ ?_
  · exact im_vret C rfl dX7_insertUsed_16
  · refine im_aload_n C 8 0 dX7_insertUsed_7 rfl rfl rfl ?_
    refine gl_X7_62 C 11 (h0.1 16 (by decide) (by decide)) dX7_insertUsed_8 rfl ?_
    refine im_bipush C 13 dX7_insertUsed_11 rfl k_bp24 ?_
    refine im_ic_lt C 17 16 dX7_insertUsed_13 rfl rfl ?_ ?_
    · refine im_aload_n C 18 0 dX7_insertUsed_17 rfl rfl rfl ?_
      refine gl_X7_62 C 21 (h0.1 16 (by decide) (by decide)) dX7_insertUsed_18 rfl ?_
      refine im_istore_n C 22 [(3, .int (D 16 b 2)), (0, .ref (ad 16 b)), (1, .int x1), (2, .int x2)] dX7_insertUsed_21 rfl (by decide) rfl rfl ?_
      refine im_sub [1, 2, 3, 0] [(0, .ref (ad 16 b)), (1, .int x1), (2, .int x2), (3, .int (D 16 b 2))] rfl ?_
      refine im_lpB (l_X7_insertUsed_22 b x1) (fun z22 => [(0, .ref (ad 16 b)), (1, .int x1), (2, .int x2), (3, .int z22.1)]) (fun z22 => z22.2) 72 (fun e1 => [(0, .ref (ad 16 b)), (1, .int x1), (2, .int x2), (3, .int e1.1)]) (fun e1 => e1.2) (fun e1 => ?_) (fun z22 X_z22 hX_z22 hE_z22 => ?_) FU (D 16 b 2, D)
      · refine im_aload_n C 73 0 dX7_insertUsed_72 rfl rfl rfl ?_
        refine gl_X7_9 C 76 (h0.1 16 (by decide) (by decide)) dX7_insertUsed_73 rfl ?_
        refine im_iload_n C 77 3 dX7_insertUsed_76 rfl rfl rfl ?_
        refine im_iload_n C 78 1 dX7_insertUsed_77 rfl rfl rfl ?_
        refine im_wri C 79 24 (h0.1 17 (by decide) (by decide)) (fun _ => rfl) dX7_insertUsed_78 rfl (fun D7 => ?_)
        refine im_aload_n C 80 0 dX7_insertUsed_79 rfl rfl rfl ?_
        refine gl_X7_15 C 83 (h0.1 16 (by decide) (by decide)) dX7_insertUsed_80 rfl ?_
        refine im_iload_n C 84 3 dX7_insertUsed_83 rfl rfl rfl ?_
        refine im_iload_n C 85 1 dX7_insertUsed_84 rfl rfl rfl ?_
        refine im_iload_n C 86 2 dX7_insertUsed_85 rfl rfl rfl ?_
        refine im_cSNP C 89 sk_X9_sizeOf gw_524 (c_X9_sizeOf (x0 := x2) hU) (rle rfl) rfl (st := [.int x1, .int e1.1, .ref (ad 18 b)]) rfl (Nat.le_of_ble_eq_true rfl) dX7_insertUsed_86 rfl (fun o8 => ?_)
        refine im_iadd C 90 dX7_insertUsed_89 rfl ?_
        refine im_wri C 91 24 (h0.1 18 (by decide) (by decide)) (fun _ => rfl) dX7_insertUsed_90 rfl (fun D9 => ?_)
        refine im_aload_n C 92 0 dX7_insertUsed_91 rfl rfl rfl ?_
        refine im_dup C 93 dX7_insertUsed_92 rfl rfl ?_
        refine gl_X7_62 C 96 (h0.1 16 (by decide) (by decide)) dX7_insertUsed_93 rfl ?_
        refine im_iconst C 97 dX7_insertUsed_96 rfl k_ic1 ?_
        refine im_iadd C 98 dX7_insertUsed_97 rfl ?_
        refine pl_X7_62 C 101 (h0.1 16 (by decide) (by decide)) dX7_insertUsed_98 rfl (fun D10 => ?_)
        exact im_vret C rfl dX7_insertUsed_101
      · unfold l_X7_insertUsed_22
        refine im_iload_n C 23 3 dX7_insertUsed_22 rfl rfl rfl ?_
        refine im_if_le C 72 26 dX7_insertUsed_23 rfl rfl ?_ ?_
        · exact hE_z22 (z22.1, z22.2)
        · refine im_aload_n C 27 0 dX7_insertUsed_26 rfl rfl rfl ?_
          refine gl_X7_9 C 30 (h0.1 16 (by decide) (by decide)) dX7_insertUsed_27 rfl ?_
          refine im_iload_n C 31 3 dX7_insertUsed_30 rfl rfl rfl ?_
          refine im_iconst C 32 dX7_insertUsed_31 rfl k_ic1 ?_
          refine im_isub C 33 dX7_insertUsed_32 rfl ?_
          refine im_rdi C 34 24 (h0.1 17 (by decide) (by decide)) rfl dX7_insertUsed_33 rfl (fun v2 => ?_)
          refine im_iload_n C 35 1 dX7_insertUsed_34 rfl rfl rfl ?_
          refine im_ic_le C 72 38 dX7_insertUsed_35 rfl rfl ?_ ?_
          · exact hE_z22 (z22.1, z22.2)
          · refine im_aload_n C 39 0 dX7_insertUsed_38 rfl rfl rfl ?_
            refine gl_X7_9 C 42 (h0.1 16 (by decide) (by decide)) dX7_insertUsed_39 rfl ?_
            refine im_iload_n C 43 3 dX7_insertUsed_42 rfl rfl rfl ?_
            refine im_aload_n C 44 0 dX7_insertUsed_43 rfl rfl rfl ?_
            refine gl_X7_9 C 47 (h0.1 16 (by decide) (by decide)) dX7_insertUsed_44 rfl ?_
            refine im_iload_n C 48 3 dX7_insertUsed_47 rfl rfl rfl ?_
            refine im_iconst C 49 dX7_insertUsed_48 rfl k_ic1 ?_
            refine im_isub C 50 dX7_insertUsed_49 rfl ?_
            refine im_rdi C 51 24 (h0.1 17 (by decide) (by decide)) rfl dX7_insertUsed_50 rfl (fun v3 => ?_)
            refine im_wri C 52 24 (h0.1 17 (by decide) (by decide)) (fun _ => rfl) dX7_insertUsed_51 rfl (fun D4 => ?_)
            refine im_aload_n C 53 0 dX7_insertUsed_52 rfl rfl rfl ?_
            refine gl_X7_15 C 56 (h0.1 16 (by decide) (by decide)) dX7_insertUsed_53 rfl ?_
            refine im_iload_n C 57 3 dX7_insertUsed_56 rfl rfl rfl ?_
            refine im_aload_n C 58 0 dX7_insertUsed_57 rfl rfl rfl ?_
            refine gl_X7_15 C 61 (h0.1 16 (by decide) (by decide)) dX7_insertUsed_58 rfl ?_
            refine im_iload_n C 62 3 dX7_insertUsed_61 rfl rfl rfl ?_
            refine im_iconst C 63 dX7_insertUsed_62 rfl k_ic1 ?_
            refine im_isub C 64 dX7_insertUsed_63 rfl ?_
            refine im_rdi C 65 24 (h0.1 18 (by decide) (by decide)) rfl dX7_insertUsed_64 rfl (fun v5 => ?_)
            refine im_wri C 66 24 (h0.1 18 (by decide) (by decide)) (fun _ => rfl) dX7_insertUsed_65 rfl (fun D6 => ?_)
            refine im_iinc C 69 3 [(3, .int (z22.1 + (-1 : Int32))), (0, .ref (ad 16 b)), (1, .int x1), (2, .int x2)] dX7_insertUsed_66 rfl (k_incm1) (by decide) rfl rfl ?_
            refine im_goto C 22 dX7_insertUsed_69 rfl ?_
            exact im_sub [1, 2, 3, 0] [(0, .ref (ad 16 b)), (1, .int x1), (2, .int x2), (3, .int (z22.1 + (-1 : Int32)))] rfl (hX_z22 (z22.1 + (-1 : Int32), D6))
    · exact im_vret C rfl dX7_insertUsed_16
set_option maxRecDepth 100000 in
set_option maxHeartbeats 4000000 in
theorem c_X5_hasOld {l : Launch} {G : va_G} {ad : Nat → Nat → Nat} {U : List (Nat × Nat)} {D : Dt} {b : Nat} {x1 : Int32} (hU : Uinj ad U) (h0 : SpU U b) : MI l G ad U yX5_hasOld cX5_hasOld 2 .boolean (k2_rm 1 20) [.ref (ad 1 b), .int x1] D ((f_X5_hasOld b x1 D).bind (fun r => some (r, D))) := by
  refine mI_of (lv := [(0, .ref (ad 1 b)), (1, .int x1)]) (by decide) hU rfl (Nat.le_of_ble_eq_true rfl) (fun A p e s m args below meth c C => ?_)
  have C : Cx G ad U A p s m meth c args cX5_hasOld RX5 2 (some .boolean) := C
  unfold f_X5_hasOld
  refine im_iload_n C 1 1 dX5_hasOld_0 rfl rfl rfl ?_
  refine im_cSNP C 4 sk_X9_isNetwork gw_504 (c_X9_isNetwork (x0 := x1) hU) (rle rfl) rfl (st := []) rfl (Nat.le_of_ble_eq_true rfl) dX5_hasOld_1 rfl (fun o1 => ?_)
  refine im_if_eq C 21 7 dX5_hasOld_4 rfl rfl ?_ ?_
  · refine im_iconst C 22 dX5_hasOld_21 rfl k_ic0 ?_
    exact im_iret C rfl rfl dX5_hasOld_22
  · refine im_aload_n C 8 0 dX5_hasOld_7 rfl rfl rfl ?_
    refine gl_X5_24 C 11 (h0 1 (by decide) (by decide)) dX5_hasOld_8 rfl ?_
    refine im_iload_n C 12 1 dX5_hasOld_11 rfl rfl rfl ?_
    refine im_rdi C 13 12 (h0 6 (by decide) (by decide)) rfl dX5_hasOld_12 rfl (fun v2 => ?_)
    refine im_iconst C 14 dX5_hasOld_13 rfl k_icm1 ?_
    refine im_ic_eq C 21 17 dX5_hasOld_14 rfl rfl ?_ ?_
    · refine im_iconst C 22 dX5_hasOld_21 rfl k_ic0 ?_
      exact im_iret C rfl rfl dX5_hasOld_22
    · refine im_iconst C 18 dX5_hasOld_17 rfl k_ic1 ?_
      refine im_goto C 22 dX5_hasOld_18 rfl ?_
      exact im_iret C rfl rfl dX5_hasOld_22
set_option maxRecDepth 100000 in
set_option maxHeartbeats 4000000 in
theorem c_X7_listUsed {l : Launch} {G : va_G} {ad : Nat → Nat → Nat} {U : List (Nat × Nat)} {D : Dt} {b : Nat} {b1 : Nat} (hU : Uinj ad U) (h0 : SuU U b) (h1 : SpU U b1) : MV l G ad U yX7_listUsed cX7_listUsed 3 (k2_rm 2 43) [.ref (ad 16 b), .ref (ad 1 b1)] D (f_X7_listUsed b b1 D) := by
  refine mV_of0 (lv := [(0, .ref (ad 16 b)), (1, .ref (ad 1 b1))]) (by decide) hU rfl (Nat.le_of_ble_eq_true rfl) (fun A p e s m args below meth c C => ?_)
  have C : Cx G ad U A p s m meth c args cX7_listUsed RX7 3 none := C
  unfold f_X7_listUsed
  refine im_aload_n C 1 0 dX7_listUsed_0 rfl rfl rfl ?_
  refine im_iconst C 2 dX7_listUsed_1 rfl k_ic0 ?_
  refine pl_X7_62 C 5 (h0.1 16 (by decide) (by decide)) dX7_listUsed_2 rfl (fun D1 => ?_)
  refine im_iconst C 6 dX7_listUsed_5 rfl k_ic0 ?_
  refine im_istore_n C 7 [(2, .int (0 : Int32)), (0, .ref (ad 16 b)), (1, .ref (ad 1 b1))] dX7_listUsed_6 rfl (by decide) rfl rfl ?_
  refine im_sub [1, 2, 0] [(0, .ref (ad 16 b)), (1, .ref (ad 1 b1)), (2, .int (0 : Int32))] rfl ?_
  refine im_lpB (l_X7_listUsed_7 b b1) (fun z7 => [(0, .ref (ad 16 b)), (1, .ref (ad 1 b1)), (2, .int z7.1)]) (fun z7 => z7.2) 67 (fun e2 => []) (fun e2 => e2) (fun e2 => ?_) (fun z7 X_z7 hX_z7 hE_z7 => ?_) FU ((0 : Int32), D1)
  · exact im_vret C rfl dX7_listUsed_67
  · unfold l_X7_listUsed_7
    refine im_iload_n C 8 2 dX7_listUsed_7 rfl rfl rfl ?_
    refine im_bipush C 10 dX7_listUsed_8 rfl k_bp12 ?_
    refine im_ic_ge C 67 13 dX7_listUsed_10 rfl rfl ?_ ?_
    · exact im_sub [] [] rfl (hE_z7 z7.2)
    · refine im_aload_n C 14 1 dX7_listUsed_13 rfl rfl rfl ?_
      refine im_iload_n C 15 2 dX7_listUsed_14 rfl rfl rfl ?_
      refine im_cVP C 18 vk_X5_hasBlock gw_519 (c_X5_hasBlock (b := b1) (x1 := z7.1) hU h1) (h1 1 (by decide) (by decide)) rfl rfl (rle rfl) rfl (st := []) rfl (Nat.le_of_ble_eq_true rfl) dX7_listUsed_15 rfl (fun o3 => ?_)
      refine im_jn 37 (fun t4 => [(0, .ref (ad 16 b)), (1, .ref (ad 1 b1)), (2, .int z7.1)]) (fun t4 => []) (fun t4 => t4) (fun t4 => j_X7_listUsed_37_t4 b b1 z7 t4) (fun t4 => ?_) (fun ht4 => ?_)
      · unfold j_X7_listUsed_37_t4
        refine im_aload_n C 38 1 dX7_listUsed_37 rfl rfl rfl ?_
        refine im_iload_n C 39 2 dX7_listUsed_38 rfl rfl rfl ?_
        refine im_cVP C 42 vk_X5_hasOld gw_525 (c_X5_hasOld (b := b1) (x1 := z7.1) hU h1) (h1 1 (by decide) (by decide)) rfl rfl (rle rfl) rfl (st := []) rfl (Nat.le_of_ble_eq_true rfl) dX7_listUsed_39 rfl (fun o5 => ?_)
        refine im_if_eq C 61 45 dX7_listUsed_42 rfl rfl ?_ ?_
        · refine im_iinc C 64 2 [(2, .int (z7.1 + (1 : Int32))), (0, .ref (ad 16 b)), (1, .ref (ad 1 b1))] dX7_listUsed_61 rfl (k_inc1) (by decide) rfl rfl ?_
          refine im_goto C 7 dX7_listUsed_64 rfl ?_
          exact im_sub [1, 2, 0] [(0, .ref (ad 16 b)), (1, .ref (ad 1 b1)), (2, .int (z7.1 + (1 : Int32)))] rfl (hX_z7 (z7.1 + (1 : Int32), t4))
        · refine im_aload_n C 46 0 dX7_listUsed_45 rfl rfl rfl ?_
          refine im_aload_n C 47 1 dX7_listUsed_46 rfl rfl rfl ?_
          refine gl_X7_84 C 50 (h1 1 (by decide) (by decide)) dX7_listUsed_47 rfl ?_
          refine im_iload_n C 51 2 dX7_listUsed_50 rfl rfl rfl ?_
          refine im_rdi C 52 12 (h1 6 (by decide) (by decide)) rfl dX7_listUsed_51 rfl (fun v6 => ?_)
          refine im_aload_n C 53 1 dX7_listUsed_52 rfl rfl rfl ?_
          refine gl_X7_87 C 56 (h1 1 (by decide) (by decide)) dX7_listUsed_53 rfl ?_
          refine im_iload_n C 57 2 dX7_listUsed_56 rfl rfl rfl ?_
          refine im_rdi C 58 12 (h1 7 (by decide) (by decide)) rfl dX7_listUsed_57 rfl (fun v7 => ?_)
          refine im_cVV C 61 vk_X7_insertUsed gw_520 (c_X7_insertUsed (b := b) (x1 := v6) (x2 := v7) hU h0) (h0.1 16 (by decide) (by decide)) rfl rfl (rle rfl) rfl (st := []) rfl (Nat.le_of_ble_eq_true rfl) dX7_listUsed_58 rfl (fun D8 => ?_)
          refine im_iinc C 64 2 [(2, .int (z7.1 + (1 : Int32))), (0, .ref (ad 16 b)), (1, .ref (ad 1 b1))] dX7_listUsed_61 rfl (k_inc1) (by decide) rfl rfl ?_
          refine im_goto C 7 dX7_listUsed_64 rfl ?_
          exact im_sub [1, 2, 0] [(0, .ref (ad 16 b)), (1, .ref (ad 1 b1)), (2, .int (z7.1 + (1 : Int32)))] rfl (hX_z7 (z7.1 + (1 : Int32), D8))
      · refine im_if_eq C 37 21 dX7_listUsed_18 rfl rfl ?_ ?_
        · exact ht4 z7.2
        · refine im_aload_n C 22 0 dX7_listUsed_21 rfl rfl rfl ?_
          refine im_aload_n C 23 1 dX7_listUsed_22 rfl rfl rfl ?_
          refine gl_X7_72 C 26 (h1 1 (by decide) (by decide)) dX7_listUsed_23 rfl ?_
          refine im_iload_n C 27 2 dX7_listUsed_26 rfl rfl rfl ?_
          refine im_rdi C 28 12 (h1 4 (by decide) (by decide)) rfl dX7_listUsed_27 rfl (fun v9 => ?_)
          refine im_aload_n C 29 1 dX7_listUsed_28 rfl rfl rfl ?_
          refine gl_X7_75 C 32 (h1 1 (by decide) (by decide)) dX7_listUsed_29 rfl ?_
          refine im_iload_n C 33 2 dX7_listUsed_32 rfl rfl rfl ?_
          refine im_rdi C 34 12 (h1 5 (by decide) (by decide)) rfl dX7_listUsed_33 rfl (fun v10 => ?_)
          refine im_cVV C 37 vk_X7_insertUsed gw_520 (c_X7_insertUsed (b := b) (x1 := v9) (x2 := v10) hU h0) (h0.1 16 (by decide) (by decide)) rfl rfl (rle rfl) rfl (st := []) rfl (Nat.le_of_ble_eq_true rfl) dX7_listUsed_34 rfl (fun D11 => ?_)
          exact ht4 D11
set_option maxRecDepth 100000 in
set_option maxHeartbeats 4000000 in
theorem c_X0_addStretch {l : Launch} {G : va_G} {ad : Nat → Nat → Nat} {U : List (Nat × Nat)} {D : Dt} {b : Nat} {x1 : Int32} {x2 : Int32} (hU : Uinj ad U) (h0 : BlU U b) : MV l G ad U yX0_addStretch cX0_addStretch 6 (k2_rm 0 0) [.ref (ad 19 b), .int x1, .int x2] D (f_X0_addStretch b x1 x2 D) := by
  refine mV_of0 (lv := [(0, .ref (ad 19 b)), (1, .int x1), (2, .int x2)]) (by decide) hU rfl (Nat.le_of_ble_eq_true rfl) (fun A p e s m args below meth c C => ?_)
  have C : Cx G ad U A p s m meth c args cX0_addStretch RX0 6 none := C
  unfold f_X0_addStretch
  refine im_iload_n C 1 1 dX0_addStretch_0 rfl rfl rfl ?_
  refine im_istore_n C 2 [(3, .int x1), (0, .ref (ad 19 b)), (1, .int x1), (2, .int x2)] dX0_addStretch_1 rfl (by decide) rfl rfl ?_
  refine im_sub [1, 3, 0] [(0, .ref (ad 19 b)), (2, .int x2), (3, .int x1)] rfl ?_
  refine im_lpB (l_X0_addStretch_2 b x2) (fun z2 => [(0, .ref (ad 19 b)), (2, .int x2), (3, .int z2.1)]) (fun z2 => z2.2) 104 (fun e1 => []) (fun e1 => e1) (fun e1 => ?_) (fun z2 X_z2 hX_z2 hE_z2 => ?_) FU (x1, D)
  · exact im_vret C rfl dX0_addStretch_104
  · unfold l_X0_addStretch_2
    refine im_iload_n C 3 2 dX0_addStretch_2 rfl rfl rfl ?_
    refine im_iload_n C 4 1 dX0_addStretch_3 rfl rfl rfl ?_
    refine im_ic_ge C 104 7 dX0_addStretch_4 rfl rfl ?_ ?_
    · exact im_sub [] [] rfl (hE_z2 z2.2)
    · refine im_aload_n C 8 0 dX0_addStretch_7 rfl rfl rfl ?_
      refine gl_X0_18 C 11 (h0 19 (by decide) (by decide)) dX0_addStretch_8 rfl ?_
      refine im_if_lt C 104 14 dX0_addStretch_11 rfl rfl ?_ ?_
      · exact im_sub [] [] rfl (hE_z2 z2.2)
      · refine im_aload_n C 15 0 dX0_addStretch_14 rfl rfl rfl ?_
        refine gl_X0_18 C 18 (h0 19 (by decide) (by decide)) dX0_addStretch_15 rfl ?_
        refine im_sipush C 21 dX0_addStretch_18 rfl k_sp292 ?_
        refine im_ic_ge C 104 24 dX0_addStretch_21 rfl rfl ?_ ?_
        · exact im_sub [] [] rfl (hE_z2 z2.2)
        · refine im_iconst C 25 dX0_addStretch_24 rfl k_ic1 ?_
          refine im_istore C 27 [(4, .int (1 : Int32)), (0, .ref (ad 19 b)), (2, .int x2), (3, .int z2.1)] dX0_addStretch_25 (by decide) rfl rfl ?_
          refine im_bipush C 29 dX0_addStretch_27 rfl k_bp16 ?_
          refine im_istore C 31 [(5, .int (16 : Int32)), (4, .int (1 : Int32)), (0, .ref (ad 19 b)), (2, .int x2), (3, .int z2.1)] dX0_addStretch_29 (by decide) rfl rfl ?_
          refine im_sub [2, 3, 4, 1, 0] [(0, .ref (ad 19 b)), (2, .int x2), (3, .int z2.1), (4, .int (1 : Int32)), (5, .int (16 : Int32))] rfl ?_
          refine im_lpB (l_X0_addStretch_31 x2 z2) (fun z31 => [(0, .ref (ad 19 b)), (2, .int x2), (3, .int z2.1), (4, .int z31.1), (5, .int z31.2)]) (fun z31 => z2.2) 65 (fun e2 => [(0, .ref (ad 19 b)), (2, .int x2), (3, .int z2.1), (4, .int e2.1), (5, .int e2.2)]) (fun e2 => z2.2) (fun e2 => ?_) (fun z31 X_z31 hX_z31 hE_z31 => ?_) FU ((1 : Int32), (16 : Int32))
          · refine im_aload_n C 66 0 dX0_addStretch_65 rfl rfl rfl ?_
            refine gl_X0_9 C 69 (h0 19 (by decide) (by decide)) dX0_addStretch_66 rfl ?_
            refine im_aload_n C 70 0 dX0_addStretch_69 rfl rfl rfl ?_
            refine gl_X0_18 C 73 (h0 19 (by decide) (by decide)) dX0_addStretch_70 rfl ?_
            refine im_iload_n C 74 2 dX0_addStretch_73 rfl rfl rfl ?_
            refine im_wri C 75 292 (h0 20 (by decide) (by decide)) (fun _ => rfl) dX0_addStretch_74 rfl (fun D3 => ?_)
            refine im_aload_n C 76 0 dX0_addStretch_75 rfl rfl rfl ?_
            refine gl_X0_15 C 79 (h0 19 (by decide) (by decide)) dX0_addStretch_76 rfl ?_
            refine im_aload_n C 80 0 dX0_addStretch_79 rfl rfl rfl ?_
            refine gl_X0_18 C 83 (h0 19 (by decide) (by decide)) dX0_addStretch_80 rfl ?_
            refine im_iload C 85 4 dX0_addStretch_83 rfl rfl ?_
            refine im_wri C 86 292 (h0 21 (by decide) (by decide)) (fun _ => rfl) dX0_addStretch_85 rfl (fun D4 => ?_)
            refine im_aload_n C 87 0 dX0_addStretch_86 rfl rfl rfl ?_
            refine im_dup C 88 dX0_addStretch_87 rfl rfl ?_
            refine gl_X0_18 C 91 (h0 19 (by decide) (by decide)) dX0_addStretch_88 rfl ?_
            refine im_iconst C 92 dX0_addStretch_91 rfl k_ic1 ?_
            refine im_iadd C 93 dX0_addStretch_92 rfl ?_
            refine pl_X0_18 C 96 (h0 19 (by decide) (by decide)) dX0_addStretch_93 rfl (fun D5 => ?_)
            refine im_iload_n C 97 2 dX0_addStretch_96 rfl rfl rfl ?_
            refine im_iload C 99 3 dX0_addStretch_97 rfl rfl ?_
            refine im_iadd C 100 dX0_addStretch_99 rfl ?_
            refine im_istore_n C 101 [(3, .int (z2.1 + e2.1)), (0, .ref (ad 19 b)), (2, .int x2), (4, .int e2.1), (5, .int e2.2)] dX0_addStretch_100 rfl (by decide) rfl rfl ?_
            refine im_goto C 2 dX0_addStretch_101 rfl ?_
            exact im_sub [1, 2, 0] [(0, .ref (ad 19 b)), (2, .int x2), (3, .int (z2.1 + e2.1))] rfl (hX_z2 (z2.1 + e2.1, D5))
          · unfold l_X0_addStretch_31
            refine im_iload C 33 4 dX0_addStretch_31 rfl rfl ?_
            refine im_if_le C 65 36 dX0_addStretch_33 rfl rfl ?_ ?_
            · exact hE_z31 (z31.1, z31.2)
            · refine im_iload_n C 37 2 dX0_addStretch_36 rfl rfl rfl ?_
              refine im_iload C 39 3 dX0_addStretch_37 rfl rfl ?_
              refine im_iand C 40 dX0_addStretch_39 rfl ?_
              refine im_if_ne C 65 43 dX0_addStretch_40 rfl rfl ?_ ?_
              · exact hE_z31 (z31.1, z31.2)
              · refine im_iload_n C 44 2 dX0_addStretch_43 rfl rfl rfl ?_
                refine im_iconst C 45 dX0_addStretch_44 rfl k_ic2 ?_
                refine im_iload C 47 3 dX0_addStretch_45 rfl rfl ?_
                refine im_imul C 48 dX0_addStretch_47 rfl ?_
                refine im_iadd C 49 dX0_addStretch_48 rfl ?_
                refine im_iload_n C 50 1 dX0_addStretch_49 rfl rfl rfl ?_
                refine im_ic_gt C 65 53 dX0_addStretch_50 rfl rfl ?_ ?_
                · exact hE_z31 (z31.1, z31.2)
                · refine im_iload C 55 3 dX0_addStretch_53 rfl rfl ?_
                  refine im_iconst C 56 dX0_addStretch_55 rfl k_ic2 ?_
                  refine im_imul C 57 dX0_addStretch_56 rfl ?_
                  refine im_istore C 59 [(4, .int (z31.1 * (2 : Int32))), (0, .ref (ad 19 b)), (2, .int x2), (3, .int z2.1), (5, .int z31.2)] dX0_addStretch_57 (by decide) rfl rfl ?_
                  refine im_iinc C 62 4 [(5, .int (z31.2 + (-1 : Int32))), (4, .int (z31.1 * (2 : Int32))), (0, .ref (ad 19 b)), (2, .int x2), (3, .int z2.1)] dX0_addStretch_59 rfl (k_incm1) (by decide) rfl rfl ?_
                  refine im_goto C 31 dX0_addStretch_62 rfl ?_
                  exact im_sub [2, 3, 4, 1, 0] [(0, .ref (ad 19 b)), (2, .int x2), (3, .int z2.1), (4, .int (z31.1 * (2 : Int32))), (5, .int (z31.2 + (-1 : Int32)))] rfl (hX_z31 (z31.1 * (2 : Int32), z31.2 + (-1 : Int32)))
set_option maxRecDepth 100000 in
set_option maxHeartbeats 4000000 in
theorem c_X7_listFree {l : Launch} {G : va_G} {ad : Nat → Nat → Nat} {U : List (Nat × Nat)} {D : Dt} {b : Nat} {x1 : Int32} {x2 : Int32} (hU : Uinj ad U) (h0 : SuU U b) : MV l G ad U yX7_listFree cX7_listFree 5 (k2_rm 1 25) [.ref (ad 16 b), .int x1, .int x2] D (f_X7_listFree b x1 x2 D) := by
  refine mV_of0 (lv := [(0, .ref (ad 16 b)), (1, .int x1), (2, .int x2)]) (by decide) hU rfl (Nat.le_of_ble_eq_true rfl) (fun A p e s m args below meth c C => ?_)
  have C : Cx G ad U A p s m meth c args cX7_listFree RX7 5 none := C
  unfold f_X7_listFree
  refine im_iload_n C 1 1 dX7_listFree_0 rfl rfl rfl ?_
  refine im_istore_n C 2 [(3, .int x1), (0, .ref (ad 16 b)), (1, .int x1), (2, .int x2)] dX7_listFree_1 rfl (by decide) rfl rfl ?_
  refine im_iconst C 3 dX7_listFree_2 rfl k_ic0 ?_
  refine im_istore C 5 [(4, .int (0 : Int32)), (3, .int x1), (0, .ref (ad 16 b)), (1, .int x1), (2, .int x2)] dX7_listFree_3 (by decide) rfl rfl ?_
  refine im_sub [2, 3, 4, 1, 0] [(0, .ref (ad 16 b)), (1, .int x1), (2, .int x2), (3, .int x1), (4, .int (0 : Int32))] rfl ?_
  refine im_lpB (l_X7_listFree_5 b x1 x2) (fun z5 => [(0, .ref (ad 16 b)), (1, .int x1), (2, .int x2), (3, .int z5.1), (4, .int z5.2.1)]) (fun z5 => z5.2.2) 67 (fun e1 => [(0, .ref (ad 16 b)), (2, .int x2), (3, .int e1.1)]) (fun e1 => e1.2) (fun e1 => ?_) (fun z5 X_z5 hX_z5 hE_z5 => ?_) FU (x1, (0 : Int32), D)
  · refine im_aload_n C 68 0 dX7_listFree_67 rfl rfl rfl ?_
    refine gl_X7_21 C 71 (h0.1 16 (by decide) (by decide)) dX7_listFree_68 rfl ?_
    refine im_iload_n C 72 2 dX7_listFree_71 rfl rfl rfl ?_
    refine im_iload_n C 73 1 dX7_listFree_72 rfl rfl rfl ?_
    refine im_cVV C 76 vk_X0_addStretch gw_534 (c_X0_addStretch (b := b) (x1 := e1.1) (x2 := x2) hU h0.2) (h0.2 19 (by decide) (by decide)) rfl rfl (rle rfl) rfl (st := []) rfl (Nat.le_of_ble_eq_true rfl) dX7_listFree_73 rfl (fun D7 => ?_)
    exact im_vret C rfl dX7_listFree_76
  · unfold l_X7_listFree_5
    refine im_iload C 7 4 dX7_listFree_5 rfl rfl ?_
    refine im_bipush C 9 dX7_listFree_7 rfl k_bp24 ?_
    refine im_ic_ge C 67 12 dX7_listFree_9 rfl rfl ?_ ?_
    · exact im_sub [0, 2, 3] [(0, .ref (ad 16 b)), (2, .int x2), (3, .int z5.1)] rfl (hE_z5 (z5.1, z5.2.2))
    · refine im_iload C 14 4 dX7_listFree_12 rfl rfl ?_
      refine im_aload_n C 15 0 dX7_listFree_14 rfl rfl rfl ?_
      refine gl_X7_62 C 18 (h0.1 16 (by decide) (by decide)) dX7_listFree_15 rfl ?_
      refine im_ic_ge C 67 21 dX7_listFree_18 rfl rfl ?_ ?_
      · exact im_sub [0, 2, 3] [(0, .ref (ad 16 b)), (2, .int x2), (3, .int z5.1)] rfl (hE_z5 (z5.1, z5.2.2))
      · refine im_aload_n C 22 0 dX7_listFree_21 rfl rfl rfl ?_
        refine gl_X7_9 C 25 (h0.1 16 (by decide) (by decide)) dX7_listFree_22 rfl ?_
        refine im_iload C 27 4 dX7_listFree_25 rfl rfl ?_
        refine im_rdi C 28 24 (h0.1 17 (by decide) (by decide)) rfl dX7_listFree_27 rfl (fun v2 => ?_)
        refine im_iload_n C 29 1 dX7_listFree_28 rfl rfl rfl ?_
        refine im_iload_n C 30 2 dX7_listFree_29 rfl rfl rfl ?_
        refine im_iconst C 31 dX7_listFree_30 rfl k_ic1 ?_
        refine im_isub C 32 dX7_listFree_31 rfl ?_
        refine im_cSNP C 35 sk_X9_isIn gw_533 (c_X9_isIn (x0 := v2) (x1 := x1) (x2 := x2 - (1 : Int32)) hU) (rle rfl) rfl (st := []) rfl (Nat.le_of_ble_eq_true rfl) dX7_listFree_32 rfl (fun o3 => ?_)
        refine im_if_eq C 61 38 dX7_listFree_35 rfl rfl ?_ ?_
        · refine im_iinc C 64 4 [(4, .int (z5.2.1 + (1 : Int32))), (0, .ref (ad 16 b)), (1, .int x1), (2, .int x2), (3, .int z5.1)] dX7_listFree_61 rfl (k_inc1) (by decide) rfl rfl ?_
          refine im_goto C 5 dX7_listFree_64 rfl ?_
          exact im_sub [1, 2, 3, 4, 0] [(0, .ref (ad 16 b)), (1, .int x1), (2, .int x2), (3, .int z5.1), (4, .int (z5.2.1 + (1 : Int32)))] rfl (hX_z5 (z5.1, z5.2.1 + (1 : Int32), z5.2.2))
        · refine im_aload_n C 39 0 dX7_listFree_38 rfl rfl rfl ?_
          refine gl_X7_21 C 42 (h0.1 16 (by decide) (by decide)) dX7_listFree_39 rfl ?_
          refine im_iload_n C 43 3 dX7_listFree_42 rfl rfl rfl ?_
          refine im_aload_n C 44 0 dX7_listFree_43 rfl rfl rfl ?_
          refine gl_X7_9 C 47 (h0.1 16 (by decide) (by decide)) dX7_listFree_44 rfl ?_
          refine im_iload C 49 4 dX7_listFree_47 rfl rfl ?_
          refine im_rdi C 50 24 (h0.1 17 (by decide) (by decide)) rfl dX7_listFree_49 rfl (fun v4 => ?_)
          refine im_cVV C 53 vk_X0_addStretch gw_534 (c_X0_addStretch (b := b) (x1 := z5.1) (x2 := v4) hU h0.2) (h0.2 19 (by decide) (by decide)) rfl rfl (rle rfl) rfl (st := []) rfl (Nat.le_of_ble_eq_true rfl) dX7_listFree_50 rfl (fun D5 => ?_)
          refine im_aload_n C 54 0 dX7_listFree_53 rfl rfl rfl ?_
          refine gl_X7_15 C 57 (h0.1 16 (by decide) (by decide)) dX7_listFree_54 rfl ?_
          refine im_iload C 59 4 dX7_listFree_57 rfl rfl ?_
          refine im_rdi C 60 24 (h0.1 18 (by decide) (by decide)) rfl dX7_listFree_59 rfl (fun v6 => ?_)
          refine im_istore_n C 61 [(3, .int v6), (0, .ref (ad 16 b)), (1, .int x1), (2, .int x2), (4, .int z5.2.1)] dX7_listFree_60 rfl (by decide) rfl rfl ?_
          refine im_iinc C 64 4 [(4, .int (z5.2.1 + (1 : Int32))), (3, .int v6), (0, .ref (ad 16 b)), (1, .int x1), (2, .int x2)] dX7_listFree_61 rfl (k_inc1) (by decide) rfl rfl ?_
          refine im_goto C 5 dX7_listFree_64 rfl ?_
          exact im_sub [2, 3, 4, 1, 0] [(0, .ref (ad 16 b)), (1, .int x1), (2, .int x2), (3, .int v6), (4, .int (z5.2.1 + (1 : Int32)))] rfl (hX_z5 (v6, z5.2.1 + (1 : Int32), D5))
set_option maxRecDepth 100000 in
set_option maxHeartbeats 4000000 in
theorem c_X7_take {l : Launch} {G : va_G} {ad : Nat → Nat → Nat} {U : List (Nat × Nat)} {D : Dt} {b : Nat} {b1 : Nat} (hU : Uinj ad U) (h0 : SuU U b) (h1 : SpU U b1) : MV l G ad U yX7_take cX7_take 4 (k2_rm 3 65) [.ref (ad 16 b), .ref (ad 1 b1)] D (f_X7_take b b1 D) := by
  refine mV_of0 (lv := [(0, .ref (ad 16 b)), (1, .ref (ad 1 b1))]) (by decide) hU rfl (Nat.le_of_ble_eq_true rfl) (fun A p e s m args below meth c C => ?_)
  have C : Cx G ad U A p s m meth c args cX7_take RX7 4 none := C
  unfold f_X7_take
  refine im_aload_n C 1 0 dX7_take_0 rfl rfl rfl ?_
  refine im_aload_n C 2 1 dX7_take_1 rfl rfl rfl ?_
  refine im_cVV C 5 vk_X7_listUsed gw_515 (c_X7_listUsed (b := b) (b1 := b1) hU h0 h1) (h0.1 16 (by decide) (by decide)) rfl rfl (rle rfl) rfl (st := []) rfl (Nat.le_of_ble_eq_true rfl) dX7_take_2 rfl (fun D1 => ?_)
  refine im_aload_n C 6 0 dX7_take_5 rfl rfl rfl ?_
  refine gl_X7_21 C 9 (h0.1 16 (by decide) (by decide)) dX7_take_6 rfl ?_
  refine im_iconst C 10 dX7_take_9 rfl k_ic0 ?_
  refine pl_X7_29 C 13 (h0.2 19 (by decide) (by decide)) dX7_take_10 rfl (fun D2 => ?_)
  refine im_iconst C 14 dX7_take_13 rfl k_ic0 ?_
  refine im_istore_n C 15 [(2, .int (0 : Int32)), (0, .ref (ad 16 b)), (1, .ref (ad 1 b1))] dX7_take_14 rfl (by decide) rfl rfl ?_
  refine im_sub [1, 2, 0] [(0, .ref (ad 16 b)), (1, .ref (ad 1 b1)), (2, .int (0 : Int32))] rfl ?_
  refine im_lpB (l_X7_take_15 b b1) (fun z15 => [(0, .ref (ad 16 b)), (1, .ref (ad 1 b1)), (2, .int z15.1)]) (fun z15 => z15.2) 57 (fun e3 => []) (fun e3 => e3) (fun e3 => ?_) (fun z15 X_z15 hX_z15 hE_z15 => ?_) FU ((0 : Int32), D2)
  · exact im_vret C rfl dX7_take_57
  · unfold l_X7_take_15
    refine im_iload_n C 16 2 dX7_take_15 rfl rfl rfl ?_
    refine im_iconst C 17 dX7_take_16 rfl k_ic4 ?_
    refine im_ic_ge C 57 20 dX7_take_17 rfl rfl ?_ ?_
    · exact im_sub [] [] rfl (hE_z15 z15.2)
    · refine im_iload_n C 21 2 dX7_take_20 rfl rfl rfl ?_
      refine im_aload_n C 22 1 dX7_take_21 rfl rfl rfl ?_
      refine gl_X7_33 C 25 (h1 1 (by decide) (by decide)) dX7_take_22 rfl ?_
      refine im_ic_ge C 57 28 dX7_take_25 rfl rfl ?_ ?_
      · exact im_sub [] [] rfl (hE_z15 z15.2)
      · refine im_aload_n C 29 1 dX7_take_28 rfl rfl rfl ?_
        refine gl_X7_38 C 32 (h1 1 (by decide) (by decide)) dX7_take_29 rfl ?_
        refine im_iload_n C 33 2 dX7_take_32 rfl rfl rfl ?_
        refine im_rdi C 34 4 (h1 2 (by decide) (by decide)) rfl dX7_take_33 rfl (fun v4 => ?_)
        refine im_istore_n C 35 [(3, .int v4), (0, .ref (ad 16 b)), (1, .ref (ad 1 b1)), (2, .int z15.1)] dX7_take_34 rfl (by decide) rfl rfl ?_
        refine im_aload_n C 36 1 dX7_take_35 rfl rfl rfl ?_
        refine im_iload_n C 37 0 dX7_take_36 rfl rfl rfl ?_
        refine im_iload_n C 38 0 dX7_take_37 rfl rfl rfl ?_
        refine im_aload_n C 39 2 dX7_take_38 rfl rfl rfl ?_
        refine gl_X7_41 C 42 (h1 1 (by decide) (by decide)) dX7_take_39 rfl ?_
        refine im_iload_n C 43 3 dX7_take_42 rfl rfl rfl ?_
        refine im_rdi C 44 4 (h1 3 (by decide) (by decide)) rfl dX7_take_43 rfl (fun v5 => ?_)
        refine im_cSNP C 47 sk_X9_sizeOf gw_524 (c_X9_sizeOf (x0 := v5) hU) (rle rfl) rfl (st := [.int v4, .int v4, .ref (ad 16 b)]) rfl (Nat.le_of_ble_eq_true rfl) dX7_take_44 rfl (fun o6 => ?_)
        refine im_iadd C 48 dX7_take_47 rfl ?_
        refine im_cVV C 51 vk_X7_listFree gw_529 (c_X7_listFree (b := b) (x1 := v4) (x2 := v4 + o6) hU h0) (h0.1 16 (by decide) (by decide)) rfl rfl (rle rfl) rfl (st := []) rfl (Nat.le_of_ble_eq_true rfl) dX7_take_48 rfl (fun D7 => ?_)
        refine im_iinc C 54 3 [(2, .int (z15.1 + (1 : Int32))), (3, .int v4), (0, .ref (ad 16 b)), (1, .ref (ad 1 b1))] dX7_take_51 rfl (k_inc1) (by decide) rfl rfl ?_
        refine im_goto C 15 dX7_take_54 rfl ?_
        exact im_sub [2, 3, 0] [(0, .ref (ad 16 b)), (1, .ref (ad 1 b1)), (2, .int (z15.1 + (1 : Int32)))] rfl (hX_z15 (z15.1 + (1 : Int32), D7))
set_option maxRecDepth 100000 in
set_option maxHeartbeats 4000000 in
theorem c_X0_isBetter {l : Launch} {G : va_G} {ad : Nat → Nat → Nat} {U : List (Nat × Nat)} {D : Dt} {b : Nat} {x1 : Int32} {x2 : Int32} {x3 : Int32} (hU : Uinj ad U) (h0 : BlU U b) : MI l G ad U yX0_isBetter cX0_isBetter 7 .boolean (k2_rm 0 0) [.ref (ad 19 b), .int x1, .int x2, .int x3] D ((f_X0_isBetter b x1 x2 x3 D).bind (fun r => some (r, D))) := by
  refine mI_of (lv := [(0, .ref (ad 19 b)), (1, .int x1), (2, .int x2), (3, .int x3)]) (by decide) hU rfl (Nat.le_of_ble_eq_true rfl) (fun A p e s m args below meth c C => ?_)
  have C : Cx G ad U A p s m meth c args cX0_isBetter RX0 7 (some .boolean) := C
  unfold f_X0_isBetter
  refine im_aload_n C 1 0 dX0_isBetter_0 rfl rfl rfl ?_
  refine gl_X0_9 C 4 (h0 19 (by decide) (by decide)) dX0_isBetter_1 rfl ?_
  refine im_iload_n C 5 2 dX0_isBetter_4 rfl rfl rfl ?_
  refine im_rdi C 6 292 (h0 20 (by decide) (by decide)) rfl dX0_isBetter_5 rfl (fun v1 => ?_)
  refine im_aload_n C 7 0 dX0_isBetter_6 rfl rfl rfl ?_
  refine gl_X0_9 C 10 (h0 19 (by decide) (by decide)) dX0_isBetter_7 rfl ?_
  refine im_iload_n C 11 3 dX0_isBetter_10 rfl rfl rfl ?_
  refine im_rdi C 12 292 (h0 20 (by decide) (by decide)) rfl dX0_isBetter_11 rfl (fun v2 => ?_)
  refine im_jn 20 (fun t3 => [(0, .ref (ad 19 b)), (1, .int x1), (2, .int x2), (3, .int x3)]) (fun t3 => [.int t3]) (fun t3 => D) (fun t3 => j_X0_isBetter_20_t3 b x1 x2 x3 D t3) (fun t3 => ?_) (fun ht3 => ?_)
  · unfold j_X0_isBetter_20_t3
    refine im_istore C 22 [(4, .int t3), (0, .ref (ad 19 b)), (1, .int x1), (2, .int x2), (3, .int x3)] dX0_isBetter_20 (by decide) rfl rfl ?_
    refine im_aload_n C 23 1 dX0_isBetter_22 rfl rfl rfl ?_
    refine gl_X0_15 C 26 (h0 19 (by decide) (by decide)) dX0_isBetter_23 rfl ?_
    refine im_iload_n C 27 3 dX0_isBetter_26 rfl rfl rfl ?_
    refine im_rdi C 28 292 (h0 21 (by decide) (by decide)) rfl dX0_isBetter_27 rfl (fun v4 => ?_)
    refine im_aload_n C 29 1 dX0_isBetter_28 rfl rfl rfl ?_
    refine gl_X0_15 C 32 (h0 19 (by decide) (by decide)) dX0_isBetter_29 rfl ?_
    refine im_iload_n C 33 4 dX0_isBetter_32 rfl rfl rfl ?_
    refine im_rdi C 34 292 (h0 21 (by decide) (by decide)) rfl dX0_isBetter_33 rfl (fun v5 => ?_)
    refine im_jn 42 (fun t6 => [(0, .ref (ad 19 b)), (1, .int x1), (2, .int x2), (3, .int x3), (4, .int t3)]) (fun t6 => [.int t6]) (fun t6 => D) (fun t6 => j_X0_isBetter_42_t6 b x1 x2 x3 D t3 t6) (fun t6 => ?_) (fun ht6 => ?_)
    · unfold j_X0_isBetter_42_t6
      refine im_istore C 44 [(5, .int t6), (0, .ref (ad 19 b)), (1, .int x1), (2, .int x2), (3, .int x3), (4, .int t3)] dX0_isBetter_42 (by decide) rfl rfl ?_
      refine im_aload_n C 45 1 dX0_isBetter_44 rfl rfl rfl ?_
      refine gl_X0_15 C 48 (h0 19 (by decide) (by decide)) dX0_isBetter_45 rfl ?_
      refine im_iload_n C 49 3 dX0_isBetter_48 rfl rfl rfl ?_
      refine im_rdi C 50 292 (h0 21 (by decide) (by decide)) rfl dX0_isBetter_49 rfl (fun v7 => ?_)
      refine im_aload_n C 51 1 dX0_isBetter_50 rfl rfl rfl ?_
      refine gl_X0_15 C 54 (h0 19 (by decide) (by decide)) dX0_isBetter_51 rfl ?_
      refine im_iload_n C 55 4 dX0_isBetter_54 rfl rfl rfl ?_
      refine im_rdi C 56 292 (h0 21 (by decide) (by decide)) rfl dX0_isBetter_55 rfl (fun v8 => ?_)
      refine im_jn 64 (fun t9 => [(1, .int x1), (4, .int t3), (5, .int t6)]) (fun t9 => [.int t9]) (fun t9 => D) (fun t9 => j_X0_isBetter_64_t9 x1 t3 t6 t9) (fun t9 => ?_) (fun ht9 => ?_)
      · unfold j_X0_isBetter_64_t9
        refine im_istore C 66 [(6, .int t9), (1, .int x1), (4, .int t3), (5, .int t6)] dX0_isBetter_64 (by decide) rfl rfl ?_
        refine im_iload_n C 67 1 dX0_isBetter_66 rfl rfl rfl ?_
        refine im_ite (fun s67_0 => ?_) (fun s67_0 => ?_)
        · refine im_tabIn C 92 (y := (0 : Int32)) s67_0 dX0_isBetter_67 (by decide) (by decide) rfl rfl ?_
          refine im_iload C 94 2 dX0_isBetter_92 rfl rfl ?_
          refine im_gd (fun hg => ?_)
          exact im_iret C rfl (isb_n hg) dX0_isBetter_94
        · refine im_ite (fun s67_1 => ?_) (fun s67_1 => ?_)
          · refine im_tabIn C 95 (y := (1 : Int32)) s67_1 dX0_isBetter_67 (by decide) (by decide) rfl rfl ?_
            refine im_iload C 97 0 dX0_isBetter_95 rfl rfl ?_
            refine im_if_ne C 110 100 dX0_isBetter_97 rfl rfl ?_ ?_
            · refine im_iconst C 111 dX0_isBetter_110 rfl k_ic1 ?_
              refine im_goto C 115 dX0_isBetter_111 rfl ?_
              exact im_iret C rfl rfl dX0_isBetter_115
            · refine im_iload C 102 3 dX0_isBetter_100 rfl rfl ?_
              refine im_if_eq C 114 105 dX0_isBetter_102 rfl rfl ?_ ?_
              · refine im_iconst C 115 dX0_isBetter_114 rfl k_ic0 ?_
                exact im_iret C rfl rfl dX0_isBetter_115
              · refine im_iload C 107 2 dX0_isBetter_105 rfl rfl ?_
                refine im_if_eq C 114 110 dX0_isBetter_107 rfl rfl ?_ ?_
                · refine im_iconst C 115 dX0_isBetter_114 rfl k_ic0 ?_
                  exact im_iret C rfl rfl dX0_isBetter_115
                · refine im_iconst C 111 dX0_isBetter_110 rfl k_ic1 ?_
                  refine im_goto C 115 dX0_isBetter_111 rfl ?_
                  exact im_iret C rfl rfl dX0_isBetter_115
          · refine im_ite (fun s67_2 => ?_) (fun s67_2 => ?_)
            · refine im_tabIn C 116 (y := (2 : Int32)) s67_2 dX0_isBetter_67 (by decide) (by decide) rfl rfl ?_
              refine im_iload C 118 0 dX0_isBetter_116 rfl rfl ?_
              refine im_if_ne C 135 121 dX0_isBetter_118 rfl rfl ?_ ?_
              · refine im_iconst C 136 dX0_isBetter_135 rfl k_ic0 ?_
                exact im_iret C rfl rfl dX0_isBetter_136
              · refine im_iload C 123 3 dX0_isBetter_121 rfl rfl ?_
                refine im_if_eq C 131 126 dX0_isBetter_123 rfl rfl ?_ ?_
                · refine im_iconst C 132 dX0_isBetter_131 rfl k_ic1 ?_
                  refine im_goto C 136 dX0_isBetter_132 rfl ?_
                  exact im_iret C rfl rfl dX0_isBetter_136
                · refine im_iload C 128 2 dX0_isBetter_126 rfl rfl ?_
                  refine im_if_eq C 135 131 dX0_isBetter_128 rfl rfl ?_ ?_
                  · refine im_iconst C 136 dX0_isBetter_135 rfl k_ic0 ?_
                    exact im_iret C rfl rfl dX0_isBetter_136
                  · refine im_iconst C 132 dX0_isBetter_131 rfl k_ic1 ?_
                    refine im_goto C 136 dX0_isBetter_132 rfl ?_
                    exact im_iret C rfl rfl dX0_isBetter_136
            · refine im_tabOut C 137 dX0_isBetter_67 (by have a0 := nz s67_0 (n := 0) (by decide); have a1 := nz s67_1 (n := 1) (by decide); have a2 := nz s67_2 (n := 2) (by decide); omega) rfl ?_
              refine im_iload C 139 0 dX0_isBetter_137 rfl rfl ?_
              refine im_if_ne C 152 142 dX0_isBetter_139 rfl rfl ?_ ?_
              · refine im_iconst C 153 dX0_isBetter_152 rfl k_ic1 ?_
                refine im_goto C 157 dX0_isBetter_153 rfl ?_
                exact im_iret C rfl rfl dX0_isBetter_157
              · refine im_iload C 144 3 dX0_isBetter_142 rfl rfl ?_
                refine im_if_eq C 156 147 dX0_isBetter_144 rfl rfl ?_ ?_
                · refine im_iconst C 157 dX0_isBetter_156 rfl k_ic0 ?_
                  exact im_iret C rfl rfl dX0_isBetter_157
                · refine im_iload C 149 2 dX0_isBetter_147 rfl rfl ?_
                  refine im_if_ne C 156 152 dX0_isBetter_149 rfl rfl ?_ ?_
                  · refine im_iconst C 157 dX0_isBetter_156 rfl k_ic0 ?_
                    exact im_iret C rfl rfl dX0_isBetter_157
                  · refine im_iconst C 153 dX0_isBetter_152 rfl k_ic1 ?_
                    refine im_goto C 157 dX0_isBetter_153 rfl ?_
                    exact im_iret C rfl rfl dX0_isBetter_157
      · refine im_ic_le C 63 59 dX0_isBetter_56 rfl rfl ?_ ?_
        · refine im_iconst C 64 dX0_isBetter_63 rfl k_ic0 ?_
          exact im_sub [2, 5, 0] [(1, .int x1), (4, .int t3), (5, .int t6)] rfl (ht9 (0 : Int32))
        · refine im_iconst C 60 dX0_isBetter_59 rfl k_ic1 ?_
          refine im_goto C 64 dX0_isBetter_60 rfl ?_
          exact im_sub [2, 5, 0] [(1, .int x1), (4, .int t3), (5, .int t6)] rfl (ht9 (1 : Int32))
    · refine im_ic_ne C 41 37 dX0_isBetter_34 rfl rfl ?_ ?_
      · refine im_iconst C 42 dX0_isBetter_41 rfl k_ic0 ?_
        exact im_sub [1, 2, 3, 4, 0] [(0, .ref (ad 19 b)), (1, .int x1), (2, .int x2), (3, .int x3), (4, .int t3)] rfl (ht6 (0 : Int32))
      · refine im_iconst C 38 dX0_isBetter_37 rfl k_ic1 ?_
        refine im_goto C 42 dX0_isBetter_38 rfl ?_
        exact im_sub [1, 2, 3, 4, 0] [(0, .ref (ad 19 b)), (1, .int x1), (2, .int x2), (3, .int x3), (4, .int t3)] rfl (ht6 (1 : Int32))
  · refine im_ic_ge C 19 15 dX0_isBetter_12 rfl rfl ?_ ?_
    · refine im_iconst C 20 dX0_isBetter_19 rfl k_ic0 ?_
      exact ht3 (0 : Int32)
    · refine im_iconst C 16 dX0_isBetter_15 rfl k_ic1 ?_
      refine im_goto C 20 dX0_isBetter_16 rfl ?_
      exact ht3 (1 : Int32)
set_option maxRecDepth 100000 in
set_option maxHeartbeats 4000000 in
theorem c_X0_holds {l : Launch} {G : va_G} {ad : Nat → Nat → Nat} {U : List (Nat × Nat)} {D : Dt} {b : Nat} {x1 : Int32} (hU : Uinj ad U) (h0 : BlU U b) : MI l G ad U yX0_holds cX0_holds 2 .boolean (k2_rm 0 0) [.ref (ad 19 b), .int x1] D ((f_X0_holds b x1 D).bind (fun r => some (r, D))) := by
  refine mI_of (lv := [(0, .ref (ad 19 b)), (1, .int x1)]) (by decide) hU rfl (Nat.le_of_ble_eq_true rfl) (fun A p e s m args below meth c C => ?_)
  have C : Cx G ad U A p s m meth c args cX0_holds RX0 2 (some .boolean) := C
  unfold f_X0_holds
  refine im_iload_n C 1 1 dX0_holds_0 rfl rfl rfl ?_
  refine im_if_lt C 23 4 dX0_holds_1 rfl rfl ?_ ?_
  · refine im_iconst C 24 dX0_holds_23 rfl k_ic0 ?_
    exact im_iret C rfl rfl dX0_holds_24
  · refine im_iload_n C 5 1 dX0_holds_4 rfl rfl rfl ?_
    refine im_aload_n C 6 0 dX0_holds_5 rfl rfl rfl ?_
    refine gl_X0_18 C 9 (h0 19 (by decide) (by decide)) dX0_holds_6 rfl ?_
    refine im_ic_ge C 23 12 dX0_holds_9 rfl rfl ?_ ?_
    · refine im_iconst C 24 dX0_holds_23 rfl k_ic0 ?_
      exact im_iret C rfl rfl dX0_holds_24
    · refine im_iload_n C 13 1 dX0_holds_12 rfl rfl rfl ?_
      refine im_sipush C 16 dX0_holds_13 rfl k_sp292 ?_
      refine im_ic_ge C 23 19 dX0_holds_16 rfl rfl ?_ ?_
      · refine im_iconst C 24 dX0_holds_23 rfl k_ic0 ?_
        exact im_iret C rfl rfl dX0_holds_24
      · refine im_iconst C 20 dX0_holds_19 rfl k_ic1 ?_
        refine im_goto C 24 dX0_holds_20 rfl ?_
        exact im_iret C rfl rfl dX0_holds_24
set_option maxRecDepth 100000 in
set_option maxHeartbeats 4000000 in
theorem c_X0_placeBy {l : Launch} {G : va_G} {ad : Nat → Nat → Nat} {U : List (Nat × Nat)} {D : Dt} {b : Nat} {x1 : Int32} {x2 : Int32} (hU : Uinj ad U) (h0 : BlU U b) : MI l G ad U yX0_placeBy cX0_placeBy 5 .int (k2_rm 1 26) [.ref (ad 19 b), .int x1, .int x2] D ((f_X0_placeBy b x1 x2 D).bind (fun r => some (r, D))) := by
  refine mI_of (lv := [(0, .ref (ad 19 b)), (1, .int x1), (2, .int x2)]) (by decide) hU rfl (Nat.le_of_ble_eq_true rfl) (fun A p e s m args below meth c C => ?_)
  have C : Cx G ad U A p s m meth c args cX0_placeBy RX0 5 (some .int) := C
  unfold f_X0_placeBy
  refine im_iconst C 1 dX0_placeBy_0 rfl k_icm1 ?_
  refine im_istore_n C 2 [(3, .int (-1 : Int32)), (0, .ref (ad 19 b)), (1, .int x1), (2, .int x2)] dX0_placeBy_1 rfl (by decide) rfl rfl ?_
  refine im_iconst C 3 dX0_placeBy_2 rfl k_ic0 ?_
  refine im_istore C 5 [(4, .int (0 : Int32)), (3, .int (-1 : Int32)), (0, .ref (ad 19 b)), (1, .int x1), (2, .int x2)] dX0_placeBy_3 (by decide) rfl rfl ?_
  refine im_sub [2, 3, 4, 1, 0] [(0, .ref (ad 19 b)), (1, .int x1), (2, .int x2), (3, .int (-1 : Int32)), (4, .int (0 : Int32))] rfl ?_
  refine im_lpB (l_X0_placeBy_5 b x1 x2 D) (fun z5 => [(0, .ref (ad 19 b)), (1, .int x1), (2, .int x2), (3, .int z5.1), (4, .int z5.2)]) (fun z5 => D) 58 (fun e1 => [(0, .ref (ad 19 b)), (1, .int x1), (2, .int x2), (3, .int e1)]) (fun e1 => D) (fun e1 => ?_) (fun z5 X_z5 hX_z5 hE_z5 => ?_) FU ((-1 : Int32), (0 : Int32))
  · refine im_aload_n C 59 0 dX0_placeBy_58 rfl rfl rfl ?_
    refine im_iload_n C 60 3 dX0_placeBy_59 rfl rfl rfl ?_
    refine im_cVP C 63 vk_X0_holds gw_546 (c_X0_holds (b := b) (x1 := e1) hU h0) (h0 19 (by decide) (by decide)) rfl rfl (rle rfl) rfl (st := []) rfl (Nat.le_of_ble_eq_true rfl) dX0_placeBy_60 rfl (fun o4 => ?_)
    refine im_if_ne C 68 66 dX0_placeBy_63 rfl rfl ?_ ?_
    · refine im_iload_n C 69 1 dX0_placeBy_68 rfl rfl rfl ?_
      refine im_iconst C 70 dX0_placeBy_69 rfl k_ic3 ?_
      refine im_ic_ne C 90 73 dX0_placeBy_70 rfl rfl ?_ ?_
      · refine im_iconst C 91 dX0_placeBy_90 rfl k_ic0 ?_
        refine im_istore C 93 [(4, .int (0 : Int32)), (0, .ref (ad 19 b)), (1, .int x1), (2, .int x2), (3, .int e1)] dX0_placeBy_91 (by decide) rfl rfl ?_
        refine im_aload_n C 94 1 dX0_placeBy_93 rfl rfl rfl ?_
        refine gl_X0_9 C 97 (h0 19 (by decide) (by decide)) dX0_placeBy_94 rfl ?_
        refine im_iload_n C 98 4 dX0_placeBy_97 rfl rfl rfl ?_
        refine im_rdi C 99 292 (h0 20 (by decide) (by decide)) rfl dX0_placeBy_98 rfl (fun v5 => ?_)
        refine im_iload C 101 0 dX0_placeBy_99 rfl rfl ?_
        refine im_iadd C 102 dX0_placeBy_101 rfl ?_
        exact im_iret C rfl rfl dX0_placeBy_102
      · refine im_aload_n C 74 0 dX0_placeBy_73 rfl rfl rfl ?_
        refine gl_X0_15 C 77 (h0 19 (by decide) (by decide)) dX0_placeBy_74 rfl ?_
        refine im_iload_n C 78 3 dX0_placeBy_77 rfl rfl rfl ?_
        refine im_rdi C 79 292 (h0 21 (by decide) (by decide)) rfl dX0_placeBy_78 rfl (fun v6 => ?_)
        refine im_cSNP C 82 sk_X9_sizeOf gw_550 (c_X9_sizeOf (x0 := v6) hU) (rle rfl) rfl (st := []) rfl (Nat.le_of_ble_eq_true rfl) dX0_placeBy_79 rfl (fun o7 => ?_)
        refine im_iload_n C 83 2 dX0_placeBy_82 rfl rfl rfl ?_
        refine im_cSNP C 86 sk_X9_sizeOf gw_550 (c_X9_sizeOf (x0 := x2) hU) (rle rfl) rfl (st := [.int o7]) rfl (Nat.le_of_ble_eq_true rfl) dX0_placeBy_83 rfl (fun o8 => ?_)
        refine im_isub C 87 dX0_placeBy_86 rfl ?_
        refine im_goto C 91 dX0_placeBy_87 rfl ?_
        refine im_istore C 93 [(4, .int (o7 - o8)), (0, .ref (ad 19 b)), (1, .int x1), (2, .int x2), (3, .int e1)] dX0_placeBy_91 (by decide) rfl rfl ?_
        refine im_aload_n C 94 1 dX0_placeBy_93 rfl rfl rfl ?_
        refine gl_X0_9 C 97 (h0 19 (by decide) (by decide)) dX0_placeBy_94 rfl ?_
        refine im_iload_n C 98 4 dX0_placeBy_97 rfl rfl rfl ?_
        refine im_rdi C 99 292 (h0 20 (by decide) (by decide)) rfl dX0_placeBy_98 rfl (fun v9 => ?_)
        refine im_iload C 101 0 dX0_placeBy_99 rfl rfl ?_
        refine im_iadd C 102 dX0_placeBy_101 rfl ?_
        exact im_iret C rfl rfl dX0_placeBy_102
    · refine im_iconst C 67 dX0_placeBy_66 rfl k_icm1 ?_
      exact im_iret C rfl rfl dX0_placeBy_67
  · unfold l_X0_placeBy_5
    refine im_iload C 7 4 dX0_placeBy_5 rfl rfl ?_
    refine im_sipush C 10 dX0_placeBy_7 rfl k_sp292 ?_
    refine im_ic_ge C 58 13 dX0_placeBy_10 rfl rfl ?_ ?_
    · exact im_sub [0, 1, 2, 3] [(0, .ref (ad 19 b)), (1, .int x1), (2, .int x2), (3, .int z5.1)] rfl (hE_z5 z5.1)
    · refine im_iload C 15 4 dX0_placeBy_13 rfl rfl ?_
      refine im_aload_n C 16 0 dX0_placeBy_15 rfl rfl rfl ?_
      refine gl_X0_18 C 19 (h0 19 (by decide) (by decide)) dX0_placeBy_16 rfl ?_
      refine im_ic_ge C 58 22 dX0_placeBy_19 rfl rfl ?_ ?_
      · exact im_sub [0, 1, 2, 3] [(0, .ref (ad 19 b)), (1, .int x1), (2, .int x2), (3, .int z5.1)] rfl (hE_z5 z5.1)
      · refine im_aload_n C 23 0 dX0_placeBy_22 rfl rfl rfl ?_
        refine gl_X0_15 C 26 (h0 19 (by decide) (by decide)) dX0_placeBy_23 rfl ?_
        refine im_iload C 28 4 dX0_placeBy_26 rfl rfl ?_
        refine im_rdi C 29 292 (h0 21 (by decide) (by decide)) rfl dX0_placeBy_28 rfl (fun v2 => ?_)
        refine im_iload_n C 30 2 dX0_placeBy_29 rfl rfl rfl ?_
        refine im_ic_gt C 52 33 dX0_placeBy_30 rfl rfl ?_ ?_
        · refine im_iinc C 55 4 [(4, .int (z5.2 + (1 : Int32))), (0, .ref (ad 19 b)), (1, .int x1), (2, .int x2), (3, .int z5.1)] dX0_placeBy_52 rfl (k_inc1) (by decide) rfl rfl ?_
          refine im_goto C 5 dX0_placeBy_55 rfl ?_
          exact im_sub [1, 2, 3, 4, 0] [(0, .ref (ad 19 b)), (1, .int x1), (2, .int x2), (3, .int z5.1), (4, .int (z5.2 + (1 : Int32)))] rfl (hX_z5 (z5.1, z5.2 + (1 : Int32)))
        · refine im_iload_n C 34 3 dX0_placeBy_33 rfl rfl rfl ?_
          refine im_iconst C 35 dX0_placeBy_34 rfl k_icm1 ?_
          refine im_ic_eq C 49 38 dX0_placeBy_35 rfl rfl ?_ ?_
          · refine im_iload C 51 4 dX0_placeBy_49 rfl rfl ?_
            refine im_istore_n C 52 [(3, .int z5.2), (0, .ref (ad 19 b)), (1, .int x1), (2, .int x2), (4, .int z5.2)] dX0_placeBy_51 rfl (by decide) rfl rfl ?_
            refine im_iinc C 55 4 [(4, .int (z5.2 + (1 : Int32))), (3, .int z5.2), (0, .ref (ad 19 b)), (1, .int x1), (2, .int x2)] dX0_placeBy_52 rfl (k_inc1) (by decide) rfl rfl ?_
            refine im_goto C 5 dX0_placeBy_55 rfl ?_
            exact im_sub [2, 3, 4, 1, 0] [(0, .ref (ad 19 b)), (1, .int x1), (2, .int x2), (3, .int z5.2), (4, .int (z5.2 + (1 : Int32)))] rfl (hX_z5 (z5.2, z5.2 + (1 : Int32)))
          · refine im_aload_n C 39 0 dX0_placeBy_38 rfl rfl rfl ?_
            refine im_iload_n C 40 1 dX0_placeBy_39 rfl rfl rfl ?_
            refine im_iload C 42 4 dX0_placeBy_40 rfl rfl ?_
            refine im_iload_n C 43 3 dX0_placeBy_42 rfl rfl rfl ?_
            refine im_cVP C 46 vk_X0_isBetter gw_542 (c_X0_isBetter (b := b) (x1 := x1) (x2 := z5.2) (x3 := z5.1) hU h0) (h0 19 (by decide) (by decide)) rfl rfl (rle rfl) rfl (st := []) rfl (Nat.le_of_ble_eq_true rfl) dX0_placeBy_43 rfl (fun o3 => ?_)
            refine im_if_eq C 52 49 dX0_placeBy_46 rfl rfl ?_ ?_
            · refine im_iinc C 55 4 [(4, .int (z5.2 + (1 : Int32))), (0, .ref (ad 19 b)), (1, .int x1), (2, .int x2), (3, .int z5.1)] dX0_placeBy_52 rfl (k_inc1) (by decide) rfl rfl ?_
              refine im_goto C 5 dX0_placeBy_55 rfl ?_
              exact im_sub [1, 2, 3, 4, 0] [(0, .ref (ad 19 b)), (1, .int x1), (2, .int x2), (3, .int z5.1), (4, .int (z5.2 + (1 : Int32)))] rfl (hX_z5 (z5.1, z5.2 + (1 : Int32)))
            · refine im_iload C 51 4 dX0_placeBy_49 rfl rfl ?_
              refine im_istore_n C 52 [(3, .int z5.2), (0, .ref (ad 19 b)), (1, .int x1), (2, .int x2), (4, .int z5.2)] dX0_placeBy_51 rfl (by decide) rfl rfl ?_
              refine im_iinc C 55 4 [(4, .int (z5.2 + (1 : Int32))), (3, .int z5.2), (0, .ref (ad 19 b)), (1, .int x1), (2, .int x2)] dX0_placeBy_52 rfl (k_inc1) (by decide) rfl rfl ?_
              refine im_goto C 5 dX0_placeBy_55 rfl ?_
              exact im_sub [2, 3, 4, 1, 0] [(0, .ref (ad 19 b)), (1, .int x1), (2, .int x2), (3, .int z5.2), (4, .int (z5.2 + (1 : Int32)))] rfl (hX_z5 (z5.2, z5.2 + (1 : Int32)))
set_option maxRecDepth 100000 in
set_option maxHeartbeats 4000000 in
theorem c_X7_place {l : Launch} {G : va_G} {ad : Nat → Nat → Nat} {U : List (Nat × Nat)} {D : Dt} {b : Nat} {b1 : Nat} {x2 : Int32} (hU : Uinj ad U) (h0 : SuU U b) (h1 : SpU U b1) : MI l G ad U yX7_place cX7_place 3 .int (k2_rm 4 88) [.ref (ad 16 b), .ref (ad 1 b1), .int x2] D (f_X7_place b b1 x2 D) := by
  refine mI_of0 (lv := [(0, .ref (ad 16 b)), (1, .ref (ad 1 b1)), (2, .int x2)]) (by decide) hU rfl (Nat.le_of_ble_eq_true rfl) (fun A p e s m args below meth c C => ?_)
  have C : Cx G ad U A p s m meth c args cX7_place RX7 3 (some .int) := C
  unfold f_X7_place
  refine im_aload_n C 1 0 dX7_place_0 rfl rfl rfl ?_
  refine im_aload_n C 2 1 dX7_place_1 rfl rfl rfl ?_
  refine im_cVV C 5 vk_X7_take gw_511 (c_X7_take (b := b) (b1 := b1) hU h0 h1) (h0.1 16 (by decide) (by decide)) rfl rfl (rle rfl) rfl (st := []) rfl (Nat.le_of_ble_eq_true rfl) dX7_place_2 rfl (fun D1 => ?_)
  refine im_aload_n C 6 0 dX7_place_5 rfl rfl rfl ?_
  refine gl_X7_21 C 9 (h0.1 16 (by decide) (by decide)) dX7_place_6 rfl ?_
  refine im_aload_n C 10 1 dX7_place_9 rfl rfl rfl ?_
  refine gl_X7_55 C 13 (h1 1 (by decide) (by decide)) dX7_place_10 rfl ?_
  refine im_iload_n C 14 2 dX7_place_13 rfl rfl rfl ?_
  refine im_cVP C 17 vk_X0_placeBy gw_538 (c_X0_placeBy (b := b) (x1 := D1 1 b1 0) (x2 := x2) hU h0.2) (h0.2 19 (by decide) (by decide)) rfl rfl (rle rfl) rfl (st := []) rfl (Nat.le_of_ble_eq_true rfl) dX7_place_14 rfl (fun o2 => ?_)
  exact im_iret C rfl rfl dX7_place_17
set_option maxRecDepth 100000 in
set_option maxHeartbeats 4000000 in
theorem c_X5_putCurrent {l : Launch} {G : va_G} {ad : Nat → Nat → Nat} {U : List (Nat × Nat)} {D : Dt} {b : Nat} {x1 : Int32} {x2 : Int32} {x3 : Int32} (hU : Uinj ad U) (h0 : SpU U b) : MV l G ad U yX5_putCurrent cX5_putCurrent 4 (k2_rm 0 0) [.ref (ad 1 b), .int x1, .int x2, .int x3] D (f_X5_putCurrent b x1 x2 x3 D) := by
  refine mV_of0 (lv := [(0, .ref (ad 1 b)), (1, .int x1), (2, .int x2), (3, .int x3)]) (by decide) hU rfl (Nat.le_of_ble_eq_true rfl) (fun A p e s m args below meth c C => ?_)
  have C : Cx G ad U A p s m meth c args cX5_putCurrent RX5 4 none := C
  unfold f_X5_putCurrent
  refine im_aload_n C 1 0 dX5_putCurrent_0 rfl rfl rfl ?_
  refine gl_X5_18 C 4 (h0 1 (by decide) (by decide)) dX5_putCurrent_1 rfl ?_
  refine im_iload_n C 5 1 dX5_putCurrent_4 rfl rfl rfl ?_
  refine im_iload_n C 6 2 dX5_putCurrent_5 rfl rfl rfl ?_
  refine im_wri C 7 12 (h0 4 (by decide) (by decide)) (fun _ => rfl) dX5_putCurrent_6 rfl (fun D1 => ?_)
  refine im_aload_n C 8 0 dX5_putCurrent_7 rfl rfl rfl ?_
  refine gl_X5_21 C 11 (h0 1 (by decide) (by decide)) dX5_putCurrent_8 rfl ?_
  refine im_iload_n C 12 1 dX5_putCurrent_11 rfl rfl rfl ?_
  refine im_iload_n C 13 3 dX5_putCurrent_12 rfl rfl rfl ?_
  refine im_wri C 14 12 (h0 5 (by decide) (by decide)) (fun _ => rfl) dX5_putCurrent_13 rfl (fun D2 => ?_)
  exact im_vret C rfl dX5_putCurrent_14
set_option maxRecDepth 100000 in
set_option maxHeartbeats 4000000 in
theorem c_X2_isMember {l : Launch} {G : va_G} {ad : Nat → Nat → Nat} {U : List (Nat × Nat)} {D : Dt} {b : Nat} {x1 : Int32} (hU : Uinj ad U) (h0 : HoU U b) : MI l G ad U yX2_isMember cX2_isMember 2 .boolean (k2_rm 0 0) [.ref (ad 9 b), .int x1] D ((f_X2_isMember b x1 D).bind (fun r => some (r, D))) := by
  refine mI_of (lv := [(0, .ref (ad 9 b)), (1, .int x1)]) (by decide) hU rfl (Nat.le_of_ble_eq_true rfl) (fun A p e s m args below meth c C => ?_)
  have C : Cx G ad U A p s m meth c args cX2_isMember RX2 2 (some .boolean) := C
  unfold f_X2_isMember
  refine im_aload_n C 1 0 dX2_isMember_0 rfl rfl rfl ?_
  refine gl_X2_9 C 4 (h0 9 (by decide) (by decide)) dX2_isMember_1 rfl ?_
  refine im_iload_n C 5 1 dX2_isMember_4 rfl rfl rfl ?_
  refine im_rdi C 6 16 (h0 10 (by decide) (by decide)) rfl dX2_isMember_5 rfl (fun v1 => ?_)
  refine im_iconst C 7 dX2_isMember_6 rfl k_icm1 ?_
  refine im_ic_eq C 14 10 dX2_isMember_7 rfl rfl ?_ ?_
  · refine im_iconst C 15 dX2_isMember_14 rfl k_ic0 ?_
    exact im_iret C rfl rfl dX2_isMember_15
  · refine im_iconst C 11 dX2_isMember_10 rfl k_ic1 ?_
    refine im_goto C 15 dX2_isMember_11 rfl ?_
    exact im_iret C rfl rfl dX2_isMember_15
set_option maxRecDepth 100000 in
set_option maxHeartbeats 4000000 in
theorem c_X2_enrol {l : Launch} {G : va_G} {ad : Nat → Nat → Nat} {U : List (Nat × Nat)} {D : Dt} {b : Nat} {x1 : Int32} {x2 : Int32} {x3 : Int32} (hU : Uinj ad U) (h0 : HoU U b) : MV l G ad U yX2_enrol cX2_enrol 4 (k2_rm 0 0) [.ref (ad 9 b), .int x1, .int x2, .int x3] D (f_X2_enrol b x1 x2 x3 D) := by
  refine mV_of0 (lv := [(0, .ref (ad 9 b)), (1, .int x1), (2, .int x2), (3, .int x3)]) (by decide) hU rfl (Nat.le_of_ble_eq_true rfl) (fun A p e s m args below meth c C => ?_)
  have C : Cx G ad U A p s m meth c args cX2_enrol RX2 4 none := C
  unfold f_X2_enrol
  refine im_aload_n C 1 0 dX2_enrol_0 rfl rfl rfl ?_
  refine gl_X2_9 C 4 (h0 9 (by decide) (by decide)) dX2_enrol_1 rfl ?_
  refine im_iload_n C 5 1 dX2_enrol_4 rfl rfl rfl ?_
  refine im_iload_n C 6 2 dX2_enrol_5 rfl rfl rfl ?_
  refine im_wri C 7 16 (h0 10 (by decide) (by decide)) (fun _ => rfl) dX2_enrol_6 rfl (fun D1 => ?_)
  refine im_aload_n C 8 0 dX2_enrol_7 rfl rfl rfl ?_
  refine gl_X2_15 C 11 (h0 9 (by decide) (by decide)) dX2_enrol_8 rfl ?_
  refine im_iload_n C 12 1 dX2_enrol_11 rfl rfl rfl ?_
  refine im_iload_n C 13 3 dX2_enrol_12 rfl rfl rfl ?_
  refine im_wri C 14 16 (h0 11 (by decide) (by decide)) (fun _ => rfl) dX2_enrol_13 rfl (fun D2 => ?_)
  exact im_vret C rfl dX2_enrol_14
set_option maxRecDepth 100000 in
set_option maxHeartbeats 4000000 in
theorem c_X1_stateAt {l : Launch} {G : va_G} {ad : Nat → Nat → Nat} {U : List (Nat × Nat)} {D : Dt} {x1 : Int32} (hU : Uinj ad U) (h0 : HiU U) : MR l G ad U yX1_stateAt cX1_stateAt 2 (.object "PoolRenumberer$State") (k2_rm 1 22) [.ref (ad 24 0), .int x1] D (f_X1_stateAt x1 D) := by
  refine mR_of0 (lv := [(0, .ref (ad 24 0)), (1, .int x1)]) (by decide) hU rfl (Nat.le_of_ble_eq_true rfl) (fun A p e s m args below meth c C => ?_)
  have C : Cx G ad U A p s m meth c args cX1_stateAt RX1 2 (some (.object "PoolRenumberer$State")) := C
  unfold f_X1_stateAt
  refine im_iload_n C 1 1 dX1_stateAt_0 rfl rfl rfl ?_
  refine im_iconst C 2 dX1_stateAt_1 rfl k_ic0 ?_
  refine im_iconst C 3 dX1_stateAt_2 rfl k_ic5 ?_
  refine im_cSNP C 6 sk_X9_isIn gw_583 (c_X9_isIn (x0 := x1) (x1 := (0 : Int32)) (x2 := (5 : Int32)) hU) (rle rfl) rfl (st := []) rfl (Nat.le_of_ble_eq_true rfl) dX1_stateAt_3 rfl (fun o1 => ?_)
  refine im_if_eq C 18 9 dX1_stateAt_6 rfl rfl ?_ ?_
  · exact im_none
  · refine im_aload_n C 10 0 dX1_stateAt_9 rfl rfl rfl ?_
    refine gl_X1_11 C 13 (h0.1 24 (by decide) (by decide)) dX1_stateAt_10 rfl ?_
    refine im_iload_n C 14 1 dX1_stateAt_13 rfl rfl rfl ?_
    refine im_aaldring C 15 (h0.1 25 (by decide) (by decide)) dX1_stateAt_14 rfl ?_
    refine im_goto C 19 dX1_stateAt_15 rfl ?_
    exact im_rret C (Or.inl ⟨_, rfl⟩) rfl dX1_stateAt_19
set_option maxRecDepth 100000 in
set_option maxHeartbeats 4000000 in
theorem c_X5_copyFrom {l : Launch} {G : va_G} {ad : Nat → Nat → Nat} {U : List (Nat × Nat)} {D : Dt} {b : Nat} {b1 : Nat} (hU : Uinj ad U) (h0 : SpU U b) (h1 : SpU U b1) : MV l G ad U yX5_copyFrom cX5_copyFrom 2 (k2_rm 2 81) [.ref (ad 1 b), .ref (ad 1 b1)] D (f_X5_copyFrom b b1 D) := by
  refine mV_of0 (lv := [(0, .ref (ad 1 b)), (1, .ref (ad 1 b1))]) (by decide) hU rfl (Nat.le_of_ble_eq_true rfl) (fun A p e s m args below meth c C => ?_)
  have C : Cx G ad U A p s m meth c args cX5_copyFrom RX5 2 none := C
  unfold f_X5_copyFrom
  refine im_aload_n C 1 0 dX5_copyFrom_0 rfl rfl rfl ?_
  refine im_aload_n C 2 1 dX5_copyFrom_1 rfl rfl rfl ?_
  refine gl_X5_36 C 5 (h1 1 (by decide) (by decide)) dX5_copyFrom_2 rfl ?_
  refine pl_X5_36 C 8 (h0 1 (by decide) (by decide)) dX5_copyFrom_5 rfl (fun D1 => ?_)
  refine im_aload_n C 9 0 dX5_copyFrom_8 rfl rfl rfl ?_
  refine im_aload_n C 10 1 dX5_copyFrom_9 rfl rfl rfl ?_
  refine gl_X5_40 C 13 (h1 1 (by decide) (by decide)) dX5_copyFrom_10 rfl ?_
  refine pl_X5_40 C 16 (h0 1 (by decide) (by decide)) dX5_copyFrom_13 rfl (fun D2 => ?_)
  refine im_aload_n C 17 1 dX5_copyFrom_16 rfl rfl rfl ?_
  refine gl_X5_9 C 20 (h1 1 (by decide) (by decide)) dX5_copyFrom_17 rfl ?_
  refine im_aload_n C 21 0 dX5_copyFrom_20 rfl rfl rfl ?_
  refine gl_X5_9 C 24 (h0 1 (by decide) (by decide)) dX5_copyFrom_21 rfl ?_
  refine im_cSNV C 27 sk_X9_copyRow gw_592 (c_X9_copyRow 2 4 hU (h1 2 (by decide) (by decide)) (h0 2 (by decide) (by decide)) (fun _ _ => rfl) (by decide)) (rle rfl) rfl (st := []) rfl (Nat.le_of_ble_eq_true rfl) dX5_copyFrom_24 rfl (fun D3 => ?_)
  refine im_aload_n C 28 1 dX5_copyFrom_27 rfl rfl rfl ?_
  refine gl_X5_15 C 31 (h1 1 (by decide) (by decide)) dX5_copyFrom_28 rfl ?_
  refine im_aload_n C 32 0 dX5_copyFrom_31 rfl rfl rfl ?_
  refine gl_X5_15 C 35 (h0 1 (by decide) (by decide)) dX5_copyFrom_32 rfl ?_
  refine im_cSNV C 38 sk_X9_copyRow gw_592 (c_X9_copyRow 3 4 hU (h1 3 (by decide) (by decide)) (h0 3 (by decide) (by decide)) (fun _ _ => rfl) (by decide)) (rle rfl) rfl (st := []) rfl (Nat.le_of_ble_eq_true rfl) dX5_copyFrom_35 rfl (fun D4 => ?_)
  refine im_aload_n C 39 1 dX5_copyFrom_38 rfl rfl rfl ?_
  refine gl_X5_18 C 42 (h1 1 (by decide) (by decide)) dX5_copyFrom_39 rfl ?_
  refine im_aload_n C 43 0 dX5_copyFrom_42 rfl rfl rfl ?_
  refine gl_X5_18 C 46 (h0 1 (by decide) (by decide)) dX5_copyFrom_43 rfl ?_
  refine im_cSNV C 49 sk_X9_copyRow gw_592 (c_X9_copyRow 4 12 hU (h1 4 (by decide) (by decide)) (h0 4 (by decide) (by decide)) (fun _ _ => rfl) (by decide)) (rle rfl) rfl (st := []) rfl (Nat.le_of_ble_eq_true rfl) dX5_copyFrom_46 rfl (fun D5 => ?_)
  refine im_aload_n C 50 1 dX5_copyFrom_49 rfl rfl rfl ?_
  refine gl_X5_21 C 53 (h1 1 (by decide) (by decide)) dX5_copyFrom_50 rfl ?_
  refine im_aload_n C 54 0 dX5_copyFrom_53 rfl rfl rfl ?_
  refine gl_X5_21 C 57 (h0 1 (by decide) (by decide)) dX5_copyFrom_54 rfl ?_
  refine im_cSNV C 60 sk_X9_copyRow gw_592 (c_X9_copyRow 5 12 hU (h1 5 (by decide) (by decide)) (h0 5 (by decide) (by decide)) (fun _ _ => rfl) (by decide)) (rle rfl) rfl (st := []) rfl (Nat.le_of_ble_eq_true rfl) dX5_copyFrom_57 rfl (fun D6 => ?_)
  refine im_aload_n C 61 1 dX5_copyFrom_60 rfl rfl rfl ?_
  refine gl_X5_24 C 64 (h1 1 (by decide) (by decide)) dX5_copyFrom_61 rfl ?_
  refine im_aload_n C 65 0 dX5_copyFrom_64 rfl rfl rfl ?_
  refine gl_X5_24 C 68 (h0 1 (by decide) (by decide)) dX5_copyFrom_65 rfl ?_
  refine im_cSNV C 71 sk_X9_copyRow gw_592 (c_X9_copyRow 6 12 hU (h1 6 (by decide) (by decide)) (h0 6 (by decide) (by decide)) (fun _ _ => rfl) (by decide)) (rle rfl) rfl (st := []) rfl (Nat.le_of_ble_eq_true rfl) dX5_copyFrom_68 rfl (fun D7 => ?_)
  refine im_aload_n C 72 1 dX5_copyFrom_71 rfl rfl rfl ?_
  refine gl_X5_27 C 75 (h1 1 (by decide) (by decide)) dX5_copyFrom_72 rfl ?_
  refine im_aload_n C 76 0 dX5_copyFrom_75 rfl rfl rfl ?_
  refine gl_X5_27 C 79 (h0 1 (by decide) (by decide)) dX5_copyFrom_76 rfl ?_
  refine im_cSNV C 82 sk_X9_copyRow gw_592 (c_X9_copyRow 7 12 hU (h1 7 (by decide) (by decide)) (h0 7 (by decide) (by decide)) (fun _ _ => rfl) (by decide)) (rle rfl) rfl (st := []) rfl (Nat.le_of_ble_eq_true rfl) dX5_copyFrom_79 rfl (fun D8 => ?_)
  refine im_aload_n C 83 1 dX5_copyFrom_82 rfl rfl rfl ?_
  refine gl_X5_30 C 86 (h1 1 (by decide) (by decide)) dX5_copyFrom_83 rfl ?_
  refine im_aload_n C 87 0 dX5_copyFrom_86 rfl rfl rfl ?_
  refine gl_X5_30 C 90 (h0 1 (by decide) (by decide)) dX5_copyFrom_87 rfl ?_
  refine im_cSNV C 93 sk_X9_copyRow gw_592 (c_X9_copyRow 8 12 hU (h1 8 (by decide) (by decide)) (h0 8 (by decide) (by decide)) (fun _ _ => rfl) (by decide)) (rle rfl) rfl (st := []) rfl (Nat.le_of_ble_eq_true rfl) dX5_copyFrom_90 rfl (fun D9 => ?_)
  exact im_vret C rfl dX5_copyFrom_93
set_option maxRecDepth 100000 in
set_option maxHeartbeats 4000000 in
theorem c_X2_copyFrom {l : Launch} {G : va_G} {ad : Nat → Nat → Nat} {U : List (Nat × Nat)} {D : Dt} {b : Nat} {b1 : Nat} (hU : Uinj ad U) (h0 : HoU U b) (h1 : HoU U b1) : MV l G ad U yX2_copyFrom cX2_copyFrom 2 (k2_rm 2 81) [.ref (ad 9 b), .ref (ad 9 b1)] D (f_X2_copyFrom b b1 D) := by
  refine mV_of0 (lv := [(0, .ref (ad 9 b)), (1, .ref (ad 9 b1))]) (by decide) hU rfl (Nat.le_of_ble_eq_true rfl) (fun A p e s m args below meth c C => ?_)
  have C : Cx G ad U A p s m meth c args cX2_copyFrom RX2 2 none := C
  unfold f_X2_copyFrom
  refine im_aload_n C 1 1 dX2_copyFrom_0 rfl rfl rfl ?_
  refine gl_X2_9 C 4 (h1 9 (by decide) (by decide)) dX2_copyFrom_1 rfl ?_
  refine im_aload_n C 5 0 dX2_copyFrom_4 rfl rfl rfl ?_
  refine gl_X2_9 C 8 (h0 9 (by decide) (by decide)) dX2_copyFrom_5 rfl ?_
  refine im_cSNV C 11 sk_X9_copyRow gw_605 (c_X9_copyRow 10 16 hU (h1 10 (by decide) (by decide)) (h0 10 (by decide) (by decide)) (fun _ _ => rfl) (by decide)) (rle rfl) rfl (st := []) rfl (Nat.le_of_ble_eq_true rfl) dX2_copyFrom_8 rfl (fun D1 => ?_)
  refine im_aload_n C 12 1 dX2_copyFrom_11 rfl rfl rfl ?_
  refine gl_X2_15 C 15 (h1 9 (by decide) (by decide)) dX2_copyFrom_12 rfl ?_
  refine im_aload_n C 16 0 dX2_copyFrom_15 rfl rfl rfl ?_
  refine gl_X2_15 C 19 (h0 9 (by decide) (by decide)) dX2_copyFrom_16 rfl ?_
  refine im_cSNV C 22 sk_X9_copyRow gw_605 (c_X9_copyRow 11 16 hU (h1 11 (by decide) (by decide)) (h0 11 (by decide) (by decide)) (fun _ _ => rfl) (by decide)) (rle rfl) rfl (st := []) rfl (Nat.le_of_ble_eq_true rfl) dX2_copyFrom_19 rfl (fun D2 => ?_)
  refine im_aload_n C 23 1 dX2_copyFrom_22 rfl rfl rfl ?_
  refine gl_X2_18 C 26 (h1 9 (by decide) (by decide)) dX2_copyFrom_23 rfl ?_
  refine im_aload_n C 27 0 dX2_copyFrom_26 rfl rfl rfl ?_
  refine gl_X2_18 C 30 (h0 9 (by decide) (by decide)) dX2_copyFrom_27 rfl ?_
  refine im_cSNV C 33 sk_X9_copyRow gw_605 (c_X9_copyRow 12 16 hU (h1 12 (by decide) (by decide)) (h0 12 (by decide) (by decide)) (fun _ _ => rfl) (by decide)) (rle rfl) rfl (st := []) rfl (Nat.le_of_ble_eq_true rfl) dX2_copyFrom_30 rfl (fun D3 => ?_)
  refine im_aload_n C 34 1 dX2_copyFrom_33 rfl rfl rfl ?_
  refine gl_X2_21 C 37 (h1 9 (by decide) (by decide)) dX2_copyFrom_34 rfl ?_
  refine im_aload_n C 38 0 dX2_copyFrom_37 rfl rfl rfl ?_
  refine gl_X2_21 C 41 (h0 9 (by decide) (by decide)) dX2_copyFrom_38 rfl ?_
  refine im_cSNV C 44 sk_X9_copyRow gw_605 (c_X9_copyRow 13 16 hU (h1 13 (by decide) (by decide)) (h0 13 (by decide) (by decide)) (fun _ _ => rfl) (by decide)) (rle rfl) rfl (st := []) rfl (Nat.le_of_ble_eq_true rfl) dX2_copyFrom_41 rfl (fun D4 => ?_)
  refine im_aload_n C 45 1 dX2_copyFrom_44 rfl rfl rfl ?_
  refine gl_X2_24 C 48 (h1 9 (by decide) (by decide)) dX2_copyFrom_45 rfl ?_
  refine im_aload_n C 49 0 dX2_copyFrom_48 rfl rfl rfl ?_
  refine gl_X2_24 C 52 (h0 9 (by decide) (by decide)) dX2_copyFrom_49 rfl ?_
  refine im_cSNV C 55 sk_X9_copyRow gw_605 (c_X9_copyRow 14 16 hU (h1 14 (by decide) (by decide)) (h0 14 (by decide) (by decide)) (fun _ _ => rfl) (by decide)) (rle rfl) rfl (st := []) rfl (Nat.le_of_ble_eq_true rfl) dX2_copyFrom_52 rfl (fun D5 => ?_)
  refine im_aload_n C 56 1 dX2_copyFrom_55 rfl rfl rfl ?_
  refine gl_X2_27 C 59 (h1 9 (by decide) (by decide)) dX2_copyFrom_56 rfl ?_
  refine im_aload_n C 60 0 dX2_copyFrom_59 rfl rfl rfl ?_
  refine gl_X2_27 C 63 (h0 9 (by decide) (by decide)) dX2_copyFrom_60 rfl ?_
  refine im_cSNV C 66 sk_X9_copyRow gw_605 (c_X9_copyRow 15 16 hU (h1 15 (by decide) (by decide)) (h0 15 (by decide) (by decide)) (fun _ _ => rfl) (by decide)) (rle rfl) rfl (st := []) rfl (Nat.le_of_ble_eq_true rfl) dX2_copyFrom_63 rfl (fun D6 => ?_)
  exact im_vret C rfl dX2_copyFrom_66
set_option maxRecDepth 100000 in
set_option maxHeartbeats 4000000 in
theorem c_X6_copyFrom {l : Launch} {G : va_G} {ad : Nat → Nat → Nat} {U : List (Nat × Nat)} {D : Dt} {b : Nat} {b1 : Nat} (hU : Uinj ad U) (h0 : StU U b) (h1 : StU U b1) : MV l G ad U yX6_copyFrom cX6_copyFrom 2 (k2_rm 3 102) [.ref (ad 0 b), .ref (ad 0 b1)] D (f_X6_copyFrom b b1 D) := by
  refine mV_of0 (lv := [(0, .ref (ad 0 b)), (1, .ref (ad 0 b1))]) (by decide) hU rfl (Nat.le_of_ble_eq_true rfl) (fun A p e s m args below meth c C => ?_)
  have C : Cx G ad U A p s m meth c args cX6_copyFrom RX6 2 none := C
  unfold f_X6_copyFrom
  refine im_aload_n C 1 0 dX6_copyFrom_0 rfl rfl rfl ?_
  refine gl_X6_12 C 4 (h0.1 0 (by decide) (by decide)) dX6_copyFrom_1 rfl ?_
  refine im_aload_n C 5 1 dX6_copyFrom_4 rfl rfl rfl ?_
  refine gl_X6_12 C 8 (h1.1 0 (by decide) (by decide)) dX6_copyFrom_5 rfl ?_
  refine im_cVV C 11 vk_X5_copyFrom gw_588 (c_X5_copyFrom (b := b) (b1 := b1) hU h0.2.1 h1.2.1) (h0.2.1 1 (by decide) (by decide)) rfl rfl (rle rfl) rfl (st := []) rfl (Nat.le_of_ble_eq_true rfl) dX6_copyFrom_8 rfl (fun D1 => ?_)
  refine im_aload_n C 12 0 dX6_copyFrom_11 rfl rfl rfl ?_
  refine gl_X6_21 C 15 (h0.1 0 (by decide) (by decide)) dX6_copyFrom_12 rfl ?_
  refine im_aload_n C 16 1 dX6_copyFrom_15 rfl rfl rfl ?_
  refine gl_X6_21 C 19 (h1.1 0 (by decide) (by decide)) dX6_copyFrom_16 rfl ?_
  refine im_cVV C 22 vk_X2_copyFrom gw_601 (c_X2_copyFrom (b := b) (b1 := b1) hU h0.2.2 h1.2.2) (h0.2.2 9 (by decide) (by decide)) rfl rfl (rle rfl) rfl (st := []) rfl (Nat.le_of_ble_eq_true rfl) dX6_copyFrom_19 rfl (fun D2 => ?_)
  refine im_aload_n C 23 0 dX6_copyFrom_22 rfl rfl rfl ?_
  refine im_aload_n C 24 1 dX6_copyFrom_23 rfl rfl rfl ?_
  refine gl_X6_30 C 27 (h1.1 0 (by decide) (by decide)) dX6_copyFrom_24 rfl ?_
  refine pl_X6_30 C 30 (h0.1 0 (by decide) (by decide)) dX6_copyFrom_27 rfl (fun D3 => ?_)
  refine im_aload_n C 31 0 dX6_copyFrom_30 rfl rfl rfl ?_
  refine im_aload_n C 32 1 dX6_copyFrom_31 rfl rfl rfl ?_
  refine gl_X6_34 C 35 (h1.1 0 (by decide) (by decide)) dX6_copyFrom_32 rfl ?_
  refine pl_X6_34 C 38 (h0.1 0 (by decide) (by decide)) dX6_copyFrom_35 rfl (fun D4 => ?_)
  refine im_aload_n C 39 0 dX6_copyFrom_38 rfl rfl rfl ?_
  refine im_aload_n C 40 1 dX6_copyFrom_39 rfl rfl rfl ?_
  refine gl_X6_37 C 43 (h1.1 0 (by decide) (by decide)) dX6_copyFrom_40 rfl ?_
  refine pl_X6_37 C 46 (h0.1 0 (by decide) (by decide)) dX6_copyFrom_43 rfl (fun D5 => ?_)
  refine im_aload_n C 47 0 dX6_copyFrom_46 rfl rfl rfl ?_
  refine im_aload_n C 48 1 dX6_copyFrom_47 rfl rfl rfl ?_
  refine gl_X6_40 C 51 (h1.1 0 (by decide) (by decide)) dX6_copyFrom_48 rfl ?_
  refine pl_X6_40 C 54 (h0.1 0 (by decide) (by decide)) dX6_copyFrom_51 rfl (fun D6 => ?_)
  exact im_vret C rfl dX6_copyFrom_54
set_option maxRecDepth 100000 in
set_option maxHeartbeats 4000000 in
theorem c_X1_keep {l : Launch} {G : va_G} {ad : Nat → Nat → Nat} {U : List (Nat × Nat)} {D : Dt} {b1 : Nat} (hU : Uinj ad U) (h0 : HiU U) (h1 : StU U b1) : MV l G ad U yX1_keep cX1_keep 3 (k2_rm 4 123) [.ref (ad 24 0), .ref (ad 0 b1)] D (f_X1_keep b1 D) := by
  refine mV_of0 (lv := [(0, .ref (ad 24 0)), (1, .ref (ad 0 b1))]) (by decide) hU rfl (Nat.le_of_ble_eq_true rfl) (fun A p e s m args below meth c C => ?_)
  have C : Cx G ad U A p s m meth c args cX1_keep RX1 3 none := C
  unfold f_X1_keep
  refine im_aload_n C 1 0 dX1_keep_0 rfl rfl rfl ?_
  refine im_aload_n C 2 0 dX1_keep_1 rfl rfl rfl ?_
  refine gl_X1_18 C 5 (h0.1 24 (by decide) (by decide)) dX1_keep_2 rfl ?_
  refine im_cVR C 8 vk_X1_stateAt gw_579 (c_X1_stateAt (x1 := D 24 0 1) hU h0) (h0.1 24 (by decide) (by decide)) rfl rfl (rle rfl) rfl (st := []) rfl (Nat.le_of_ble_eq_true rfl) dX1_keep_5 rfl (fun o1 => ?_)
  refine im_gd (fun hgo1 => ?_)
  refine im_astore_n C 9 [(2, .ref (ad 0 o1.1)), (0, .ref (ad 24 0)), (1, .ref (ad 0 b1))] dX1_keep_8 rfl (by decide) rfl rfl ?_
  refine im_aload_n C 10 0 dX1_keep_9 rfl rfl rfl ?_
  refine im_ifnull C 13 dX1_keep_10 rfl ?_
  refine im_aload_n C 14 0 dX1_keep_13 rfl rfl rfl ?_
  refine im_aload_n C 15 2 dX1_keep_14 rfl rfl rfl ?_
  refine im_cVV C 18 vk_X6_copyFrom gw_584 (c_X6_copyFrom (b := o1.1) (b1 := b1) hU (ring_at h0 hgo1) h1) ((ring_at h0 hgo1).1 0 (by decide) (by decide)) rfl rfl (rle rfl) rfl (st := []) rfl (Nat.le_of_ble_eq_true rfl) dX1_keep_15 rfl (fun D2 => ?_)
  refine im_aload_n C 19 1 dX1_keep_18 rfl rfl rfl ?_
  refine im_aload_n C 20 1 dX1_keep_19 rfl rfl rfl ?_
  refine gl_X1_18 C 23 (h0.1 24 (by decide) (by decide)) dX1_keep_20 rfl ?_
  refine im_iconst C 24 dX1_keep_23 rfl k_ic1 ?_
  refine im_iadd C 25 dX1_keep_24 rfl ?_
  refine im_bipush C 27 dX1_keep_25 rfl k_bp6 ?_
  refine im_irem C 28 dX1_keep_27 rfl ?_
  refine pl_X1_18 C 31 (h0.1 24 (by decide) (by decide)) dX1_keep_28 rfl (fun D3 => ?_)
  refine im_aload_n C 32 1 dX1_keep_31 rfl rfl rfl ?_
  refine im_aload_n C 33 1 dX1_keep_32 rfl rfl rfl ?_
  refine gl_X1_30 C 36 (h0.1 24 (by decide) (by decide)) dX1_keep_33 rfl ?_
  refine im_iconst C 37 dX1_keep_36 rfl k_ic1 ?_
  refine im_iadd C 38 dX1_keep_37 rfl ?_
  refine im_bipush C 40 dX1_keep_38 rfl k_bp6 ?_
  refine im_mmin C 43 gw_606 dX1_keep_40 rfl ⟨Nat.le_of_ble_eq_true rfl, Nat.le_of_ble_eq_true rfl⟩ ?_
  refine pl_X1_30 C 46 (h0.1 24 (by decide) (by decide)) dX1_keep_43 rfl (fun D4 => ?_)
  exact im_vret C rfl dX1_keep_46
set_option maxRecDepth 100000 in
set_option maxHeartbeats 4000000 in
theorem c_X5_isPool {l : Launch} {G : va_G} {ad : Nat → Nat → Nat} {U : List (Nat × Nat)} {D : Dt} {b : Nat} {x1 : Int32} (hU : Uinj ad U) (h0 : SpU U b) : MI l G ad U yX5_isPool cX5_isPool 2 .boolean (k2_rm 0 0) [.ref (ad 1 b), .int x1] D ((f_X5_isPool b x1 D).bind (fun r => some (r, D))) := by
  refine mI_of (lv := [(0, .ref (ad 1 b)), (1, .int x1)]) (by decide) hU rfl (Nat.le_of_ble_eq_true rfl) (fun A p e s m args below meth c C => ?_)
  have C : Cx G ad U A p s m meth c args cX5_isPool RX5 2 (some .boolean) := C
  unfold f_X5_isPool
  refine im_iload_n C 1 1 dX5_isPool_0 rfl rfl rfl ?_
  refine im_if_lt C 21 4 dX5_isPool_1 rfl rfl ?_ ?_
  · refine im_iconst C 22 dX5_isPool_21 rfl k_ic0 ?_
    exact im_iret C rfl rfl dX5_isPool_22
  · refine im_iload_n C 5 1 dX5_isPool_4 rfl rfl rfl ?_
    refine im_aload_n C 6 0 dX5_isPool_5 rfl rfl rfl ?_
    refine gl_X5_40 C 9 (h0 1 (by decide) (by decide)) dX5_isPool_6 rfl ?_
    refine im_ic_ge C 21 12 dX5_isPool_9 rfl rfl ?_ ?_
    · refine im_iconst C 22 dX5_isPool_21 rfl k_ic0 ?_
      exact im_iret C rfl rfl dX5_isPool_22
    · refine im_iload_n C 13 1 dX5_isPool_12 rfl rfl rfl ?_
      refine im_iconst C 14 dX5_isPool_13 rfl k_ic4 ?_
      refine im_ic_ge C 21 17 dX5_isPool_14 rfl rfl ?_ ?_
      · refine im_iconst C 22 dX5_isPool_21 rfl k_ic0 ?_
        exact im_iret C rfl rfl dX5_isPool_22
      · refine im_iconst C 18 dX5_isPool_17 rfl k_ic1 ?_
        refine im_goto C 22 dX5_isPool_18 rfl ?_
        exact im_iret C rfl rfl dX5_isPool_22
set_option maxRecDepth 100000 in
set_option maxHeartbeats 4000000 in
theorem c_X0_addressesIn {l : Launch} {G : va_G} {ad : Nat → Nat → Nat} {U : List (Nat × Nat)} {D : Dt} {b : Nat} {x1 : Int32} {x2 : Int32} (hU : Uinj ad U) (h0 : BlU U b) : MI l G ad U yX0_addressesIn cX0_addressesIn 5 .int (k2_rm 2 42) [.ref (ad 19 b), .int x1, .int x2] D ((f_X0_addressesIn b x1 x2 D).bind (fun r => some (r, D))) := by
  refine mI_of (lv := [(0, .ref (ad 19 b)), (1, .int x1), (2, .int x2)]) (by decide) hU rfl (Nat.le_of_ble_eq_true rfl) (fun A p e s m args below meth c C => ?_)
  have C : Cx G ad U A p s m meth c args cX0_addressesIn RX0 5 (some .int) := C
  unfold f_X0_addressesIn
  refine im_iconst C 1 dX0_addressesIn_0 rfl k_ic0 ?_
  refine im_istore_n C 2 [(3, .int (0 : Int32)), (0, .ref (ad 19 b)), (1, .int x1), (2, .int x2)] dX0_addressesIn_1 rfl (by decide) rfl rfl ?_
  refine im_iconst C 3 dX0_addressesIn_2 rfl k_ic0 ?_
  refine im_istore C 5 [(4, .int (0 : Int32)), (3, .int (0 : Int32)), (0, .ref (ad 19 b)), (1, .int x1), (2, .int x2)] dX0_addressesIn_3 (by decide) rfl rfl ?_
  refine im_sub [2, 3, 4, 1, 0] [(0, .ref (ad 19 b)), (1, .int x1), (2, .int x2), (3, .int (0 : Int32)), (4, .int (0 : Int32))] rfl ?_
  refine im_lpB (l_X0_addressesIn_5 b x1 x2 D) (fun z5 => [(0, .ref (ad 19 b)), (1, .int x1), (2, .int x2), (3, .int z5.1), (4, .int z5.2)]) (fun z5 => D) 60 (fun e1 => [(3, .int e1)]) (fun e1 => D) (fun e1 => ?_) (fun z5 X_z5 hX_z5 hE_z5 => ?_) FU ((0 : Int32), (0 : Int32))
  · refine im_iload_n C 61 0 dX0_addressesIn_60 rfl rfl rfl ?_
    exact im_iret C rfl rfl dX0_addressesIn_61
  · unfold l_X0_addressesIn_5
    refine im_iload C 7 4 dX0_addressesIn_5 rfl rfl ?_
    refine im_sipush C 10 dX0_addressesIn_7 rfl k_sp292 ?_
    refine im_ic_ge C 60 13 dX0_addressesIn_10 rfl rfl ?_ ?_
    · exact im_sub [3] [(3, .int z5.1)] rfl (hE_z5 z5.1)
    · refine im_iload C 15 4 dX0_addressesIn_13 rfl rfl ?_
      refine im_aload_n C 16 0 dX0_addressesIn_15 rfl rfl rfl ?_
      refine gl_X0_18 C 19 (h0 19 (by decide) (by decide)) dX0_addressesIn_16 rfl ?_
      refine im_ic_ge C 60 22 dX0_addressesIn_19 rfl rfl ?_ ?_
      · exact im_sub [3] [(3, .int z5.1)] rfl (hE_z5 z5.1)
      · refine im_iload_n C 23 3 dX0_addressesIn_22 rfl rfl rfl ?_
        refine im_iload_n C 24 1 dX0_addressesIn_23 rfl rfl rfl ?_
        refine im_iload_n C 25 2 dX0_addressesIn_24 rfl rfl rfl ?_
        refine im_aload_n C 26 0 dX0_addressesIn_25 rfl rfl rfl ?_
        refine gl_X0_9 C 29 (h0 19 (by decide) (by decide)) dX0_addressesIn_26 rfl ?_
        refine im_iload C 31 4 dX0_addressesIn_29 rfl rfl ?_
        refine im_rdi C 32 292 (h0 20 (by decide) (by decide)) rfl dX0_addressesIn_31 rfl (fun v2 => ?_)
        refine im_cSNP C 35 sk_X9_covers gw_630 (c_X9_covers (x0 := x1) (x1 := x2) (x2 := v2) hU) (rle rfl) rfl (st := [.int z5.1]) rfl (Nat.le_of_ble_eq_true rfl) dX0_addressesIn_32 rfl (fun o3 => ?_)
        refine im_if_eq C 51 38 dX0_addressesIn_35 rfl rfl ?_ ?_
        · refine im_iconst C 52 dX0_addressesIn_51 rfl k_ic0 ?_
          refine im_iadd C 53 dX0_addressesIn_52 rfl ?_
          refine im_istore_n C 54 [(3, .int (z5.1 + (0 : Int32))), (0, .ref (ad 19 b)), (1, .int x1), (2, .int x2), (4, .int z5.2)] dX0_addressesIn_53 rfl (by decide) rfl rfl ?_
          refine im_iinc C 57 4 [(4, .int (z5.2 + (1 : Int32))), (3, .int (z5.1 + (0 : Int32))), (0, .ref (ad 19 b)), (1, .int x1), (2, .int x2)] dX0_addressesIn_54 rfl (k_inc1) (by decide) rfl rfl ?_
          refine im_goto C 5 dX0_addressesIn_57 rfl ?_
          exact im_sub [2, 3, 4, 1, 0] [(0, .ref (ad 19 b)), (1, .int x1), (2, .int x2), (3, .int (z5.1 + (0 : Int32))), (4, .int (z5.2 + (1 : Int32)))] rfl (hX_z5 (z5.1 + (0 : Int32), z5.2 + (1 : Int32)))
        · refine im_aload_n C 39 0 dX0_addressesIn_38 rfl rfl rfl ?_
          refine gl_X0_15 C 42 (h0 19 (by decide) (by decide)) dX0_addressesIn_39 rfl ?_
          refine im_iload C 44 4 dX0_addressesIn_42 rfl rfl ?_
          refine im_rdi C 45 292 (h0 21 (by decide) (by decide)) rfl dX0_addressesIn_44 rfl (fun v4 => ?_)
          refine im_cSNP C 48 sk_X9_sizeOf gw_550 (c_X9_sizeOf (x0 := v4) hU) (rle rfl) rfl (st := [.int z5.1]) rfl (Nat.le_of_ble_eq_true rfl) dX0_addressesIn_45 rfl (fun o5 => ?_)
          refine im_goto C 52 dX0_addressesIn_48 rfl ?_
          refine im_iadd C 53 dX0_addressesIn_52 rfl ?_
          refine im_istore_n C 54 [(3, .int (z5.1 + o5)), (0, .ref (ad 19 b)), (1, .int x1), (2, .int x2), (4, .int z5.2)] dX0_addressesIn_53 rfl (by decide) rfl rfl ?_
          refine im_iinc C 57 4 [(4, .int (z5.2 + (1 : Int32))), (3, .int (z5.1 + o5)), (0, .ref (ad 19 b)), (1, .int x1), (2, .int x2)] dX0_addressesIn_54 rfl (k_inc1) (by decide) rfl rfl ?_
          refine im_goto C 5 dX0_addressesIn_57 rfl ?_
          exact im_sub [2, 3, 4, 1, 0] [(0, .ref (ad 19 b)), (1, .int x1), (2, .int x2), (3, .int (z5.1 + o5)), (4, .int (z5.2 + (1 : Int32)))] rfl (hX_z5 (z5.1 + o5, z5.2 + (1 : Int32)))
set_option maxRecDepth 100000 in
set_option maxHeartbeats 4000000 in
theorem c_X5_dropPool {l : Launch} {G : va_G} {ad : Nat → Nat → Nat} {U : List (Nat × Nat)} {D : Dt} {b : Nat} {x1 : Int32} (hU : Uinj ad U) (h0 : SpU U b) : MV l G ad U yX5_dropPool cX5_dropPool 3 (k2_rm 1 21) [.ref (ad 1 b), .int x1] D (f_X5_dropPool b x1 D) := by
  refine mV_of0 (lv := [(0, .ref (ad 1 b)), (1, .int x1)]) (by decide) hU rfl (Nat.le_of_ble_eq_true rfl) (fun A p e s m args below meth c C => ?_)
  have C : Cx G ad U A p s m meth c args cX5_dropPool RX5 3 none := C
  unfold f_X5_dropPool
  refine im_iload_n C 1 1 dX5_dropPool_0 rfl rfl rfl ?_
  refine im_istore_n C 2 [(2, .int x1), (0, .ref (ad 1 b)), (1, .int x1)] dX5_dropPool_1 rfl (by decide) rfl rfl ?_
  refine im_sub [1, 0] [(0, .ref (ad 1 b)), (2, .int x1)] rfl ?_
  refine im_lpB (l_X5_dropPool_2 b) (fun z2 => [(0, .ref (ad 1 b)), (2, .int z2.1)]) (fun z2 => z2.2) 61 (fun e1 => [(0, .ref (ad 1 b))]) (fun e1 => e1) (fun e1 => ?_) (fun z2 X_z2 hX_z2 hE_z2 => ?_) FU (x1, D)
  · refine im_aload_n C 62 0 dX5_dropPool_61 rfl rfl rfl ?_
    refine im_dup C 63 dX5_dropPool_62 rfl rfl ?_
    refine gl_X5_40 C 66 (h0 1 (by decide) (by decide)) dX5_dropPool_63 rfl ?_
    refine im_iconst C 67 dX5_dropPool_66 rfl k_ic1 ?_
    refine im_isub C 68 dX5_dropPool_67 rfl ?_
    refine pl_X5_40 C 71 (h0 1 (by decide) (by decide)) dX5_dropPool_68 rfl (fun D7 => ?_)
    exact im_vret C rfl dX5_dropPool_71
  · unfold l_X5_dropPool_2
    refine im_aload_n C 3 0 dX5_dropPool_2 rfl rfl rfl ?_
    refine im_iload_n C 4 1 dX5_dropPool_3 rfl rfl rfl ?_
    refine im_cVP C 7 vk_X5_isPool gw_635 (c_X5_isPool (b := b) (x1 := z2.1) hU h0) (h0 1 (by decide) (by decide)) rfl rfl (rle rfl) rfl (st := []) rfl (Nat.le_of_ble_eq_true rfl) dX5_dropPool_4 rfl (fun o2 => ?_)
    refine im_if_eq C 61 10 dX5_dropPool_7 rfl rfl ?_ ?_
    · exact im_sub [0] [(0, .ref (ad 1 b))] rfl (hE_z2 z2.2)
    · refine im_iload_n C 11 1 dX5_dropPool_10 rfl rfl rfl ?_
      refine im_iconst C 12 dX5_dropPool_11 rfl k_ic1 ?_
      refine im_iadd C 13 dX5_dropPool_12 rfl ?_
      refine im_iconst C 14 dX5_dropPool_13 rfl k_ic4 ?_
      refine im_ic_ge C 61 17 dX5_dropPool_14 rfl rfl ?_ ?_
      · exact im_sub [0] [(0, .ref (ad 1 b))] rfl (hE_z2 z2.2)
      · refine im_iload_n C 18 1 dX5_dropPool_17 rfl rfl rfl ?_
        refine im_iconst C 19 dX5_dropPool_18 rfl k_ic1 ?_
        refine im_iadd C 20 dX5_dropPool_19 rfl ?_
        refine im_aload_n C 21 0 dX5_dropPool_20 rfl rfl rfl ?_
        refine gl_X5_40 C 24 (h0 1 (by decide) (by decide)) dX5_dropPool_21 rfl ?_
        refine im_ic_ge C 61 27 dX5_dropPool_24 rfl rfl ?_ ?_
        · exact im_sub [0] [(0, .ref (ad 1 b))] rfl (hE_z2 z2.2)
        · refine im_aload_n C 28 0 dX5_dropPool_27 rfl rfl rfl ?_
          refine gl_X5_9 C 31 (h0 1 (by decide) (by decide)) dX5_dropPool_28 rfl ?_
          refine im_iload_n C 32 1 dX5_dropPool_31 rfl rfl rfl ?_
          refine im_aload_n C 33 0 dX5_dropPool_32 rfl rfl rfl ?_
          refine gl_X5_9 C 36 (h0 1 (by decide) (by decide)) dX5_dropPool_33 rfl ?_
          refine im_iload_n C 37 1 dX5_dropPool_36 rfl rfl rfl ?_
          refine im_iconst C 38 dX5_dropPool_37 rfl k_ic1 ?_
          refine im_iadd C 39 dX5_dropPool_38 rfl ?_
          refine im_rdi C 40 4 (h0 2 (by decide) (by decide)) rfl dX5_dropPool_39 rfl (fun v3 => ?_)
          refine im_wri C 41 4 (h0 2 (by decide) (by decide)) (fun _ => rfl) dX5_dropPool_40 rfl (fun D4 => ?_)
          refine im_aload_n C 42 0 dX5_dropPool_41 rfl rfl rfl ?_
          refine gl_X5_15 C 45 (h0 1 (by decide) (by decide)) dX5_dropPool_42 rfl ?_
          refine im_iload_n C 46 1 dX5_dropPool_45 rfl rfl rfl ?_
          refine im_aload_n C 47 0 dX5_dropPool_46 rfl rfl rfl ?_
          refine gl_X5_15 C 50 (h0 1 (by decide) (by decide)) dX5_dropPool_47 rfl ?_
          refine im_iload_n C 51 1 dX5_dropPool_50 rfl rfl rfl ?_
          refine im_iconst C 52 dX5_dropPool_51 rfl k_ic1 ?_
          refine im_iadd C 53 dX5_dropPool_52 rfl ?_
          refine im_rdi C 54 4 (h0 3 (by decide) (by decide)) rfl dX5_dropPool_53 rfl (fun v5 => ?_)
          refine im_wri C 55 4 (h0 3 (by decide) (by decide)) (fun _ => rfl) dX5_dropPool_54 rfl (fun D6 => ?_)
          refine im_iinc C 58 1 [(2, .int (z2.1 + (1 : Int32))), (0, .ref (ad 1 b))] dX5_dropPool_55 rfl (k_inc1) (by decide) rfl rfl ?_
          refine im_goto C 2 dX5_dropPool_58 rfl ?_
          exact im_sub [1, 0] [(0, .ref (ad 1 b)), (2, .int (z2.1 + (1 : Int32)))] rfl (hX_z2 (z2.1 + (1 : Int32), D6))
set_option maxRecDepth 100000 in
set_option maxHeartbeats 4000000 in
theorem c_X0_blocksIn {l : Launch} {G : va_G} {ad : Nat → Nat → Nat} {U : List (Nat × Nat)} {D : Dt} {b : Nat} {x1 : Int32} {x2 : Int32} (hU : Uinj ad U) (h0 : BlU U b) : MI l G ad U yX0_blocksIn cX0_blocksIn 5 .int (k2_rm 2 42) [.ref (ad 19 b), .int x1, .int x2] D ((f_X0_blocksIn b x1 x2 D).bind (fun r => some (r, D))) := by
  refine mI_of (lv := [(0, .ref (ad 19 b)), (1, .int x1), (2, .int x2)]) (by decide) hU rfl (Nat.le_of_ble_eq_true rfl) (fun A p e s m args below meth c C => ?_)
  have C : Cx G ad U A p s m meth c args cX0_blocksIn RX0 5 (some .int) := C
  unfold f_X0_blocksIn
  refine im_iconst C 1 dX0_blocksIn_0 rfl k_ic0 ?_
  refine im_istore_n C 2 [(3, .int (0 : Int32)), (0, .ref (ad 19 b)), (1, .int x1), (2, .int x2)] dX0_blocksIn_1 rfl (by decide) rfl rfl ?_
  refine im_iconst C 3 dX0_blocksIn_2 rfl k_ic0 ?_
  refine im_istore C 5 [(4, .int (0 : Int32)), (3, .int (0 : Int32)), (0, .ref (ad 19 b)), (1, .int x1), (2, .int x2)] dX0_blocksIn_3 (by decide) rfl rfl ?_
  refine im_sub [2, 3, 4, 1, 0] [(0, .ref (ad 19 b)), (1, .int x1), (2, .int x2), (3, .int (0 : Int32)), (4, .int (0 : Int32))] rfl ?_
  refine im_lpB (l_X0_blocksIn_5 b x1 x2 D) (fun z5 => [(0, .ref (ad 19 b)), (1, .int x1), (2, .int x2), (3, .int z5.1), (4, .int z5.2)]) (fun z5 => D) 51 (fun e1 => [(3, .int e1)]) (fun e1 => D) (fun e1 => ?_) (fun z5 X_z5 hX_z5 hE_z5 => ?_) FU ((0 : Int32), (0 : Int32))
  · refine im_iload_n C 52 0 dX0_blocksIn_51 rfl rfl rfl ?_
    exact im_iret C rfl rfl dX0_blocksIn_52
  · unfold l_X0_blocksIn_5
    refine im_iload C 7 4 dX0_blocksIn_5 rfl rfl ?_
    refine im_sipush C 10 dX0_blocksIn_7 rfl k_sp292 ?_
    refine im_ic_ge C 51 13 dX0_blocksIn_10 rfl rfl ?_ ?_
    · exact im_sub [3] [(3, .int z5.1)] rfl (hE_z5 z5.1)
    · refine im_iload C 15 4 dX0_blocksIn_13 rfl rfl ?_
      refine im_aload_n C 16 0 dX0_blocksIn_15 rfl rfl rfl ?_
      refine gl_X0_18 C 19 (h0 19 (by decide) (by decide)) dX0_blocksIn_16 rfl ?_
      refine im_ic_ge C 51 22 dX0_blocksIn_19 rfl rfl ?_ ?_
      · exact im_sub [3] [(3, .int z5.1)] rfl (hE_z5 z5.1)
      · refine im_iload_n C 23 3 dX0_blocksIn_22 rfl rfl rfl ?_
        refine im_iload_n C 24 1 dX0_blocksIn_23 rfl rfl rfl ?_
        refine im_iload_n C 25 2 dX0_blocksIn_24 rfl rfl rfl ?_
        refine im_aload_n C 26 0 dX0_blocksIn_25 rfl rfl rfl ?_
        refine gl_X0_9 C 29 (h0 19 (by decide) (by decide)) dX0_blocksIn_26 rfl ?_
        refine im_iload C 31 4 dX0_blocksIn_29 rfl rfl ?_
        refine im_rdi C 32 292 (h0 20 (by decide) (by decide)) rfl dX0_blocksIn_31 rfl (fun v2 => ?_)
        refine im_cSNP C 35 sk_X9_covers gw_630 (c_X9_covers (x0 := x1) (x1 := x2) (x2 := v2) hU) (rle rfl) rfl (st := [.int z5.1]) rfl (Nat.le_of_ble_eq_true rfl) dX0_blocksIn_32 rfl (fun o3 => ?_)
        refine im_if_eq C 42 38 dX0_blocksIn_35 rfl rfl ?_ ?_
        · refine im_iconst C 43 dX0_blocksIn_42 rfl k_ic0 ?_
          refine im_iadd C 44 dX0_blocksIn_43 rfl ?_
          refine im_istore_n C 45 [(3, .int (z5.1 + (0 : Int32))), (0, .ref (ad 19 b)), (1, .int x1), (2, .int x2), (4, .int z5.2)] dX0_blocksIn_44 rfl (by decide) rfl rfl ?_
          refine im_iinc C 48 4 [(4, .int (z5.2 + (1 : Int32))), (3, .int (z5.1 + (0 : Int32))), (0, .ref (ad 19 b)), (1, .int x1), (2, .int x2)] dX0_blocksIn_45 rfl (k_inc1) (by decide) rfl rfl ?_
          refine im_goto C 5 dX0_blocksIn_48 rfl ?_
          exact im_sub [2, 3, 4, 1, 0] [(0, .ref (ad 19 b)), (1, .int x1), (2, .int x2), (3, .int (z5.1 + (0 : Int32))), (4, .int (z5.2 + (1 : Int32)))] rfl (hX_z5 (z5.1 + (0 : Int32), z5.2 + (1 : Int32)))
        · refine im_iconst C 39 dX0_blocksIn_38 rfl k_ic1 ?_
          refine im_goto C 43 dX0_blocksIn_39 rfl ?_
          refine im_iadd C 44 dX0_blocksIn_43 rfl ?_
          refine im_istore_n C 45 [(3, .int (z5.1 + (1 : Int32))), (0, .ref (ad 19 b)), (1, .int x1), (2, .int x2), (4, .int z5.2)] dX0_blocksIn_44 rfl (by decide) rfl rfl ?_
          refine im_iinc C 48 4 [(4, .int (z5.2 + (1 : Int32))), (3, .int (z5.1 + (1 : Int32))), (0, .ref (ad 19 b)), (1, .int x1), (2, .int x2)] dX0_blocksIn_45 rfl (k_inc1) (by decide) rfl rfl ?_
          refine im_goto C 5 dX0_blocksIn_48 rfl ?_
          exact im_sub [2, 3, 4, 1, 0] [(0, .ref (ad 19 b)), (1, .int x1), (2, .int x2), (3, .int (z5.1 + (1 : Int32))), (4, .int (z5.2 + (1 : Int32)))] rfl (hX_z5 (z5.1 + (1 : Int32), z5.2 + (1 : Int32)))
set_option maxRecDepth 100000 in
set_option maxHeartbeats 4000000 in
theorem c_X0_blocksOf {l : Launch} {G : va_G} {ad : Nat → Nat → Nat} {U : List (Nat × Nat)} {D : Dt} {b : Nat} {x1 : Int32} (hU : Uinj ad U) (h0 : BlU U b) : MI l G ad U yX0_blocksOf cX0_blocksOf 4 .int (k2_rm 0 0) [.ref (ad 19 b), .int x1] D ((f_X0_blocksOf b x1 D).bind (fun r => some (r, D))) := by
  refine mI_of (lv := [(0, .ref (ad 19 b)), (1, .int x1)]) (by decide) hU rfl (Nat.le_of_ble_eq_true rfl) (fun A p e s m args below meth c C => ?_)
  have C : Cx G ad U A p s m meth c args cX0_blocksOf RX0 4 (some .int) := C
  unfold f_X0_blocksOf
  refine im_iconst C 1 dX0_blocksOf_0 rfl k_ic0 ?_
  refine im_istore_n C 2 [(2, .int (0 : Int32)), (0, .ref (ad 19 b)), (1, .int x1)] dX0_blocksOf_1 rfl (by decide) rfl rfl ?_
  refine im_iconst C 3 dX0_blocksOf_2 rfl k_ic0 ?_
  refine im_istore_n C 4 [(3, .int (0 : Int32)), (2, .int (0 : Int32)), (0, .ref (ad 19 b)), (1, .int x1)] dX0_blocksOf_3 rfl (by decide) rfl rfl ?_
  refine im_sub [2, 3, 1, 0] [(0, .ref (ad 19 b)), (1, .int x1), (2, .int (0 : Int32)), (3, .int (0 : Int32))] rfl ?_
  refine im_lpB (l_X0_blocksOf_4 b x1 D) (fun z4 => [(0, .ref (ad 19 b)), (1, .int x1), (2, .int z4.1), (3, .int z4.2)]) (fun z4 => D) 43 (fun e1 => [(2, .int e1)]) (fun e1 => D) (fun e1 => ?_) (fun z4 X_z4 hX_z4 hE_z4 => ?_) FU ((0 : Int32), (0 : Int32))
  · refine im_iload_n C 44 0 dX0_blocksOf_43 rfl rfl rfl ?_
    exact im_iret C rfl rfl dX0_blocksOf_44
  · unfold l_X0_blocksOf_4
    refine im_iload_n C 5 3 dX0_blocksOf_4 rfl rfl rfl ?_
    refine im_sipush C 8 dX0_blocksOf_5 rfl k_sp292 ?_
    refine im_ic_ge C 43 11 dX0_blocksOf_8 rfl rfl ?_ ?_
    · exact im_sub [2] [(2, .int z4.1)] rfl (hE_z4 z4.1)
    · refine im_iload_n C 12 3 dX0_blocksOf_11 rfl rfl rfl ?_
      refine im_aload_n C 13 0 dX0_blocksOf_12 rfl rfl rfl ?_
      refine gl_X0_18 C 16 (h0 19 (by decide) (by decide)) dX0_blocksOf_13 rfl ?_
      refine im_ic_ge C 43 19 dX0_blocksOf_16 rfl rfl ?_ ?_
      · exact im_sub [2] [(2, .int z4.1)] rfl (hE_z4 z4.1)
      · refine im_iload_n C 20 2 dX0_blocksOf_19 rfl rfl rfl ?_
        refine im_aload_n C 21 0 dX0_blocksOf_20 rfl rfl rfl ?_
        refine gl_X0_15 C 24 (h0 19 (by decide) (by decide)) dX0_blocksOf_21 rfl ?_
        refine im_iload_n C 25 3 dX0_blocksOf_24 rfl rfl rfl ?_
        refine im_rdi C 26 292 (h0 21 (by decide) (by decide)) rfl dX0_blocksOf_25 rfl (fun v2 => ?_)
        refine im_iload_n C 27 1 dX0_blocksOf_26 rfl rfl rfl ?_
        refine im_ic_ne C 34 30 dX0_blocksOf_27 rfl rfl ?_ ?_
        · refine im_iconst C 35 dX0_blocksOf_34 rfl k_ic0 ?_
          refine im_iadd C 36 dX0_blocksOf_35 rfl ?_
          refine im_istore_n C 37 [(2, .int (z4.1 + (0 : Int32))), (0, .ref (ad 19 b)), (1, .int x1), (3, .int z4.2)] dX0_blocksOf_36 rfl (by decide) rfl rfl ?_
          refine im_iinc C 40 3 [(3, .int (z4.2 + (1 : Int32))), (2, .int (z4.1 + (0 : Int32))), (0, .ref (ad 19 b)), (1, .int x1)] dX0_blocksOf_37 rfl (k_inc1) (by decide) rfl rfl ?_
          refine im_goto C 4 dX0_blocksOf_40 rfl ?_
          exact im_sub [2, 3, 1, 0] [(0, .ref (ad 19 b)), (1, .int x1), (2, .int (z4.1 + (0 : Int32))), (3, .int (z4.2 + (1 : Int32)))] rfl (hX_z4 (z4.1 + (0 : Int32), z4.2 + (1 : Int32)))
        · refine im_iconst C 31 dX0_blocksOf_30 rfl k_ic1 ?_
          refine im_goto C 35 dX0_blocksOf_31 rfl ?_
          refine im_iadd C 36 dX0_blocksOf_35 rfl ?_
          refine im_istore_n C 37 [(2, .int (z4.1 + (1 : Int32))), (0, .ref (ad 19 b)), (1, .int x1), (3, .int z4.2)] dX0_blocksOf_36 rfl (by decide) rfl rfl ?_
          refine im_iinc C 40 3 [(3, .int (z4.2 + (1 : Int32))), (2, .int (z4.1 + (1 : Int32))), (0, .ref (ad 19 b)), (1, .int x1)] dX0_blocksOf_37 rfl (k_inc1) (by decide) rfl rfl ?_
          refine im_goto C 4 dX0_blocksOf_40 rfl ?_
          exact im_sub [2, 3, 1, 0] [(0, .ref (ad 19 b)), (1, .int x1), (2, .int (z4.1 + (1 : Int32))), (3, .int (z4.2 + (1 : Int32)))] rfl (hX_z4 (z4.1 + (1 : Int32), z4.2 + (1 : Int32)))
set_option maxRecDepth 100000 in
set_option maxHeartbeats 4000000 in
theorem c_X0_shortest {l : Launch} {G : va_G} {ad : Nat → Nat → Nat} {U : List (Nat × Nat)} {D : Dt} {b : Nat} (hU : Uinj ad U) (h0 : BlU U b) : MI l G ad U yX0_shortest cX0_shortest 3 .int (k2_rm 0 0) [.ref (ad 19 b)] D ((f_X0_shortest b D).bind (fun r => some (r, D))) := by
  refine mI_of (lv := [(0, .ref (ad 19 b))]) (by decide) hU rfl (Nat.le_of_ble_eq_true rfl) (fun A p e s m args below meth c C => ?_)
  have C : Cx G ad U A p s m meth c args cX0_shortest RX0 3 (some .int) := C
  unfold f_X0_shortest
  refine im_iconst C 1 dX0_shortest_0 rfl k_icm1 ?_
  refine im_istore_n C 2 [(1, .int (-1 : Int32)), (0, .ref (ad 19 b))] dX0_shortest_1 rfl (by decide) rfl rfl ?_
  refine im_iconst C 3 dX0_shortest_2 rfl k_ic0 ?_
  refine im_istore_n C 4 [(2, .int (0 : Int32)), (1, .int (-1 : Int32)), (0, .ref (ad 19 b))] dX0_shortest_3 rfl (by decide) rfl rfl ?_
  refine im_sub [2, 1, 0] [(0, .ref (ad 19 b)), (1, .int (-1 : Int32)), (2, .int (0 : Int32))] rfl ?_
  refine im_lpB (l_X0_shortest_4 b D) (fun z4 => [(0, .ref (ad 19 b)), (1, .int z4.1), (2, .int z4.2)]) (fun z4 => D) 47 (fun e1 => [(1, .int e1)]) (fun e1 => D) (fun e1 => ?_) (fun z4 X_z4 hX_z4 hE_z4 => ?_) FU ((-1 : Int32), (0 : Int32))
  · refine im_iload_n C 48 0 dX0_shortest_47 rfl rfl rfl ?_
    exact im_iret C rfl rfl dX0_shortest_48
  · unfold l_X0_shortest_4
    refine im_iload_n C 5 2 dX0_shortest_4 rfl rfl rfl ?_
    refine im_sipush C 8 dX0_shortest_5 rfl k_sp292 ?_
    refine im_ic_ge C 47 11 dX0_shortest_8 rfl rfl ?_ ?_
    · exact im_sub [1] [(1, .int z4.1)] rfl (hE_z4 z4.1)
    · refine im_iload_n C 12 2 dX0_shortest_11 rfl rfl rfl ?_
      refine im_aload_n C 13 0 dX0_shortest_12 rfl rfl rfl ?_
      refine gl_X0_18 C 16 (h0 19 (by decide) (by decide)) dX0_shortest_13 rfl ?_
      refine im_ic_ge C 47 19 dX0_shortest_16 rfl rfl ?_ ?_
      · exact im_sub [1] [(1, .int z4.1)] rfl (hE_z4 z4.1)
      · refine im_iload_n C 20 1 dX0_shortest_19 rfl rfl rfl ?_
        refine im_iconst C 21 dX0_shortest_20 rfl k_icm1 ?_
        refine im_ic_eq C 34 24 dX0_shortest_21 rfl rfl ?_ ?_
        · refine im_aload_n C 35 0 dX0_shortest_34 rfl rfl rfl ?_
          refine gl_X0_15 C 38 (h0 19 (by decide) (by decide)) dX0_shortest_35 rfl ?_
          refine im_iload_n C 39 2 dX0_shortest_38 rfl rfl rfl ?_
          refine im_rdi C 40 292 (h0 21 (by decide) (by decide)) rfl dX0_shortest_39 rfl (fun v2 => ?_)
          refine im_istore_n C 41 [(1, .int v2), (0, .ref (ad 19 b)), (2, .int z4.2)] dX0_shortest_40 rfl (by decide) rfl rfl ?_
          refine im_iinc C 44 2 [(2, .int (z4.2 + (1 : Int32))), (1, .int v2), (0, .ref (ad 19 b))] dX0_shortest_41 rfl (k_inc1) (by decide) rfl rfl ?_
          refine im_goto C 4 dX0_shortest_44 rfl ?_
          exact im_sub [2, 1, 0] [(0, .ref (ad 19 b)), (1, .int v2), (2, .int (z4.2 + (1 : Int32)))] rfl (hX_z4 (v2, z4.2 + (1 : Int32)))
        · refine im_aload_n C 25 0 dX0_shortest_24 rfl rfl rfl ?_
          refine gl_X0_15 C 28 (h0 19 (by decide) (by decide)) dX0_shortest_25 rfl ?_
          refine im_iload_n C 29 2 dX0_shortest_28 rfl rfl rfl ?_
          refine im_rdi C 30 292 (h0 21 (by decide) (by decide)) rfl dX0_shortest_29 rfl (fun v3 => ?_)
          refine im_iload_n C 31 1 dX0_shortest_30 rfl rfl rfl ?_
          refine im_ic_ge C 41 34 dX0_shortest_31 rfl rfl ?_ ?_
          · refine im_iinc C 44 2 [(2, .int (z4.2 + (1 : Int32))), (0, .ref (ad 19 b)), (1, .int z4.1)] dX0_shortest_41 rfl (k_inc1) (by decide) rfl rfl ?_
            refine im_goto C 4 dX0_shortest_44 rfl ?_
            exact im_sub [1, 2, 0] [(0, .ref (ad 19 b)), (1, .int z4.1), (2, .int (z4.2 + (1 : Int32)))] rfl (hX_z4 (z4.1, z4.2 + (1 : Int32)))
          · refine im_aload_n C 35 0 dX0_shortest_34 rfl rfl rfl ?_
            refine gl_X0_15 C 38 (h0 19 (by decide) (by decide)) dX0_shortest_35 rfl ?_
            refine im_iload_n C 39 2 dX0_shortest_38 rfl rfl rfl ?_
            refine im_rdi C 40 292 (h0 21 (by decide) (by decide)) rfl dX0_shortest_39 rfl (fun v4 => ?_)
            refine im_istore_n C 41 [(1, .int v4), (0, .ref (ad 19 b)), (2, .int z4.2)] dX0_shortest_40 rfl (by decide) rfl rfl ?_
            refine im_iinc C 44 2 [(2, .int (z4.2 + (1 : Int32))), (1, .int v4), (0, .ref (ad 19 b))] dX0_shortest_41 rfl (k_inc1) (by decide) rfl rfl ?_
            refine im_goto C 4 dX0_shortest_44 rfl ?_
            exact im_sub [2, 1, 0] [(0, .ref (ad 19 b)), (1, .int v4), (2, .int (z4.2 + (1 : Int32)))] rfl (hX_z4 (v4, z4.2 + (1 : Int32)))
set_option maxRecDepth 100000 in
set_option maxHeartbeats 4000000 in
theorem c_X0_roomFor {l : Launch} {G : va_G} {ad : Nat → Nat → Nat} {U : List (Nat × Nat)} {D : Dt} {b : Nat} {x1 : Int32} (hU : Uinj ad U) (h0 : BlU U b) : MI l G ad U yX0_roomFor cX0_roomFor 4 .int (k2_rm 0 0) [.ref (ad 19 b), .int x1] D ((f_X0_roomFor b x1 D).bind (fun r => some (r, D))) := by
  refine mI_of (lv := [(0, .ref (ad 19 b)), (1, .int x1)]) (by decide) hU rfl (Nat.le_of_ble_eq_true rfl) (fun A p e s m args below meth c C => ?_)
  have C : Cx G ad U A p s m meth c args cX0_roomFor RX0 4 (some .int) := C
  unfold f_X0_roomFor
  refine im_iconst C 1 dX0_roomFor_0 rfl k_ic0 ?_
  refine im_istore_n C 2 [(2, .int (0 : Int32)), (0, .ref (ad 19 b)), (1, .int x1)] dX0_roomFor_1 rfl (by decide) rfl rfl ?_
  refine im_iconst C 3 dX0_roomFor_2 rfl k_ic0 ?_
  refine im_istore_n C 4 [(3, .int (0 : Int32)), (2, .int (0 : Int32)), (0, .ref (ad 19 b)), (1, .int x1)] dX0_roomFor_3 rfl (by decide) rfl rfl ?_
  refine im_sub [2, 3, 1, 0] [(0, .ref (ad 19 b)), (1, .int x1), (2, .int (0 : Int32)), (3, .int (0 : Int32))] rfl ?_
  refine im_lpB (l_X0_roomFor_4 b x1 D) (fun z4 => [(0, .ref (ad 19 b)), (1, .int x1), (2, .int z4.1), (3, .int z4.2)]) (fun z4 => D) 52 (fun e1 => [(2, .int e1)]) (fun e1 => D) (fun e1 => ?_) (fun z4 X_z4 hX_z4 hE_z4 => ?_) FU ((0 : Int32), (0 : Int32))
  · refine im_iload_n C 53 0 dX0_roomFor_52 rfl rfl rfl ?_
    exact im_iret C rfl rfl dX0_roomFor_53
  · unfold l_X0_roomFor_4
    refine im_iload_n C 5 3 dX0_roomFor_4 rfl rfl rfl ?_
    refine im_sipush C 8 dX0_roomFor_5 rfl k_sp292 ?_
    refine im_ic_ge C 52 11 dX0_roomFor_8 rfl rfl ?_ ?_
    · exact im_sub [2] [(2, .int z4.1)] rfl (hE_z4 z4.1)
    · refine im_iload_n C 12 3 dX0_roomFor_11 rfl rfl rfl ?_
      refine im_aload_n C 13 0 dX0_roomFor_12 rfl rfl rfl ?_
      refine gl_X0_18 C 16 (h0 19 (by decide) (by decide)) dX0_roomFor_13 rfl ?_
      refine im_ic_ge C 52 19 dX0_roomFor_16 rfl rfl ?_ ?_
      · exact im_sub [2] [(2, .int z4.1)] rfl (hE_z4 z4.1)
      · refine im_iload_n C 20 2 dX0_roomFor_19 rfl rfl rfl ?_
        refine im_aload_n C 21 0 dX0_roomFor_20 rfl rfl rfl ?_
        refine gl_X0_15 C 24 (h0 19 (by decide) (by decide)) dX0_roomFor_21 rfl ?_
        refine im_iload_n C 25 3 dX0_roomFor_24 rfl rfl rfl ?_
        refine im_rdi C 26 292 (h0 21 (by decide) (by decide)) rfl dX0_roomFor_25 rfl (fun v2 => ?_)
        refine im_iload_n C 27 1 dX0_roomFor_26 rfl rfl rfl ?_
        refine im_ic_gt C 43 30 dX0_roomFor_27 rfl rfl ?_ ?_
        · refine im_iconst C 44 dX0_roomFor_43 rfl k_ic0 ?_
          refine im_iadd C 45 dX0_roomFor_44 rfl ?_
          refine im_istore_n C 46 [(2, .int (z4.1 + (0 : Int32))), (0, .ref (ad 19 b)), (1, .int x1), (3, .int z4.2)] dX0_roomFor_45 rfl (by decide) rfl rfl ?_
          refine im_iinc C 49 3 [(3, .int (z4.2 + (1 : Int32))), (2, .int (z4.1 + (0 : Int32))), (0, .ref (ad 19 b)), (1, .int x1)] dX0_roomFor_46 rfl (k_inc1) (by decide) rfl rfl ?_
          refine im_goto C 4 dX0_roomFor_49 rfl ?_
          exact im_sub [2, 3, 1, 0] [(0, .ref (ad 19 b)), (1, .int x1), (2, .int (z4.1 + (0 : Int32))), (3, .int (z4.2 + (1 : Int32)))] rfl (hX_z4 (z4.1 + (0 : Int32), z4.2 + (1 : Int32)))
        · refine im_iconst C 31 dX0_roomFor_30 rfl k_ic1 ?_
          refine im_iload_n C 32 1 dX0_roomFor_31 rfl rfl rfl ?_
          refine im_aload_n C 33 0 dX0_roomFor_32 rfl rfl rfl ?_
          refine gl_X0_15 C 36 (h0 19 (by decide) (by decide)) dX0_roomFor_33 rfl ?_
          refine im_iload_n C 37 3 dX0_roomFor_36 rfl rfl rfl ?_
          refine im_rdi C 38 292 (h0 21 (by decide) (by decide)) rfl dX0_roomFor_37 rfl (fun v3 => ?_)
          refine im_isub C 39 dX0_roomFor_38 rfl ?_
          refine im_ishl C 40 dX0_roomFor_39 rfl ?_
          refine im_goto C 44 dX0_roomFor_40 rfl ?_
          refine im_iadd C 45 dX0_roomFor_44 rfl ?_
          refine im_letV (fun v4 => ?_)
          refine im_istore_n C 46 [(2, .int v4), (0, .ref (ad 19 b)), (1, .int x1), (3, .int z4.2)] dX0_roomFor_45 rfl (by decide) rfl rfl ?_
          refine im_iinc C 49 3 [(3, .int (z4.2 + (1 : Int32))), (2, .int v4), (0, .ref (ad 19 b)), (1, .int x1)] dX0_roomFor_46 rfl (k_inc1) (by decide) rfl rfl ?_
          refine im_goto C 4 dX0_roomFor_49 rfl ?_
          exact im_sub [2, 3, 1, 0] [(0, .ref (ad 19 b)), (1, .int x1), (2, .int v4), (3, .int (z4.2 + (1 : Int32)))] rfl (hX_z4 (v4, z4.2 + (1 : Int32)))
set_option maxRecDepth 100000 in
set_option maxHeartbeats 4000000 in
theorem c_X0_addresses {l : Launch} {G : va_G} {ad : Nat → Nat → Nat} {U : List (Nat × Nat)} {D : Dt} {b : Nat} (hU : Uinj ad U) (h0 : BlU U b) : MI l G ad U yX0_addresses cX0_addresses 3 .int (k2_rm 1 20) [.ref (ad 19 b)] D ((f_X0_addresses b D).bind (fun r => some (r, D))) := by
  refine mI_of (lv := [(0, .ref (ad 19 b))]) (by decide) hU rfl (Nat.le_of_ble_eq_true rfl) (fun A p e s m args below meth c C => ?_)
  have C : Cx G ad U A p s m meth c args cX0_addresses RX0 3 (some .int) := C
  unfold f_X0_addresses
  refine im_iconst C 1 dX0_addresses_0 rfl k_ic0 ?_
  refine im_istore_n C 2 [(1, .int (0 : Int32)), (0, .ref (ad 19 b))] dX0_addresses_1 rfl (by decide) rfl rfl ?_
  refine im_iconst C 3 dX0_addresses_2 rfl k_ic0 ?_
  refine im_istore_n C 4 [(2, .int (0 : Int32)), (1, .int (0 : Int32)), (0, .ref (ad 19 b))] dX0_addresses_3 rfl (by decide) rfl rfl ?_
  refine im_sub [2, 1, 0] [(0, .ref (ad 19 b)), (1, .int (0 : Int32)), (2, .int (0 : Int32))] rfl ?_
  refine im_lpB (l_X0_addresses_4 b D) (fun z4 => [(0, .ref (ad 19 b)), (1, .int z4.1), (2, .int z4.2)]) (fun z4 => D) 37 (fun e1 => [(1, .int e1)]) (fun e1 => D) (fun e1 => ?_) (fun z4 X_z4 hX_z4 hE_z4 => ?_) FU ((0 : Int32), (0 : Int32))
  · refine im_iload_n C 38 0 dX0_addresses_37 rfl rfl rfl ?_
    exact im_iret C rfl rfl dX0_addresses_38
  · unfold l_X0_addresses_4
    refine im_iload_n C 5 2 dX0_addresses_4 rfl rfl rfl ?_
    refine im_sipush C 8 dX0_addresses_5 rfl k_sp292 ?_
    refine im_ic_ge C 37 11 dX0_addresses_8 rfl rfl ?_ ?_
    · exact im_sub [1] [(1, .int z4.1)] rfl (hE_z4 z4.1)
    · refine im_iload_n C 12 2 dX0_addresses_11 rfl rfl rfl ?_
      refine im_aload_n C 13 0 dX0_addresses_12 rfl rfl rfl ?_
      refine gl_X0_18 C 16 (h0 19 (by decide) (by decide)) dX0_addresses_13 rfl ?_
      refine im_ic_ge C 37 19 dX0_addresses_16 rfl rfl ?_ ?_
      · exact im_sub [1] [(1, .int z4.1)] rfl (hE_z4 z4.1)
      · refine im_iload_n C 20 1 dX0_addresses_19 rfl rfl rfl ?_
        refine im_aload_n C 21 0 dX0_addresses_20 rfl rfl rfl ?_
        refine gl_X0_15 C 24 (h0 19 (by decide) (by decide)) dX0_addresses_21 rfl ?_
        refine im_iload_n C 25 2 dX0_addresses_24 rfl rfl rfl ?_
        refine im_rdi C 26 292 (h0 21 (by decide) (by decide)) rfl dX0_addresses_25 rfl (fun v2 => ?_)
        refine im_cSNP C 29 sk_X9_sizeOf gw_550 (c_X9_sizeOf (x0 := v2) hU) (rle rfl) rfl (st := [.int z4.1]) rfl (Nat.le_of_ble_eq_true rfl) dX0_addresses_26 rfl (fun o3 => ?_)
        refine im_iadd C 30 dX0_addresses_29 rfl ?_
        refine im_istore_n C 31 [(1, .int (z4.1 + o3)), (0, .ref (ad 19 b)), (2, .int z4.2)] dX0_addresses_30 rfl (by decide) rfl rfl ?_
        refine im_iinc C 34 2 [(2, .int (z4.2 + (1 : Int32))), (1, .int (z4.1 + o3)), (0, .ref (ad 19 b))] dX0_addresses_31 rfl (k_inc1) (by decide) rfl rfl ?_
        refine im_goto C 4 dX0_addresses_34 rfl ?_
        exact im_sub [2, 1, 0] [(0, .ref (ad 19 b)), (1, .int (z4.1 + o3)), (2, .int (z4.2 + (1 : Int32)))] rfl (hX_z4 (z4.1 + o3, z4.2 + (1 : Int32)))
set_option maxRecDepth 100000 in
set_option maxHeartbeats 4000000 in
theorem c_X0_fragmentationIndex {l : Launch} {G : va_G} {ad : Nat → Nat → Nat} {U : List (Nat × Nat)} {D : Dt} {b : Nat} (hU : Uinj ad U) (h0 : BlU U b) : MI l G ad U yX0_fragmentationIndex cX0_fragmentationIndex 2 .int (k2_rm 2 42) [.ref (ad 19 b)] D ((f_X0_fragmentationIndex b D).bind (fun r => some (r, D))) := by
  refine mI_of (lv := [(0, .ref (ad 19 b))]) (by decide) hU rfl (Nat.le_of_ble_eq_true rfl) (fun A p e s m args below meth c C => ?_)
  have C : Cx G ad U A p s m meth c args cX0_fragmentationIndex RX0 2 (some .int) := C
  unfold f_X0_fragmentationIndex
  refine im_aload_n C 1 0 dX0_fragmentationIndex_0 rfl rfl rfl ?_
  refine im_cVP C 4 vk_X0_addresses gw_680 (c_X0_addresses (b := b) hU h0) (h0 19 (by decide) (by decide)) rfl rfl (rle rfl) rfl (st := []) rfl (Nat.le_of_ble_eq_true rfl) dX0_fragmentationIndex_1 rfl (fun o1 => ?_)
  refine im_istore_n C 5 [(1, .int o1), (0, .ref (ad 19 b))] dX0_fragmentationIndex_4 rfl (by decide) rfl rfl ?_
  refine im_iload_n C 6 0 dX0_fragmentationIndex_5 rfl rfl rfl ?_
  refine im_if_gt C 13 9 dX0_fragmentationIndex_6 rfl rfl ?_ ?_
  · refine im_sipush C 16 dX0_fragmentationIndex_13 rfl k_sp1000 ?_
    refine im_sipush C 19 dX0_fragmentationIndex_16 rfl k_sp1000 ?_
    refine im_aload_n C 20 1 dX0_fragmentationIndex_19 rfl rfl rfl ?_
    refine im_cVP C 23 vk_X0_shortest gw_684 (c_X0_shortest (b := b) hU h0) (h0 19 (by decide) (by decide)) rfl rfl (rle rfl) rfl (st := [.int (1000 : Int32), .int (1000 : Int32)]) rfl (Nat.le_of_ble_eq_true rfl) dX0_fragmentationIndex_20 rfl (fun o2 => ?_)
    refine im_cSNP C 26 sk_X9_sizeOf gw_550 (c_X9_sizeOf (x0 := o2) hU) (rle rfl) rfl (st := [.int (1000 : Int32), .int (1000 : Int32)]) rfl (Nat.le_of_ble_eq_true rfl) dX0_fragmentationIndex_23 rfl (fun o3 => ?_)
    refine im_imul C 27 dX0_fragmentationIndex_26 rfl ?_
    refine im_iload_n C 28 0 dX0_fragmentationIndex_27 rfl rfl rfl ?_
    refine im_idiv C 29 dX0_fragmentationIndex_28 rfl ?_
    refine im_isub C 30 dX0_fragmentationIndex_29 rfl ?_
    exact im_iret C rfl rfl dX0_fragmentationIndex_30
  · refine im_iconst C 10 dX0_fragmentationIndex_9 rfl k_ic0 ?_
    refine im_goto C 30 dX0_fragmentationIndex_10 rfl ?_
    exact im_iret C rfl rfl dX0_fragmentationIndex_30
set_option maxRecDepth 100000 in
set_option maxHeartbeats 4000000 in
theorem c_X2_leasesHeld {l : Launch} {G : va_G} {ad : Nat → Nat → Nat} {U : List (Nat × Nat)} {D : Dt} {b : Nat} {x1 : Int32} (hU : Uinj ad U) (h0 : HoU U b) : MI l G ad U yX2_leasesHeld cX2_leasesHeld 2 .int (k2_rm 0 0) [.ref (ad 9 b), .int x1] D ((f_X2_leasesHeld b x1 D).bind (fun r => some (r, D))) := by
  refine mI_of (lv := [(0, .ref (ad 9 b)), (1, .int x1)]) (by decide) hU rfl (Nat.le_of_ble_eq_true rfl) (fun A p e s m args below meth c C => ?_)
  have C : Cx G ad U A p s m meth c args cX2_leasesHeld RX2 2 (some .int) := C
  unfold f_X2_leasesHeld
  refine im_aload_n C 1 0 dX2_leasesHeld_0 rfl rfl rfl ?_
  refine gl_X2_18 C 4 (h0 9 (by decide) (by decide)) dX2_leasesHeld_1 rfl ?_
  refine im_iload_n C 5 1 dX2_leasesHeld_4 rfl rfl rfl ?_
  refine im_rdi C 6 16 (h0 12 (by decide) (by decide)) rfl dX2_leasesHeld_5 rfl (fun v1 => ?_)
  refine im_iconst C 7 dX2_leasesHeld_6 rfl k_icm1 ?_
  refine im_ic_eq C 14 10 dX2_leasesHeld_7 rfl rfl ?_ ?_
  · refine im_iconst C 15 dX2_leasesHeld_14 rfl k_ic0 ?_
    refine im_aload_n C 16 0 dX2_leasesHeld_15 rfl rfl rfl ?_
    refine gl_X2_24 C 19 (h0 9 (by decide) (by decide)) dX2_leasesHeld_16 rfl ?_
    refine im_iload_n C 20 1 dX2_leasesHeld_19 rfl rfl rfl ?_
    refine im_rdi C 21 16 (h0 14 (by decide) (by decide)) rfl dX2_leasesHeld_20 rfl (fun v2 => ?_)
    refine im_iconst C 22 dX2_leasesHeld_21 rfl k_icm1 ?_
    refine im_ic_eq C 29 25 dX2_leasesHeld_22 rfl rfl ?_ ?_
    · refine im_iconst C 30 dX2_leasesHeld_29 rfl k_ic0 ?_
      refine im_iadd C 31 dX2_leasesHeld_30 rfl ?_
      exact im_iret C rfl rfl dX2_leasesHeld_31
    · refine im_iconst C 26 dX2_leasesHeld_25 rfl k_ic1 ?_
      refine im_goto C 30 dX2_leasesHeld_26 rfl ?_
      refine im_iadd C 31 dX2_leasesHeld_30 rfl ?_
      exact im_iret C rfl rfl dX2_leasesHeld_31
  · refine im_iconst C 11 dX2_leasesHeld_10 rfl k_ic1 ?_
    refine im_goto C 15 dX2_leasesHeld_11 rfl ?_
    refine im_aload_n C 16 0 dX2_leasesHeld_15 rfl rfl rfl ?_
    refine gl_X2_24 C 19 (h0 9 (by decide) (by decide)) dX2_leasesHeld_16 rfl ?_
    refine im_iload_n C 20 1 dX2_leasesHeld_19 rfl rfl rfl ?_
    refine im_rdi C 21 16 (h0 14 (by decide) (by decide)) rfl dX2_leasesHeld_20 rfl (fun v3 => ?_)
    refine im_iconst C 22 dX2_leasesHeld_21 rfl k_icm1 ?_
    refine im_ic_eq C 29 25 dX2_leasesHeld_22 rfl rfl ?_ ?_
    · refine im_iconst C 30 dX2_leasesHeld_29 rfl k_ic0 ?_
      refine im_iadd C 31 dX2_leasesHeld_30 rfl ?_
      exact im_iret C rfl rfl dX2_leasesHeld_31
    · refine im_iconst C 26 dX2_leasesHeld_25 rfl k_ic1 ?_
      refine im_goto C 30 dX2_leasesHeld_26 rfl ?_
      refine im_iadd C 31 dX2_leasesHeld_30 rfl ?_
      exact im_iret C rfl rfl dX2_leasesHeld_31
set_option maxRecDepth 100000 in
set_option maxHeartbeats 4000000 in
theorem c_X2_leasesOf {l : Launch} {G : va_G} {ad : Nat → Nat → Nat} {U : List (Nat × Nat)} {D : Dt} {b : Nat} {x1 : Int32} (hU : Uinj ad U) (h0 : HoU U b) : MI l G ad U yX2_leasesOf cX2_leasesOf 4 .int (k2_rm 1 21) [.ref (ad 9 b), .int x1] D ((f_X2_leasesOf b x1 D).bind (fun r => some (r, D))) := by
  refine mI_of (lv := [(0, .ref (ad 9 b)), (1, .int x1)]) (by decide) hU rfl (Nat.le_of_ble_eq_true rfl) (fun A p e s m args below meth c C => ?_)
  have C : Cx G ad U A p s m meth c args cX2_leasesOf RX2 4 (some .int) := C
  unfold f_X2_leasesOf
  refine im_iconst C 1 dX2_leasesOf_0 rfl k_ic0 ?_
  refine im_istore_n C 2 [(2, .int (0 : Int32)), (0, .ref (ad 9 b)), (1, .int x1)] dX2_leasesOf_1 rfl (by decide) rfl rfl ?_
  refine im_iconst C 3 dX2_leasesOf_2 rfl k_ic0 ?_
  refine im_istore_n C 4 [(3, .int (0 : Int32)), (2, .int (0 : Int32)), (0, .ref (ad 9 b)), (1, .int x1)] dX2_leasesOf_3 rfl (by decide) rfl rfl ?_
  refine im_sub [2, 3, 1, 0] [(0, .ref (ad 9 b)), (1, .int x1), (2, .int (0 : Int32)), (3, .int (0 : Int32))] rfl ?_
  refine im_lpB (l_X2_leasesOf_4 b x1 D) (fun z4 => [(0, .ref (ad 9 b)), (1, .int x1), (2, .int z4.1), (3, .int z4.2)]) (fun z4 => D) 38 (fun e1 => [(2, .int e1)]) (fun e1 => D) (fun e1 => ?_) (fun z4 X_z4 hX_z4 hE_z4 => ?_) FU ((0 : Int32), (0 : Int32))
  · refine im_iload_n C 39 0 dX2_leasesOf_38 rfl rfl rfl ?_
    exact im_iret C rfl rfl dX2_leasesOf_39
  · unfold l_X2_leasesOf_4
    refine im_iload_n C 5 3 dX2_leasesOf_4 rfl rfl rfl ?_
    refine im_bipush C 7 dX2_leasesOf_5 rfl k_bp16 ?_
    refine im_ic_ge C 38 10 dX2_leasesOf_7 rfl rfl ?_ ?_
    · exact im_sub [2] [(2, .int z4.1)] rfl (hE_z4 z4.1)
    · refine im_iload_n C 11 2 dX2_leasesOf_10 rfl rfl rfl ?_
      refine im_aload_n C 12 0 dX2_leasesOf_11 rfl rfl rfl ?_
      refine gl_X2_9 C 15 (h0 9 (by decide) (by decide)) dX2_leasesOf_12 rfl ?_
      refine im_iload_n C 16 3 dX2_leasesOf_15 rfl rfl rfl ?_
      refine im_rdi C 17 16 (h0 10 (by decide) (by decide)) rfl dX2_leasesOf_16 rfl (fun v2 => ?_)
      refine im_iload_n C 18 1 dX2_leasesOf_17 rfl rfl rfl ?_
      refine im_ic_ne C 29 21 dX2_leasesOf_18 rfl rfl ?_ ?_
      · refine im_iconst C 30 dX2_leasesOf_29 rfl k_ic0 ?_
        refine im_iadd C 31 dX2_leasesOf_30 rfl ?_
        refine im_istore_n C 32 [(2, .int (z4.1 + (0 : Int32))), (0, .ref (ad 9 b)), (1, .int x1), (3, .int z4.2)] dX2_leasesOf_31 rfl (by decide) rfl rfl ?_
        refine im_iinc C 35 3 [(3, .int (z4.2 + (1 : Int32))), (2, .int (z4.1 + (0 : Int32))), (0, .ref (ad 9 b)), (1, .int x1)] dX2_leasesOf_32 rfl (k_inc1) (by decide) rfl rfl ?_
        refine im_goto C 4 dX2_leasesOf_35 rfl ?_
        exact im_sub [2, 3, 1, 0] [(0, .ref (ad 9 b)), (1, .int x1), (2, .int (z4.1 + (0 : Int32))), (3, .int (z4.2 + (1 : Int32)))] rfl (hX_z4 (z4.1 + (0 : Int32), z4.2 + (1 : Int32)))
      · refine im_aload_n C 22 0 dX2_leasesOf_21 rfl rfl rfl ?_
        refine im_iload_n C 23 3 dX2_leasesOf_22 rfl rfl rfl ?_
        refine im_cVP C 26 vk_X2_leasesHeld gw_701 (c_X2_leasesHeld (b := b) (x1 := z4.2) hU h0) (h0 9 (by decide) (by decide)) rfl rfl (rle rfl) rfl (st := [.int z4.1]) rfl (Nat.le_of_ble_eq_true rfl) dX2_leasesOf_23 rfl (fun o3 => ?_)
        refine im_goto C 30 dX2_leasesOf_26 rfl ?_
        refine im_iadd C 31 dX2_leasesOf_30 rfl ?_
        refine im_istore_n C 32 [(2, .int (z4.1 + o3)), (0, .ref (ad 9 b)), (1, .int x1), (3, .int z4.2)] dX2_leasesOf_31 rfl (by decide) rfl rfl ?_
        refine im_iinc C 35 3 [(3, .int (z4.2 + (1 : Int32))), (2, .int (z4.1 + o3)), (0, .ref (ad 9 b)), (1, .int x1)] dX2_leasesOf_32 rfl (k_inc1) (by decide) rfl rfl ?_
        refine im_goto C 4 dX2_leasesOf_35 rfl ?_
        exact im_sub [2, 3, 1, 0] [(0, .ref (ad 9 b)), (1, .int x1), (2, .int (z4.1 + o3)), (3, .int (z4.2 + (1 : Int32)))] rfl (hX_z4 (z4.1 + o3, z4.2 + (1 : Int32)))
set_option maxRecDepth 100000 in
set_option maxHeartbeats 4000000 in
theorem c_X5_dropCurrent {l : Launch} {G : va_G} {ad : Nat → Nat → Nat} {U : List (Nat × Nat)} {D : Dt} {b : Nat} {x1 : Int32} (hU : Uinj ad U) (h0 : SpU U b) : MV l G ad U yX5_dropCurrent cX5_dropCurrent 2 (k2_rm 0 0) [.ref (ad 1 b), .int x1] D (f_X5_dropCurrent b x1 D) := by
  refine mV_of0 (lv := [(0, .ref (ad 1 b)), (1, .int x1)]) (by decide) hU rfl (Nat.le_of_ble_eq_true rfl) (fun A p e s m args below meth c C => ?_)
  have C : Cx G ad U A p s m meth c args cX5_dropCurrent RX5 2 none := C
  unfold f_X5_dropCurrent
  refine im_aload_n C 1 0 dX5_dropCurrent_0 rfl rfl rfl ?_
  refine gl_X5_18 C 4 (h0 1 (by decide) (by decide)) dX5_dropCurrent_1 rfl ?_
  refine im_iload_n C 5 1 dX5_dropCurrent_4 rfl rfl rfl ?_
  refine im_iconst C 6 dX5_dropCurrent_5 rfl k_icm1 ?_
  refine im_wri C 7 12 (h0 4 (by decide) (by decide)) (fun _ => rfl) dX5_dropCurrent_6 rfl (fun D1 => ?_)
  exact im_vret C rfl dX5_dropCurrent_7
