set_option maxRecDepth 100000 in
set_option maxHeartbeats 4000000 in
theorem c_X9_appendCharacter {l : Launch} {G : va_G} {ad : Nat → Nat → Nat} {U : List (Nat × Nat)} {D : Dt} {x1 : Int32} (hU : Uinj ad U) (h0 : PrU U) : MI l G ad U yX9_appendCharacter cX9_appendCharacter 2 .int (k2_rm 1 22) [.ref (ad 31 0), .int x1] D (f_X9_appendCharacter x1 D) := by
  refine mI_of0 (lv := [(0, .ref (ad 31 0)), (1, .int x1)]) (by decide) hU rfl (Nat.le_of_ble_eq_true rfl) (fun A p e s m args below meth c C => ?_)
  have C : Cx G ad U A p s m meth c args cX9_appendCharacter RX9 2 (some .int) := C
  unfold f_X9_appendCharacter
  refine im_iload_n C 1 1 dX9_appendCharacter_0 rfl rfl rfl ?_
  refine im_iconst C 2 dX9_appendCharacter_1 rfl k_ic0 ?_
  refine im_sipush C 5 dX9_appendCharacter_2 rfl k_sp255 ?_
  refine im_cSP C 8 sk_X9_isIn gw_357 (c_X9_isIn (x0 := x1) (x1 := (0 : Int32)) (x2 := (255 : Int32)) hU) (rle rfl) rfl (st := []) rfl (Nat.le_of_ble_eq_true rfl) dX9_appendCharacter_5 rfl (fun o1 => ?_)
  refine im_if_ne C 13 11 dX9_appendCharacter_8 rfl rfl ?_ ?_
  · refine im_aload_n C 14 0 dX9_appendCharacter_13 rfl rfl rfl ?_
    refine gl_X9_12 C 17 (h0.1 31 (by decide) (by decide)) dX9_appendCharacter_14 rfl ?_
    refine im_iload_n C 18 1 dX9_appendCharacter_17 rfl rfl rfl ?_
    refine im_i2c C 19 dX9_appendCharacter_18 rfl rfl ?_
    refine im_cVI C 22 vk_X8_addSign gw_360 (c_X8_addSign (x1 := (x1.toUInt32 % 65536).toInt32) hU h0.2.1) (h0.2.1 22 (by decide) (by decide)) rfl rfl (rle rfl) rfl (st := []) rfl (Nat.le_of_ble_eq_true rfl) dX9_appendCharacter_19 rfl (fun o2 => ?_)
    refine im_if_eq C 35 25 dX9_appendCharacter_22 rfl rfl ?_ ?_
    · refine im_bipush C 37 dX9_appendCharacter_35 rfl k_bpm3 ?_
      exact im_iret C rfl rfl dX9_appendCharacter_37
    · refine im_aload_n C 26 0 dX9_appendCharacter_25 rfl rfl rfl ?_
      refine gl_X9_12 C 29 (h0.1 31 (by decide) (by decide)) dX9_appendCharacter_26 rfl ?_
      refine gl_X9_71 C 32 (h0.2.1 22 (by decide) (by decide)) dX9_appendCharacter_29 rfl ?_
      refine im_goto C 37 dX9_appendCharacter_32 rfl ?_
      exact im_iret C rfl rfl dX9_appendCharacter_37
  · refine im_iconst C 12 dX9_appendCharacter_11 rfl k_icm1 ?_
    exact im_iret C rfl rfl dX9_appendCharacter_12
set_option maxRecDepth 100000 in
set_option maxHeartbeats 4000000 in
theorem c_X9_clearText {l : Launch} {G : va_G} {ad : Nat → Nat → Nat} {U : List (Nat × Nat)} {D : Dt} (hU : Uinj ad U) (h0 : PrU U) : MI l G ad U yX9_clearText cX9_clearText 2 .int (k2_rm 0 0) [.ref (ad 31 0)] D (f_X9_clearText D) := by
  refine mI_of0 (lv := [(0, .ref (ad 31 0))]) (by decide) hU rfl (Nat.le_of_ble_eq_true rfl) (fun A p e s m args below meth c C => ?_)
  have C : Cx G ad U A p s m meth c args cX9_clearText RX9 2 (some .int) := C
  unfold f_X9_clearText
  refine im_aload_n C 1 0 dX9_clearText_0 rfl rfl rfl ?_
  refine gl_X9_12 C 4 (h0.1 31 (by decide) (by decide)) dX9_clearText_1 rfl ?_
  refine gl_X9_71 C 7 (h0.2.1 22 (by decide) (by decide)) dX9_clearText_4 rfl ?_
  refine im_istore_n C 8 [(1, .int (D 22 0 1)), (0, .ref (ad 31 0))] dX9_clearText_7 rfl (by decide) rfl rfl ?_
  refine im_aload_n C 9 1 dX9_clearText_8 rfl rfl rfl ?_
  refine gl_X9_12 C 12 (h0.1 31 (by decide) (by decide)) dX9_clearText_9 rfl ?_
  refine im_iconst C 13 dX9_clearText_12 rfl k_ic0 ?_
  refine pl_X9_71 C 16 (h0.2.1 22 (by decide) (by decide)) dX9_clearText_13 rfl (fun D1 => ?_)
  refine im_iload_n C 17 0 dX9_clearText_16 rfl rfl rfl ?_
  exact im_iret C rfl rfl dX9_clearText_17
set_option maxRecDepth 100000 in
set_option maxHeartbeats 4000000 in
theorem c_X9_adoptDraft {l : Launch} {G : va_G} {ad : Nat → Nat → Nat} {U : List (Nat × Nat)} {D : Dt} (hU : Uinj ad U) (h0 : PrU U) : MV l G ad U yX9_adoptDraft cX9_adoptDraft 1 (k2_rm 5 145) [.ref (ad 31 0)] D (f_X9_adoptDraft D) := by
  refine mV_of0 (lv := [(0, .ref (ad 31 0))]) (by decide) hU rfl (Nat.le_of_ble_eq_true rfl) (fun A p e s m args below meth c C => ?_)
  have C : Cx G ad U A p s m meth c args cX9_adoptDraft RX9 1 none := C
  unfold f_X9_adoptDraft
  refine im_aload_n C 1 0 dX9_adoptDraft_0 rfl rfl rfl ?_
  refine gl_X9_29 C 4 (h0.1 31 (by decide) (by decide)) dX9_adoptDraft_1 rfl ?_
  refine im_aload_n C 5 0 dX9_adoptDraft_4 rfl rfl rfl ?_
  refine gl_X9_19 C 8 (h0.1 31 (by decide) (by decide)) dX9_adoptDraft_5 rfl ?_
  refine im_cVV C 11 vk_X1_keep gw_575 (c_X1_keep (b1 := 0) hU h0.2.2.2.2.1 h0.2.2.1) (h0.2.2.2.2.1.1 24 (by decide) (by decide)) rfl rfl (rle rfl) rfl (st := []) rfl (Nat.le_of_ble_eq_true rfl) dX9_adoptDraft_8 rfl (fun D1 => ?_)
  refine im_aload_n C 12 0 dX9_adoptDraft_11 rfl rfl rfl ?_
  refine gl_X9_19 C 15 (h0.1 31 (by decide) (by decide)) dX9_adoptDraft_12 rfl ?_
  refine im_aload_n C 16 0 dX9_adoptDraft_15 rfl rfl rfl ?_
  refine gl_X9_23 C 19 (h0.1 31 (by decide) (by decide)) dX9_adoptDraft_16 rfl ?_
  refine im_cVV C 22 vk_X6_copyFrom gw_607 (c_X6_copyFrom (b := 0) (b1 := 1) hU h0.2.2.1 h0.2.2.2.1) (h0.2.2.1.1 0 (by decide) (by decide)) rfl rfl (rle rfl) rfl (st := []) rfl (Nat.le_of_ble_eq_true rfl) dX9_adoptDraft_19 rfl (fun D2 => ?_)
  exact im_vret C rfl dX9_adoptDraft_22
set_option maxRecDepth 100000 in
set_option maxHeartbeats 4000000 in
theorem c_X9_addPool {l : Launch} {G : va_G} {ad : Nat → Nat → Nat} {U : List (Nat × Nat)} {D : Dt} {x1 : Int32} {x2 : Int32} (hU : Uinj ad U) (h0 : PrU U) : MI l G ad U yX9_addPool cX9_addPool 3 .int (k2_rm 5 145) [.ref (ad 31 0), .int x1, .int x2] D (f_X9_addPool x1 x2 D) := by
  refine mI_of0 (lv := [(0, .ref (ad 31 0)), (1, .int x1), (2, .int x2)]) (by decide) hU rfl (Nat.le_of_ble_eq_true rfl) (fun A p e s m args below meth c C => ?_)
  have C : Cx G ad U A p s m meth c args cX9_addPool RX9 3 (some .int) := C
  unfold f_X9_addPool
  refine im_iload_n C 1 1 dX9_addPool_0 rfl rfl rfl ?_
  refine im_iconst C 2 dX9_addPool_1 rfl k_ic0 ?_
  refine im_ldc C 4 gw_613 dX9_addPool_2 rfl ?_
  refine im_cSP C 7 sk_X9_isIn gw_357 (c_X9_isIn (x0 := x1) (x1 := (0 : Int32)) (x2 := (65535 : Int32)) hU) (rle rfl) rfl (st := []) rfl (Nat.le_of_ble_eq_true rfl) dX9_addPool_4 rfl (fun o1 => ?_)
  refine im_if_eq C 28 10 dX9_addPool_7 rfl rfl ?_ ?_
  · refine im_iconst C 29 dX9_addPool_28 rfl k_icm1 ?_
    exact im_iret C rfl rfl dX9_addPool_29
  · refine im_iload_n C 11 2 dX9_addPool_10 rfl rfl rfl ?_
    refine im_iconst C 12 dX9_addPool_11 rfl k_ic4 ?_
    refine im_bipush C 14 dX9_addPool_12 rfl k_bp14 ?_
    refine im_cSP C 17 sk_X9_isIn gw_357 (c_X9_isIn (x0 := x2) (x1 := (4 : Int32)) (x2 := (14 : Int32)) hU) (rle rfl) rfl (st := []) rfl (Nat.le_of_ble_eq_true rfl) dX9_addPool_14 rfl (fun o2 => ?_)
    refine im_if_eq C 28 20 dX9_addPool_17 rfl rfl ?_ ?_
    · refine im_iconst C 29 dX9_addPool_28 rfl k_icm1 ?_
      exact im_iret C rfl rfl dX9_addPool_29
    · refine im_iload_n C 21 1 dX9_addPool_20 rfl rfl rfl ?_
      refine im_iload_n C 22 2 dX9_addPool_21 rfl rfl rfl ?_
      refine im_cSP C 25 sk_X9_isAligned gw_614 (c_X9_isAligned (x0 := x1) (x1 := x2) hU) (rle rfl) rfl (st := []) rfl (Nat.le_of_ble_eq_true rfl) dX9_addPool_22 rfl (fun o3 => ?_)
      refine im_if_ne C 30 28 dX9_addPool_25 rfl rfl ?_ ?_
      · refine im_aload_n C 31 0 dX9_addPool_30 rfl rfl rfl ?_
        refine gl_X9_19 C 34 (h0.1 31 (by decide) (by decide)) dX9_addPool_31 rfl ?_
        refine gl_X9_87 C 37 (h0.2.2.1.1 0 (by decide) (by decide)) dX9_addPool_34 rfl ?_
        refine im_iload_n C 38 1 dX9_addPool_37 rfl rfl rfl ?_
        refine im_iload_n C 39 2 dX9_addPool_38 rfl rfl rfl ?_
        refine im_cVP C 42 vk_X5_meetsPool gw_615 (c_X5_meetsPool (b := 0) (x1 := x1) (x2 := x2) hU h0.2.2.1.2.1) (h0.2.2.1.2.1 1 (by decide) (by decide)) rfl rfl (rle rfl) rfl (st := []) rfl (Nat.le_of_ble_eq_true rfl) dX9_addPool_39 rfl (fun o4 => ?_)
        refine im_if_eq C 48 45 dX9_addPool_42 rfl rfl ?_ ?_
        · refine im_aload_n C 49 0 dX9_addPool_48 rfl rfl rfl ?_
          refine gl_X9_19 C 52 (h0.1 31 (by decide) (by decide)) dX9_addPool_49 rfl ?_
          refine gl_X9_87 C 55 (h0.2.2.1.1 0 (by decide) (by decide)) dX9_addPool_52 rfl ?_
          refine gl_X9_96 C 58 (h0.2.2.1.2.1 1 (by decide) (by decide)) dX9_addPool_55 rfl ?_
          refine im_iconst C 59 dX9_addPool_58 rfl k_ic4 ?_
          refine im_ic_lt C 65 62 dX9_addPool_59 rfl rfl ?_ ?_
          · refine im_aload_n C 66 0 dX9_addPool_65 rfl rfl rfl ?_
            refine gl_X9_29 C 69 (h0.1 31 (by decide) (by decide)) dX9_addPool_66 rfl ?_
            refine im_aload_n C 70 0 dX9_addPool_69 rfl rfl rfl ?_
            refine gl_X9_19 C 73 (h0.1 31 (by decide) (by decide)) dX9_addPool_70 rfl ?_
            refine im_cVV C 76 vk_X1_keep gw_575 (c_X1_keep (b1 := 0) hU h0.2.2.2.2.1 h0.2.2.1) (h0.2.2.2.2.1.1 24 (by decide) (by decide)) rfl rfl (rle rfl) rfl (st := []) rfl (Nat.le_of_ble_eq_true rfl) dX9_addPool_73 rfl (fun D5 => ?_)
            refine im_aload_n C 77 0 dX9_addPool_76 rfl rfl rfl ?_
            refine gl_X9_19 C 80 (h0.1 31 (by decide) (by decide)) dX9_addPool_77 rfl ?_
            refine gl_X9_87 C 83 (h0.2.2.1.1 0 (by decide) (by decide)) dX9_addPool_80 rfl ?_
            refine im_iload_n C 84 1 dX9_addPool_83 rfl rfl rfl ?_
            refine im_iload_n C 85 2 dX9_addPool_84 rfl rfl rfl ?_
            refine im_cVV C 88 vk_X5_putPool gw_616 (c_X5_putPool (b := 0) (x1 := x1) (x2 := x2) hU h0.2.2.1.2.1) (h0.2.2.1.2.1 1 (by decide) (by decide)) rfl rfl (rle rfl) rfl (st := []) rfl (Nat.le_of_ble_eq_true rfl) dX9_addPool_85 rfl (fun D6 => ?_)
            refine im_aload_n C 89 0 dX9_addPool_88 rfl rfl rfl ?_
            refine gl_X9_19 C 92 (h0.1 31 (by decide) (by decide)) dX9_addPool_89 rfl ?_
            refine gl_X9_87 C 95 (h0.2.2.1.1 0 (by decide) (by decide)) dX9_addPool_92 rfl ?_
            refine gl_X9_96 C 98 (h0.2.2.1.2.1 1 (by decide) (by decide)) dX9_addPool_95 rfl ?_
            refine im_iconst C 99 dX9_addPool_98 rfl k_ic1 ?_
            refine im_isub C 100 dX9_addPool_99 rfl ?_
            exact im_iret C rfl rfl dX9_addPool_100
          · refine im_bipush C 64 dX9_addPool_62 rfl k_bpm3 ?_
            exact im_iret C rfl rfl dX9_addPool_64
        · refine im_bipush C 47 dX9_addPool_45 rfl k_bpm2 ?_
          exact im_iret C rfl rfl dX9_addPool_47
      · refine im_iconst C 29 dX9_addPool_28 rfl k_icm1 ?_
        exact im_iret C rfl rfl dX9_addPool_29
set_option maxRecDepth 100000 in
set_option maxHeartbeats 4000000 in
theorem c_X9_removePool {l : Launch} {G : va_G} {ad : Nat → Nat → Nat} {U : List (Nat × Nat)} {D : Dt} {x1 : Int32} (hU : Uinj ad U) (h0 : PrU U) : MI l G ad U yX9_removePool cX9_removePool 4 .int (k2_rm 5 145) [.ref (ad 31 0), .int x1] D (f_X9_removePool x1 D) := by
  refine mI_of0 (lv := [(0, .ref (ad 31 0)), (1, .int x1)]) (by decide) hU rfl (Nat.le_of_ble_eq_true rfl) (fun A p e s m args below meth c C => ?_)
  have C : Cx G ad U A p s m meth c args cX9_removePool RX9 4 (some .int) := C
  unfold f_X9_removePool
  refine im_aload_n C 1 0 dX9_removePool_0 rfl rfl rfl ?_
  refine gl_X9_19 C 4 (h0.1 31 (by decide) (by decide)) dX9_removePool_1 rfl ?_
  refine gl_X9_87 C 7 (h0.2.2.1.1 0 (by decide) (by decide)) dX9_removePool_4 rfl ?_
  refine im_iload_n C 8 1 dX9_removePool_7 rfl rfl rfl ?_
  refine im_cVP C 11 vk_X5_isPool gw_621 (c_X5_isPool (b := 0) (x1 := x1) hU h0.2.2.1.2.1) (h0.2.2.1.2.1 1 (by decide) (by decide)) rfl rfl (rle rfl) rfl (st := []) rfl (Nat.le_of_ble_eq_true rfl) dX9_removePool_8 rfl (fun o1 => ?_)
  refine im_if_ne C 16 14 dX9_removePool_11 rfl rfl ?_ ?_
  · refine im_aload_n C 17 0 dX9_removePool_16 rfl rfl rfl ?_
    refine gl_X9_19 C 20 (h0.1 31 (by decide) (by decide)) dX9_removePool_17 rfl ?_
    refine gl_X9_87 C 23 (h0.2.2.1.1 0 (by decide) (by decide)) dX9_removePool_20 rfl ?_
    refine gl_X9_111 C 26 (h0.2.2.1.2.1 1 (by decide) (by decide)) dX9_removePool_23 rfl ?_
    refine im_iload_n C 27 1 dX9_removePool_26 rfl rfl rfl ?_
    refine im_rdi C 28 4 (h0.2.2.1.2.1 2 (by decide) (by decide)) rfl dX9_removePool_27 rfl (fun v2 => ?_)
    refine im_istore_n C 29 [(2, .int v2), (0, .ref (ad 31 0)), (1, .int x1)] dX9_removePool_28 rfl (by decide) rfl rfl ?_
    refine im_aload_n C 30 1 dX9_removePool_29 rfl rfl rfl ?_
    refine gl_X9_19 C 33 (h0.1 31 (by decide) (by decide)) dX9_removePool_30 rfl ?_
    refine gl_X9_87 C 36 (h0.2.2.1.1 0 (by decide) (by decide)) dX9_removePool_33 rfl ?_
    refine gl_X9_115 C 39 (h0.2.2.1.2.1 1 (by decide) (by decide)) dX9_removePool_36 rfl ?_
    refine im_iload_n C 40 2 dX9_removePool_39 rfl rfl rfl ?_
    refine im_rdi C 41 4 (h0.2.2.1.2.1 3 (by decide) (by decide)) rfl dX9_removePool_40 rfl (fun v3 => ?_)
    refine im_istore_n C 42 [(3, .int v3), (2, .int v2), (0, .ref (ad 31 0)), (1, .int x1)] dX9_removePool_41 rfl (by decide) rfl rfl ?_
    refine im_aload_n C 43 2 dX9_removePool_42 rfl rfl rfl ?_
    refine gl_X9_36 C 46 (h0.1 31 (by decide) (by decide)) dX9_removePool_43 rfl ?_
    refine im_aload_n C 47 2 dX9_removePool_46 rfl rfl rfl ?_
    refine gl_X9_19 C 50 (h0.1 31 (by decide) (by decide)) dX9_removePool_47 rfl ?_
    refine gl_X9_87 C 53 (h0.2.2.1.1 0 (by decide) (by decide)) dX9_removePool_50 rfl ?_
    refine im_cVV C 56 vk_X7_take gw_625 (c_X7_take (b := 0) (b1 := 0) hU h0.2.2.2.2.2.1 h0.2.2.1.2.1) (h0.2.2.2.2.2.1.1 16 (by decide) (by decide)) rfl rfl (rle rfl) rfl (st := []) rfl (Nat.le_of_ble_eq_true rfl) dX9_removePool_53 rfl (fun D4 => ?_)
    refine im_aload_n C 57 2 dX9_removePool_56 rfl rfl rfl ?_
    refine gl_X9_36 C 60 (h0.1 31 (by decide) (by decide)) dX9_removePool_57 rfl ?_
    refine gl_X9_122 C 63 (h0.2.2.2.2.2.1.1 16 (by decide) (by decide)) dX9_removePool_60 rfl ?_
    refine im_iload_n C 64 1 dX9_removePool_63 rfl rfl rfl ?_
    refine im_iload_n C 65 0 dX9_removePool_64 rfl rfl rfl ?_
    refine im_cVP C 68 vk_X0_addressesIn gw_626 (c_X0_addressesIn (b := 0) (x1 := v2) (x2 := v3) hU h0.2.2.2.2.2.1.2) (h0.2.2.2.2.2.1.2 19 (by decide) (by decide)) rfl rfl (rle rfl) rfl (st := []) rfl (Nat.le_of_ble_eq_true rfl) dX9_removePool_65 rfl (fun o5 => ?_)
    refine im_iload_n C 69 0 dX9_removePool_68 rfl rfl rfl ?_
    refine im_cSP C 72 sk_X9_sizeOf gw_475 (c_X9_sizeOf (x0 := v3) hU) (rle rfl) rfl (st := [.int o5]) rfl (Nat.le_of_ble_eq_true rfl) dX9_removePool_69 rfl (fun o6 => ?_)
    refine im_ic_eq C 78 75 dX9_removePool_72 rfl rfl ?_ ?_
    · refine im_aload_n C 79 2 dX9_removePool_78 rfl rfl rfl ?_
      refine gl_X9_29 C 82 (h0.1 31 (by decide) (by decide)) dX9_removePool_79 rfl ?_
      refine im_aload_n C 83 2 dX9_removePool_82 rfl rfl rfl ?_
      refine gl_X9_19 C 86 (h0.1 31 (by decide) (by decide)) dX9_removePool_83 rfl ?_
      refine im_cVV C 89 vk_X1_keep gw_575 (c_X1_keep (b1 := 0) hU h0.2.2.2.2.1 h0.2.2.1) (h0.2.2.2.2.1.1 24 (by decide) (by decide)) rfl rfl (rle rfl) rfl (st := []) rfl (Nat.le_of_ble_eq_true rfl) dX9_removePool_86 rfl (fun D7 => ?_)
      refine im_aload_n C 90 2 dX9_removePool_89 rfl rfl rfl ?_
      refine gl_X9_19 C 93 (h0.1 31 (by decide) (by decide)) dX9_removePool_90 rfl ?_
      refine gl_X9_87 C 96 (h0.2.2.1.1 0 (by decide) (by decide)) dX9_removePool_93 rfl ?_
      refine im_iload_n C 97 3 dX9_removePool_96 rfl rfl rfl ?_
      refine im_cVV C 100 vk_X5_dropPool gw_631 (c_X5_dropPool (b := 0) (x1 := x1) hU h0.2.2.1.2.1) (h0.2.2.1.2.1 1 (by decide) (by decide)) rfl rfl (rle rfl) rfl (st := []) rfl (Nat.le_of_ble_eq_true rfl) dX9_removePool_97 rfl (fun D8 => ?_)
      refine im_aload_n C 101 2 dX9_removePool_100 rfl rfl rfl ?_
      refine gl_X9_19 C 104 (h0.1 31 (by decide) (by decide)) dX9_removePool_101 rfl ?_
      refine gl_X9_87 C 107 (h0.2.2.1.1 0 (by decide) (by decide)) dX9_removePool_104 rfl ?_
      refine gl_X9_96 C 110 (h0.2.2.1.2.1 1 (by decide) (by decide)) dX9_removePool_107 rfl ?_
      exact im_iret C rfl rfl dX9_removePool_110
    · refine im_bipush C 77 dX9_removePool_75 rfl k_bpm2 ?_
      exact im_iret C rfl rfl dX9_removePool_77
  · refine im_iconst C 15 dX9_removePool_14 rfl k_icm1 ?_
    exact im_iret C rfl rfl dX9_removePool_15
set_option maxRecDepth 100000 in
set_option maxHeartbeats 4000000 in
theorem c_X9_setPolicy {l : Launch} {G : va_G} {ad : Nat → Nat → Nat} {U : List (Nat × Nat)} {D : Dt} {x1 : Int32} (hU : Uinj ad U) (h0 : PrU U) : MI l G ad U yX9_setPolicy cX9_setPolicy 3 .int (k2_rm 5 145) [.ref (ad 31 0), .int x1] D (f_X9_setPolicy x1 D) := by
  refine mI_of0 (lv := [(0, .ref (ad 31 0)), (1, .int x1)]) (by decide) hU rfl (Nat.le_of_ble_eq_true rfl) (fun A p e s m args below meth c C => ?_)
  have C : Cx G ad U A p s m meth c args cX9_setPolicy RX9 3 (some .int) := C
  unfold f_X9_setPolicy
  refine im_iload_n C 1 1 dX9_setPolicy_0 rfl rfl rfl ?_
  refine im_iconst C 2 dX9_setPolicy_1 rfl k_ic0 ?_
  refine im_iconst C 3 dX9_setPolicy_2 rfl k_ic3 ?_
  refine im_cSP C 6 sk_X9_isIn gw_357 (c_X9_isIn (x0 := x1) (x1 := (0 : Int32)) (x2 := (3 : Int32)) hU) (rle rfl) rfl (st := []) rfl (Nat.le_of_ble_eq_true rfl) dX9_setPolicy_3 rfl (fun o1 => ?_)
  refine im_if_ne C 11 9 dX9_setPolicy_6 rfl rfl ?_ ?_
  · refine im_aload_n C 12 0 dX9_setPolicy_11 rfl rfl rfl ?_
    refine gl_X9_29 C 15 (h0.1 31 (by decide) (by decide)) dX9_setPolicy_12 rfl ?_
    refine im_aload_n C 16 0 dX9_setPolicy_15 rfl rfl rfl ?_
    refine gl_X9_19 C 19 (h0.1 31 (by decide) (by decide)) dX9_setPolicy_16 rfl ?_
    refine im_cVV C 22 vk_X1_keep gw_575 (c_X1_keep (b1 := 0) hU h0.2.2.2.2.1 h0.2.2.1) (h0.2.2.2.2.1.1 24 (by decide) (by decide)) rfl rfl (rle rfl) rfl (st := []) rfl (Nat.le_of_ble_eq_true rfl) dX9_setPolicy_19 rfl (fun D2 => ?_)
    refine im_aload_n C 23 0 dX9_setPolicy_22 rfl rfl rfl ?_
    refine gl_X9_19 C 26 (h0.1 31 (by decide) (by decide)) dX9_setPolicy_23 rfl ?_
    refine gl_X9_87 C 29 (h0.2.2.1.1 0 (by decide) (by decide)) dX9_setPolicy_26 rfl ?_
    refine gl_X9_137 C 32 (h0.2.2.1.2.1 1 (by decide) (by decide)) dX9_setPolicy_29 rfl ?_
    refine im_istore_n C 33 [(2, .int (D2 1 0 0)), (0, .ref (ad 31 0)), (1, .int x1)] dX9_setPolicy_32 rfl (by decide) rfl rfl ?_
    refine im_aload_n C 34 1 dX9_setPolicy_33 rfl rfl rfl ?_
    refine gl_X9_19 C 37 (h0.1 31 (by decide) (by decide)) dX9_setPolicy_34 rfl ?_
    refine gl_X9_87 C 40 (h0.2.2.1.1 0 (by decide) (by decide)) dX9_setPolicy_37 rfl ?_
    refine im_iload_n C 41 2 dX9_setPolicy_40 rfl rfl rfl ?_
    refine pl_X9_137 C 44 (h0.2.2.1.2.1 1 (by decide) (by decide)) dX9_setPolicy_41 rfl (fun D3 => ?_)
    refine im_iload_n C 45 0 dX9_setPolicy_44 rfl rfl rfl ?_
    exact im_iret C rfl rfl dX9_setPolicy_45
  · refine im_iconst C 10 dX9_setPolicy_9 rfl k_icm1 ?_
    exact im_iret C rfl rfl dX9_setPolicy_10
set_option maxRecDepth 100000 in
set_option maxHeartbeats 4000000 in
theorem c_X9_pool {l : Launch} {G : va_G} {ad : Nat → Nat → Nat} {U : List (Nat × Nat)} {D : Dt} {x1 : Int32} {x2 : Int32} (hU : Uinj ad U) (h0 : PrU U) : MI l G ad U yX9_pool cX9_pool 5 .int (k2_rm 4 88) [.ref (ad 31 0), .int x1, .int x2] D (f_X9_pool x1 x2 D) := by
  refine mI_of0 (lv := [(0, .ref (ad 31 0)), (1, .int x1), (2, .int x2)]) (by decide) hU rfl (Nat.le_of_ble_eq_true rfl) (fun A p e s m args below meth c C => ?_)
  have C : Cx G ad U A p s m meth c args cX9_pool RX9 5 (some .int) := C
  unfold f_X9_pool
  refine im_aload_n C 1 0 dX9_pool_0 rfl rfl rfl ?_
  refine gl_X9_19 C 4 (h0.1 31 (by decide) (by decide)) dX9_pool_1 rfl ?_
  refine gl_X9_87 C 7 (h0.2.2.1.1 0 (by decide) (by decide)) dX9_pool_4 rfl ?_
  refine im_iload_n C 8 1 dX9_pool_7 rfl rfl rfl ?_
  refine im_cVP C 11 vk_X5_isPool gw_621 (c_X5_isPool (b := 0) (x1 := x1) hU h0.2.2.1.2.1) (h0.2.2.1.2.1 1 (by decide) (by decide)) rfl rfl (rle rfl) rfl (st := []) rfl (Nat.le_of_ble_eq_true rfl) dX9_pool_8 rfl (fun o1 => ?_)
  refine im_if_eq C 23 14 dX9_pool_11 rfl rfl ?_ ?_
  · refine im_iconst C 24 dX9_pool_23 rfl k_icm1 ?_
    exact im_iret C rfl rfl dX9_pool_24
  · refine im_iload_n C 15 2 dX9_pool_14 rfl rfl rfl ?_
    refine im_iconst C 16 dX9_pool_15 rfl k_ic0 ?_
    refine im_iconst C 17 dX9_pool_16 rfl k_ic3 ?_
    refine im_cSP C 20 sk_X9_isIn gw_357 (c_X9_isIn (x0 := x2) (x1 := (0 : Int32)) (x2 := (3 : Int32)) hU) (rle rfl) rfl (st := []) rfl (Nat.le_of_ble_eq_true rfl) dX9_pool_17 rfl (fun o2 => ?_)
    refine im_if_ne C 25 23 dX9_pool_20 rfl rfl ?_ ?_
    · refine im_aload_n C 26 0 dX9_pool_25 rfl rfl rfl ?_
      refine gl_X9_19 C 29 (h0.1 31 (by decide) (by decide)) dX9_pool_26 rfl ?_
      refine gl_X9_87 C 32 (h0.2.2.1.1 0 (by decide) (by decide)) dX9_pool_29 rfl ?_
      refine gl_X9_111 C 35 (h0.2.2.1.2.1 1 (by decide) (by decide)) dX9_pool_32 rfl ?_
      refine im_iload_n C 36 1 dX9_pool_35 rfl rfl rfl ?_
      refine im_rdi C 37 4 (h0.2.2.1.2.1 2 (by decide) (by decide)) rfl dX9_pool_36 rfl (fun v3 => ?_)
      refine im_istore_n C 38 [(3, .int v3), (0, .ref (ad 31 0)), (1, .int x1), (2, .int x2)] dX9_pool_37 rfl (by decide) rfl rfl ?_
      refine im_aload_n C 39 1 dX9_pool_38 rfl rfl rfl ?_
      refine gl_X9_19 C 42 (h0.1 31 (by decide) (by decide)) dX9_pool_39 rfl ?_
      refine gl_X9_87 C 45 (h0.2.2.1.1 0 (by decide) (by decide)) dX9_pool_42 rfl ?_
      refine gl_X9_115 C 48 (h0.2.2.1.2.1 1 (by decide) (by decide)) dX9_pool_45 rfl ?_
      refine im_iload_n C 49 2 dX9_pool_48 rfl rfl rfl ?_
      refine im_rdi C 50 4 (h0.2.2.1.2.1 3 (by decide) (by decide)) rfl dX9_pool_49 rfl (fun v4 => ?_)
      refine im_istore C 52 [(4, .int v4), (3, .int v3), (0, .ref (ad 31 0)), (1, .int x1), (2, .int x2)] dX9_pool_50 (by decide) rfl rfl ?_
      refine im_iload_n C 53 4 dX9_pool_52 rfl rfl rfl ?_
      refine im_if_ne C 58 56 dX9_pool_53 rfl rfl ?_ ?_
      · refine im_iload_n C 59 4 dX9_pool_58 rfl rfl rfl ?_
        refine im_iconst C 60 dX9_pool_59 rfl k_ic1 ?_
        refine im_ic_ne C 66 63 dX9_pool_60 rfl rfl ?_ ?_
        · refine im_aload_n C 67 2 dX9_pool_66 rfl rfl rfl ?_
          refine gl_X9_36 C 70 (h0.1 31 (by decide) (by decide)) dX9_pool_67 rfl ?_
          refine im_aload_n C 71 2 dX9_pool_70 rfl rfl rfl ?_
          refine gl_X9_19 C 74 (h0.1 31 (by decide) (by decide)) dX9_pool_71 rfl ?_
          refine gl_X9_87 C 77 (h0.2.2.1.1 0 (by decide) (by decide)) dX9_pool_74 rfl ?_
          refine im_cVV C 80 vk_X7_take gw_625 (c_X7_take (b := 0) (b1 := 0) hU h0.2.2.2.2.2.1 h0.2.2.1.2.1) (h0.2.2.2.2.2.1.1 16 (by decide) (by decide)) rfl rfl (rle rfl) rfl (st := []) rfl (Nat.le_of_ble_eq_true rfl) dX9_pool_77 rfl (fun D5 => ?_)
          refine im_iload_n C 81 4 dX9_pool_80 rfl rfl rfl ?_
          refine im_iconst C 82 dX9_pool_81 rfl k_ic2 ?_
          refine im_ic_ne C 101 85 dX9_pool_82 rfl rfl ?_ ?_
          · refine im_aload_n C 102 2 dX9_pool_101 rfl rfl rfl ?_
            refine gl_X9_36 C 105 (h0.1 31 (by decide) (by decide)) dX9_pool_102 rfl ?_
            refine gl_X9_122 C 108 (h0.2.2.2.2.2.1.1 16 (by decide) (by decide)) dX9_pool_105 rfl ?_
            refine im_iload_n C 109 1 dX9_pool_108 rfl rfl rfl ?_
            refine im_iload C 111 0 dX9_pool_109 rfl rfl ?_
            refine im_cVP C 114 vk_X0_blocksIn gw_644 (c_X0_blocksIn (b := 0) (x1 := v3) (x2 := v4) hU h0.2.2.2.2.2.1.2) (h0.2.2.2.2.2.1.2 19 (by decide) (by decide)) rfl rfl (rle rfl) rfl (st := []) rfl (Nat.le_of_ble_eq_true rfl) dX9_pool_111 rfl (fun o6 => ?_)
            exact im_iret C rfl rfl dX9_pool_114
          · refine im_aload_n C 86 2 dX9_pool_85 rfl rfl rfl ?_
            refine gl_X9_36 C 89 (h0.1 31 (by decide) (by decide)) dX9_pool_86 rfl ?_
            refine gl_X9_122 C 92 (h0.2.2.2.2.2.1.1 16 (by decide) (by decide)) dX9_pool_89 rfl ?_
            refine im_iload_n C 93 1 dX9_pool_92 rfl rfl rfl ?_
            refine im_iload C 95 0 dX9_pool_93 rfl rfl ?_
            refine im_cVP C 98 vk_X0_addressesIn gw_626 (c_X0_addressesIn (b := 0) (x1 := v3) (x2 := v4) hU h0.2.2.2.2.2.1.2) (h0.2.2.2.2.2.1.2 19 (by decide) (by decide)) rfl rfl (rle rfl) rfl (st := []) rfl (Nat.le_of_ble_eq_true rfl) dX9_pool_95 rfl (fun o7 => ?_)
            refine im_goto C 114 dX9_pool_98 rfl ?_
            exact im_iret C rfl rfl dX9_pool_114
        · refine im_iload C 65 0 dX9_pool_63 rfl rfl ?_
          exact im_iret C rfl rfl dX9_pool_65
      · refine im_iload_n C 57 1 dX9_pool_56 rfl rfl rfl ?_
        exact im_iret C rfl rfl dX9_pool_57
    · refine im_iconst C 24 dX9_pool_23 rfl k_icm1 ?_
      exact im_iret C rfl rfl dX9_pool_24
set_option maxRecDepth 100000 in
set_option maxHeartbeats 4000000 in
theorem c_X9_freeBlocks {l : Launch} {G : va_G} {ad : Nat → Nat → Nat} {U : List (Nat × Nat)} {D : Dt} {x1 : Int32} (hU : Uinj ad U) (h0 : PrU U) : MI l G ad U yX9_freeBlocks cX9_freeBlocks 2 .int (k2_rm 4 88) [.ref (ad 31 0), .int x1] D (f_X9_freeBlocks x1 D) := by
  refine mI_of0 (lv := [(0, .ref (ad 31 0)), (1, .int x1)]) (by decide) hU rfl (Nat.le_of_ble_eq_true rfl) (fun A p e s m args below meth c C => ?_)
  have C : Cx G ad U A p s m meth c args cX9_freeBlocks RX9 2 (some .int) := C
  unfold f_X9_freeBlocks
  refine im_iload_n C 1 1 dX9_freeBlocks_0 rfl rfl rfl ?_
  refine im_iconst C 2 dX9_freeBlocks_1 rfl k_ic0 ?_
  refine im_bipush C 4 dX9_freeBlocks_2 rfl k_bp16 ?_
  refine im_cSP C 7 sk_X9_isIn gw_357 (c_X9_isIn (x0 := x1) (x1 := (0 : Int32)) (x2 := (16 : Int32)) hU) (rle rfl) rfl (st := []) rfl (Nat.le_of_ble_eq_true rfl) dX9_freeBlocks_4 rfl (fun o1 => ?_)
  refine im_if_ne C 12 10 dX9_freeBlocks_7 rfl rfl ?_ ?_
  · refine im_aload_n C 13 0 dX9_freeBlocks_12 rfl rfl rfl ?_
    refine gl_X9_36 C 16 (h0.1 31 (by decide) (by decide)) dX9_freeBlocks_13 rfl ?_
    refine im_aload_n C 17 0 dX9_freeBlocks_16 rfl rfl rfl ?_
    refine gl_X9_19 C 20 (h0.1 31 (by decide) (by decide)) dX9_freeBlocks_17 rfl ?_
    refine gl_X9_87 C 23 (h0.2.2.1.1 0 (by decide) (by decide)) dX9_freeBlocks_20 rfl ?_
    refine im_cVV C 26 vk_X7_take gw_625 (c_X7_take (b := 0) (b1 := 0) hU h0.2.2.2.2.2.1 h0.2.2.1.2.1) (h0.2.2.2.2.2.1.1 16 (by decide) (by decide)) rfl rfl (rle rfl) rfl (st := []) rfl (Nat.le_of_ble_eq_true rfl) dX9_freeBlocks_23 rfl (fun D2 => ?_)
    refine im_aload_n C 27 0 dX9_freeBlocks_26 rfl rfl rfl ?_
    refine gl_X9_36 C 30 (h0.1 31 (by decide) (by decide)) dX9_freeBlocks_27 rfl ?_
    refine gl_X9_122 C 33 (h0.2.2.2.2.2.1.1 16 (by decide) (by decide)) dX9_freeBlocks_30 rfl ?_
    refine im_iload_n C 34 1 dX9_freeBlocks_33 rfl rfl rfl ?_
    refine im_cVP C 37 vk_X0_blocksOf gw_652 (c_X0_blocksOf (b := 0) (x1 := x1) hU h0.2.2.2.2.2.1.2) (h0.2.2.2.2.2.1.2 19 (by decide) (by decide)) rfl rfl (rle rfl) rfl (st := []) rfl (Nat.le_of_ble_eq_true rfl) dX9_freeBlocks_34 rfl (fun o3 => ?_)
    exact im_iret C rfl rfl dX9_freeBlocks_37
  · refine im_iconst C 11 dX9_freeBlocks_10 rfl k_icm1 ?_
    exact im_iret C rfl rfl dX9_freeBlocks_11
set_option maxRecDepth 100000 in
set_option maxHeartbeats 4000000 in
theorem c_X9_largestFree {l : Launch} {G : va_G} {ad : Nat → Nat → Nat} {U : List (Nat × Nat)} {D : Dt} (hU : Uinj ad U) (h0 : PrU U) : MI l G ad U yX9_largestFree cX9_largestFree 2 .int (k2_rm 4 88) [.ref (ad 31 0)] D (f_X9_largestFree D) := by
  refine mI_of0 (lv := [(0, .ref (ad 31 0))]) (by decide) hU rfl (Nat.le_of_ble_eq_true rfl) (fun A p e s m args below meth c C => ?_)
  have C : Cx G ad U A p s m meth c args cX9_largestFree RX9 2 (some .int) := C
  unfold f_X9_largestFree
  refine im_aload_n C 1 0 dX9_largestFree_0 rfl rfl rfl ?_
  refine gl_X9_36 C 4 (h0.1 31 (by decide) (by decide)) dX9_largestFree_1 rfl ?_
  refine im_aload_n C 5 0 dX9_largestFree_4 rfl rfl rfl ?_
  refine gl_X9_19 C 8 (h0.1 31 (by decide) (by decide)) dX9_largestFree_5 rfl ?_
  refine gl_X9_87 C 11 (h0.2.2.1.1 0 (by decide) (by decide)) dX9_largestFree_8 rfl ?_
  refine im_cVV C 14 vk_X7_take gw_625 (c_X7_take (b := 0) (b1 := 0) hU h0.2.2.2.2.2.1 h0.2.2.1.2.1) (h0.2.2.2.2.2.1.1 16 (by decide) (by decide)) rfl rfl (rle rfl) rfl (st := []) rfl (Nat.le_of_ble_eq_true rfl) dX9_largestFree_11 rfl (fun D1 => ?_)
  refine im_aload_n C 15 0 dX9_largestFree_14 rfl rfl rfl ?_
  refine gl_X9_36 C 18 (h0.1 31 (by decide) (by decide)) dX9_largestFree_15 rfl ?_
  refine gl_X9_122 C 21 (h0.2.2.2.2.2.1.1 16 (by decide) (by decide)) dX9_largestFree_18 rfl ?_
  refine im_cVP C 24 vk_X0_shortest gw_660 (c_X0_shortest (b := 0) hU h0.2.2.2.2.2.1.2) (h0.2.2.2.2.2.1.2 19 (by decide) (by decide)) rfl rfl (rle rfl) rfl (st := []) rfl (Nat.le_of_ble_eq_true rfl) dX9_largestFree_21 rfl (fun o2 => ?_)
  refine im_istore_n C 25 [(1, .int o2), (0, .ref (ad 31 0))] dX9_largestFree_24 rfl (by decide) rfl rfl ?_
  refine im_iload_n C 26 0 dX9_largestFree_25 rfl rfl rfl ?_
  refine im_iconst C 27 dX9_largestFree_26 rfl k_icm1 ?_
  refine im_ic_ne C 35 30 dX9_largestFree_27 rfl rfl ?_ ?_
  · refine im_iload_n C 36 0 dX9_largestFree_35 rfl rfl rfl ?_
    exact im_iret C rfl rfl dX9_largestFree_36
  · refine im_bipush C 32 dX9_largestFree_30 rfl k_bpm9 ?_
    refine im_goto C 36 dX9_largestFree_32 rfl ?_
    exact im_iret C rfl rfl dX9_largestFree_36
set_option maxRecDepth 100000 in
set_option maxHeartbeats 4000000 in
theorem c_X9_capacity {l : Launch} {G : va_G} {ad : Nat → Nat → Nat} {U : List (Nat × Nat)} {D : Dt} {x1 : Int32} (hU : Uinj ad U) (h0 : PrU U) : MI l G ad U yX9_capacity cX9_capacity 2 .int (k2_rm 4 88) [.ref (ad 31 0), .int x1] D (f_X9_capacity x1 D) := by
  refine mI_of0 (lv := [(0, .ref (ad 31 0)), (1, .int x1)]) (by decide) hU rfl (Nat.le_of_ble_eq_true rfl) (fun A p e s m args below meth c C => ?_)
  have C : Cx G ad U A p s m meth c args cX9_capacity RX9 2 (some .int) := C
  unfold f_X9_capacity
  refine im_iload_n C 1 1 dX9_capacity_0 rfl rfl rfl ?_
  refine im_iconst C 2 dX9_capacity_1 rfl k_ic0 ?_
  refine im_bipush C 4 dX9_capacity_2 rfl k_bp16 ?_
  refine im_cSP C 7 sk_X9_isIn gw_357 (c_X9_isIn (x0 := x1) (x1 := (0 : Int32)) (x2 := (16 : Int32)) hU) (rle rfl) rfl (st := []) rfl (Nat.le_of_ble_eq_true rfl) dX9_capacity_4 rfl (fun o1 => ?_)
  refine im_if_ne C 12 10 dX9_capacity_7 rfl rfl ?_ ?_
  · refine im_aload_n C 13 0 dX9_capacity_12 rfl rfl rfl ?_
    refine gl_X9_36 C 16 (h0.1 31 (by decide) (by decide)) dX9_capacity_13 rfl ?_
    refine im_aload_n C 17 0 dX9_capacity_16 rfl rfl rfl ?_
    refine gl_X9_19 C 20 (h0.1 31 (by decide) (by decide)) dX9_capacity_17 rfl ?_
    refine gl_X9_87 C 23 (h0.2.2.1.1 0 (by decide) (by decide)) dX9_capacity_20 rfl ?_
    refine im_cVV C 26 vk_X7_take gw_625 (c_X7_take (b := 0) (b1 := 0) hU h0.2.2.2.2.2.1 h0.2.2.1.2.1) (h0.2.2.2.2.2.1.1 16 (by decide) (by decide)) rfl rfl (rle rfl) rfl (st := []) rfl (Nat.le_of_ble_eq_true rfl) dX9_capacity_23 rfl (fun D2 => ?_)
    refine im_aload_n C 27 0 dX9_capacity_26 rfl rfl rfl ?_
    refine gl_X9_36 C 30 (h0.1 31 (by decide) (by decide)) dX9_capacity_27 rfl ?_
    refine gl_X9_122 C 33 (h0.2.2.2.2.2.1.1 16 (by decide) (by decide)) dX9_capacity_30 rfl ?_
    refine im_iload_n C 34 1 dX9_capacity_33 rfl rfl rfl ?_
    refine im_cVP C 37 vk_X0_roomFor gw_668 (c_X0_roomFor (b := 0) (x1 := x1) hU h0.2.2.2.2.2.1.2) (h0.2.2.2.2.2.1.2 19 (by decide) (by decide)) rfl rfl (rle rfl) rfl (st := []) rfl (Nat.le_of_ble_eq_true rfl) dX9_capacity_34 rfl (fun o3 => ?_)
    exact im_iret C rfl rfl dX9_capacity_37
  · refine im_iconst C 11 dX9_capacity_10 rfl k_icm1 ?_
    exact im_iret C rfl rfl dX9_capacity_11
set_option maxRecDepth 100000 in
set_option maxHeartbeats 4000000 in
theorem c_X9_fragmentation {l : Launch} {G : va_G} {ad : Nat → Nat → Nat} {U : List (Nat × Nat)} {D : Dt} (hU : Uinj ad U) (h0 : PrU U) : MI l G ad U yX9_fragmentation cX9_fragmentation 1 .int (k2_rm 4 88) [.ref (ad 31 0)] D (f_X9_fragmentation D) := by
  refine mI_of0 (lv := [(0, .ref (ad 31 0))]) (by decide) hU rfl (Nat.le_of_ble_eq_true rfl) (fun A p e s m args below meth c C => ?_)
  have C : Cx G ad U A p s m meth c args cX9_fragmentation RX9 1 (some .int) := C
  unfold f_X9_fragmentation
  refine im_aload_n C 1 0 dX9_fragmentation_0 rfl rfl rfl ?_
  refine gl_X9_36 C 4 (h0.1 31 (by decide) (by decide)) dX9_fragmentation_1 rfl ?_
  refine im_aload_n C 5 0 dX9_fragmentation_4 rfl rfl rfl ?_
  refine gl_X9_19 C 8 (h0.1 31 (by decide) (by decide)) dX9_fragmentation_5 rfl ?_
  refine gl_X9_87 C 11 (h0.2.2.1.1 0 (by decide) (by decide)) dX9_fragmentation_8 rfl ?_
  refine im_cVV C 14 vk_X7_take gw_625 (c_X7_take (b := 0) (b1 := 0) hU h0.2.2.2.2.2.1 h0.2.2.1.2.1) (h0.2.2.2.2.2.1.1 16 (by decide) (by decide)) rfl rfl (rle rfl) rfl (st := []) rfl (Nat.le_of_ble_eq_true rfl) dX9_fragmentation_11 rfl (fun D1 => ?_)
  refine im_aload_n C 15 0 dX9_fragmentation_14 rfl rfl rfl ?_
  refine gl_X9_36 C 18 (h0.1 31 (by decide) (by decide)) dX9_fragmentation_15 rfl ?_
  refine gl_X9_122 C 21 (h0.2.2.2.2.2.1.1 16 (by decide) (by decide)) dX9_fragmentation_18 rfl ?_
  refine im_cVP C 24 vk_X0_fragmentationIndex gw_676 (c_X0_fragmentationIndex (b := 0) hU h0.2.2.2.2.2.1.2) (h0.2.2.2.2.2.1.2 19 (by decide) (by decide)) rfl rfl (rle rfl) rfl (st := []) rfl (Nat.le_of_ble_eq_true rfl) dX9_fragmentation_21 rfl (fun o2 => ?_)
  exact im_iret C rfl rfl dX9_fragmentation_24
set_option maxRecDepth 100000 in
set_option maxHeartbeats 4000000 in
theorem c_X9_assign {l : Launch} {G : va_G} {ad : Nat → Nat → Nat} {U : List (Nat × Nat)} {D : Dt} {x1 : Int32} {x2 : Int32} (hU : Uinj ad U) (h0 : PrU U) : MI l G ad U yX9_assign cX9_assign 4 .int (k2_rm 5 145) [.ref (ad 31 0), .int x1, .int x2] D (f_X9_assign x1 x2 D) := by
  refine mI_of0 (lv := [(0, .ref (ad 31 0)), (1, .int x1), (2, .int x2)]) (by decide) hU rfl (Nat.le_of_ble_eq_true rfl) (fun A p e s m args below meth c C => ?_)
  have C : Cx G ad U A p s m meth c args cX9_assign RX9 4 (some .int) := C
  unfold f_X9_assign
  refine im_iload_n C 1 1 dX9_assign_0 rfl rfl rfl ?_
  refine im_cSP C 4 sk_X9_isNetwork gw_689 (c_X9_isNetwork (x0 := x1) hU) (rle rfl) rfl (st := []) rfl (Nat.le_of_ble_eq_true rfl) dX9_assign_1 rfl (fun o1 => ?_)
  refine im_if_eq C 17 7 dX9_assign_4 rfl rfl ?_ ?_
  · refine im_iconst C 18 dX9_assign_17 rfl k_icm1 ?_
    exact im_iret C rfl rfl dX9_assign_18
  · refine im_iload_n C 8 2 dX9_assign_7 rfl rfl rfl ?_
    refine im_iconst C 9 dX9_assign_8 rfl k_ic5 ?_
    refine im_bipush C 11 dX9_assign_9 rfl k_bp16 ?_
    refine im_cSP C 14 sk_X9_isIn gw_357 (c_X9_isIn (x0 := x2) (x1 := (5 : Int32)) (x2 := (16 : Int32)) hU) (rle rfl) rfl (st := []) rfl (Nat.le_of_ble_eq_true rfl) dX9_assign_11 rfl (fun o2 => ?_)
    refine im_if_ne C 19 17 dX9_assign_14 rfl rfl ?_ ?_
    · refine im_aload_n C 20 0 dX9_assign_19 rfl rfl rfl ?_
      refine gl_X9_19 C 23 (h0.1 31 (by decide) (by decide)) dX9_assign_20 rfl ?_
      refine gl_X9_87 C 26 (h0.2.2.1.1 0 (by decide) (by decide)) dX9_assign_23 rfl ?_
      refine im_iload_n C 27 1 dX9_assign_26 rfl rfl rfl ?_
      refine im_cVP C 30 vk_X5_hasBlock gw_690 (c_X5_hasBlock (b := 0) (x1 := x1) hU h0.2.2.1.2.1) (h0.2.2.1.2.1 1 (by decide) (by decide)) rfl rfl (rle rfl) rfl (st := []) rfl (Nat.le_of_ble_eq_true rfl) dX9_assign_27 rfl (fun o3 => ?_)
      refine im_if_eq C 36 33 dX9_assign_30 rfl rfl ?_ ?_
      · refine im_aload_n C 37 0 dX9_assign_36 rfl rfl rfl ?_
        refine gl_X9_36 C 40 (h0.1 31 (by decide) (by decide)) dX9_assign_37 rfl ?_
        refine im_aload_n C 41 0 dX9_assign_40 rfl rfl rfl ?_
        refine gl_X9_19 C 44 (h0.1 31 (by decide) (by decide)) dX9_assign_41 rfl ?_
        refine gl_X9_87 C 47 (h0.2.2.1.1 0 (by decide) (by decide)) dX9_assign_44 rfl ?_
        refine im_iload_n C 48 2 dX9_assign_47 rfl rfl rfl ?_
        refine im_cVI C 51 vk_X7_place gw_691 (c_X7_place (b := 0) (b1 := 0) (x2 := x2) hU h0.2.2.2.2.2.1 h0.2.2.1.2.1) (h0.2.2.2.2.2.1.1 16 (by decide) (by decide)) rfl rfl (rle rfl) rfl (st := []) rfl (Nat.le_of_ble_eq_true rfl) dX9_assign_48 rfl (fun o4 => ?_)
        refine im_istore_n C 52 [(3, .int o4.1), (0, .ref (ad 31 0)), (1, .int x1), (2, .int x2)] dX9_assign_51 rfl (by decide) rfl rfl ?_
        refine im_iload_n C 53 0 dX9_assign_52 rfl rfl rfl ?_
        refine im_iconst C 54 dX9_assign_53 rfl k_icm1 ?_
        refine im_ic_ne C 60 57 dX9_assign_54 rfl rfl ?_ ?_
        · refine im_aload_n C 61 1 dX9_assign_60 rfl rfl rfl ?_
          refine gl_X9_29 C 64 (h0.1 31 (by decide) (by decide)) dX9_assign_61 rfl ?_
          refine im_aload_n C 65 1 dX9_assign_64 rfl rfl rfl ?_
          refine gl_X9_19 C 68 (h0.1 31 (by decide) (by decide)) dX9_assign_65 rfl ?_
          refine im_cVV C 71 vk_X1_keep gw_575 (c_X1_keep (b1 := 0) hU h0.2.2.2.2.1 h0.2.2.1) (h0.2.2.2.2.1.1 24 (by decide) (by decide)) rfl rfl (rle rfl) rfl (st := []) rfl (Nat.le_of_ble_eq_true rfl) dX9_assign_68 rfl (fun D5 => ?_)
          refine im_aload_n C 72 1 dX9_assign_71 rfl rfl rfl ?_
          refine gl_X9_19 C 75 (h0.1 31 (by decide) (by decide)) dX9_assign_72 rfl ?_
          refine gl_X9_87 C 78 (h0.2.2.1.1 0 (by decide) (by decide)) dX9_assign_75 rfl ?_
          refine im_iload_n C 79 2 dX9_assign_78 rfl rfl rfl ?_
          refine im_iload_n C 80 0 dX9_assign_79 rfl rfl rfl ?_
          refine im_iload_n C 81 3 dX9_assign_80 rfl rfl rfl ?_
          refine im_cVV C 84 vk_X5_putCurrent gw_692 (c_X5_putCurrent (b := 0) (x1 := x1) (x2 := o4.1) (x3 := x2) hU h0.2.2.1.2.1) (h0.2.2.1.2.1 1 (by decide) (by decide)) rfl rfl (rle rfl) rfl (st := []) rfl (Nat.le_of_ble_eq_true rfl) dX9_assign_81 rfl (fun D6 => ?_)
          refine im_iload_n C 85 0 dX9_assign_84 rfl rfl rfl ?_
          exact im_iret C rfl rfl dX9_assign_85
        · refine im_bipush C 59 dX9_assign_57 rfl k_bpm3 ?_
          exact im_iret C rfl rfl dX9_assign_59
      · refine im_bipush C 35 dX9_assign_33 rfl k_bpm2 ?_
        exact im_iret C rfl rfl dX9_assign_35
    · refine im_iconst C 18 dX9_assign_17 rfl k_icm1 ?_
      exact im_iret C rfl rfl dX9_assign_18
set_option maxRecDepth 100000 in
set_option maxHeartbeats 4000000 in
theorem c_X9_release {l : Launch} {G : va_G} {ad : Nat → Nat → Nat} {U : List (Nat × Nat)} {D : Dt} {x1 : Int32} (hU : Uinj ad U) (h0 : PrU U) : MI l G ad U yX9_release cX9_release 2 .int (k2_rm 5 145) [.ref (ad 31 0), .int x1] D (f_X9_release x1 D) := by
  refine mI_of0 (lv := [(0, .ref (ad 31 0)), (1, .int x1)]) (by decide) hU rfl (Nat.le_of_ble_eq_true rfl) (fun A p e s m args below meth c C => ?_)
  have C : Cx G ad U A p s m meth c args cX9_release RX9 2 (some .int) := C
  unfold f_X9_release
  refine im_iload_n C 1 1 dX9_release_0 rfl rfl rfl ?_
  refine im_cSP C 4 sk_X9_isNetwork gw_689 (c_X9_isNetwork (x0 := x1) hU) (rle rfl) rfl (st := []) rfl (Nat.le_of_ble_eq_true rfl) dX9_release_1 rfl (fun o1 => ?_)
  refine im_if_ne C 9 7 dX9_release_4 rfl rfl ?_ ?_
  · refine im_aload_n C 10 0 dX9_release_9 rfl rfl rfl ?_
    refine gl_X9_19 C 13 (h0.1 31 (by decide) (by decide)) dX9_release_10 rfl ?_
    refine gl_X9_87 C 16 (h0.2.2.1.1 0 (by decide) (by decide)) dX9_release_13 rfl ?_
    refine im_iload_n C 17 1 dX9_release_16 rfl rfl rfl ?_
    refine im_cVP C 20 vk_X5_hasBlock gw_690 (c_X5_hasBlock (b := 0) (x1 := x1) hU h0.2.2.1.2.1) (h0.2.2.1.2.1 1 (by decide) (by decide)) rfl rfl (rle rfl) rfl (st := []) rfl (Nat.le_of_ble_eq_true rfl) dX9_release_17 rfl (fun o2 => ?_)
    refine im_if_eq C 37 23 dX9_release_20 rfl rfl ?_ ?_
    · refine im_bipush C 39 dX9_release_37 rfl k_bpm2 ?_
      exact im_iret C rfl rfl dX9_release_39
    · refine im_aload_n C 24 0 dX9_release_23 rfl rfl rfl ?_
      refine gl_X9_19 C 27 (h0.1 31 (by decide) (by decide)) dX9_release_24 rfl ?_
      refine gl_X9_169 C 30 (h0.2.2.1.1 0 (by decide) (by decide)) dX9_release_27 rfl ?_
      refine im_iload_n C 31 1 dX9_release_30 rfl rfl rfl ?_
      refine im_cVP C 34 vk_X2_leasesOf gw_697 (c_X2_leasesOf (b := 0) (x1 := x1) hU h0.2.2.1.2.2) (h0.2.2.1.2.2 9 (by decide) (by decide)) rfl rfl (rle rfl) rfl (st := []) rfl (Nat.le_of_ble_eq_true rfl) dX9_release_31 rfl (fun o3 => ?_)
      refine im_if_le C 40 37 dX9_release_34 rfl rfl ?_ ?_
      · refine im_aload_n C 41 0 dX9_release_40 rfl rfl rfl ?_
        refine gl_X9_29 C 44 (h0.1 31 (by decide) (by decide)) dX9_release_41 rfl ?_
        refine im_aload_n C 45 0 dX9_release_44 rfl rfl rfl ?_
        refine gl_X9_19 C 48 (h0.1 31 (by decide) (by decide)) dX9_release_45 rfl ?_
        refine im_cVV C 51 vk_X1_keep gw_575 (c_X1_keep (b1 := 0) hU h0.2.2.2.2.1 h0.2.2.1) (h0.2.2.2.2.1.1 24 (by decide) (by decide)) rfl rfl (rle rfl) rfl (st := []) rfl (Nat.le_of_ble_eq_true rfl) dX9_release_48 rfl (fun D4 => ?_)
        refine im_aload_n C 52 0 dX9_release_51 rfl rfl rfl ?_
        refine gl_X9_19 C 55 (h0.1 31 (by decide) (by decide)) dX9_release_52 rfl ?_
        refine gl_X9_87 C 58 (h0.2.2.1.1 0 (by decide) (by decide)) dX9_release_55 rfl ?_
        refine im_iload_n C 59 1 dX9_release_58 rfl rfl rfl ?_
        refine im_cVV C 62 vk_X5_dropCurrent gw_705 (c_X5_dropCurrent (b := 0) (x1 := x1) hU h0.2.2.1.2.1) (h0.2.2.1.2.1 1 (by decide) (by decide)) rfl rfl (rle rfl) rfl (st := []) rfl (Nat.le_of_ble_eq_true rfl) dX9_release_59 rfl (fun D5 => ?_)
        refine im_aload_n C 63 0 dX9_release_62 rfl rfl rfl ?_
        refine gl_X9_19 C 66 (h0.1 31 (by decide) (by decide)) dX9_release_63 rfl ?_
        refine gl_X9_87 C 69 (h0.2.2.1.1 0 (by decide) (by decide)) dX9_release_66 rfl ?_
        refine im_iload_n C 70 1 dX9_release_69 rfl rfl rfl ?_
        refine im_cVV C 73 vk_X5_dropOld gw_709 (c_X5_dropOld (b := 0) (x1 := x1) hU h0.2.2.1.2.1) (h0.2.2.1.2.1 1 (by decide) (by decide)) rfl rfl (rle rfl) rfl (st := []) rfl (Nat.le_of_ble_eq_true rfl) dX9_release_70 rfl (fun D6 => ?_)
        refine im_aload_n C 74 0 dX9_release_73 rfl rfl rfl ?_
        refine gl_X9_19 C 77 (h0.1 31 (by decide) (by decide)) dX9_release_74 rfl ?_
        refine gl_X9_169 C 80 (h0.2.2.1.1 0 (by decide) (by decide)) dX9_release_77 rfl ?_
        refine im_iload_n C 81 1 dX9_release_80 rfl rfl rfl ?_
        refine im_cVI C 84 vk_X2_dismissMembers gw_713 (c_X2_dismissMembers (b := 0) (x1 := x1) hU h0.2.2.1.2.2) (h0.2.2.1.2.2 9 (by decide) (by decide)) rfl rfl (rle rfl) rfl (st := []) rfl (Nat.le_of_ble_eq_true rfl) dX9_release_81 rfl (fun o7 => ?_)
        exact im_iret C rfl rfl dX9_release_84
      · refine im_bipush C 39 dX9_release_37 rfl k_bpm2 ?_
        exact im_iret C rfl rfl dX9_release_39
  · refine im_iconst C 8 dX9_release_7 rfl k_icm1 ?_
    exact im_iret C rfl rfl dX9_release_8
set_option maxRecDepth 100000 in
set_option maxHeartbeats 4000000 in
theorem c_X9_resize {l : Launch} {G : va_G} {ad : Nat → Nat → Nat} {U : List (Nat × Nat)} {D : Dt} {x1 : Int32} {x2 : Int32} (hU : Uinj ad U) (h0 : PrU U) : MI l G ad U yX9_resize cX9_resize 6 .int (k2_rm 5 145) [.ref (ad 31 0), .int x1, .int x2] D (f_X9_resize x1 x2 D) := by
  refine mI_of0 (lv := [(0, .ref (ad 31 0)), (1, .int x1), (2, .int x2)]) (by decide) hU rfl (Nat.le_of_ble_eq_true rfl) (fun A p e s m args below meth c C => ?_)
  have C : Cx G ad U A p s m meth c args cX9_resize RX9 6 (some .int) := C
  unfold f_X9_resize
  refine im_iload_n C 1 1 dX9_resize_0 rfl rfl rfl ?_
  refine im_cSP C 4 sk_X9_isNetwork gw_689 (c_X9_isNetwork (x0 := x1) hU) (rle rfl) rfl (st := []) rfl (Nat.le_of_ble_eq_true rfl) dX9_resize_1 rfl (fun o1 => ?_)
  refine im_if_eq C 17 7 dX9_resize_4 rfl rfl ?_ ?_
  · refine im_iconst C 18 dX9_resize_17 rfl k_icm1 ?_
    exact im_iret C rfl rfl dX9_resize_18
  · refine im_iload_n C 8 2 dX9_resize_7 rfl rfl rfl ?_
    refine im_iconst C 9 dX9_resize_8 rfl k_ic5 ?_
    refine im_bipush C 11 dX9_resize_9 rfl k_bp16 ?_
    refine im_cSP C 14 sk_X9_isIn gw_357 (c_X9_isIn (x0 := x2) (x1 := (5 : Int32)) (x2 := (16 : Int32)) hU) (rle rfl) rfl (st := []) rfl (Nat.le_of_ble_eq_true rfl) dX9_resize_11 rfl (fun o2 => ?_)
    refine im_if_ne C 19 17 dX9_resize_14 rfl rfl ?_ ?_
    · refine im_aload_n C 20 0 dX9_resize_19 rfl rfl rfl ?_
      refine gl_X9_19 C 23 (h0.1 31 (by decide) (by decide)) dX9_resize_20 rfl ?_
      refine gl_X9_87 C 26 (h0.2.2.1.1 0 (by decide) (by decide)) dX9_resize_23 rfl ?_
      refine im_iload_n C 27 1 dX9_resize_26 rfl rfl rfl ?_
      refine im_cVP C 30 vk_X5_hasBlock gw_690 (c_X5_hasBlock (b := 0) (x1 := x1) hU h0.2.2.1.2.1) (h0.2.2.1.2.1 1 (by decide) (by decide)) rfl rfl (rle rfl) rfl (st := []) rfl (Nat.le_of_ble_eq_true rfl) dX9_resize_27 rfl (fun o3 => ?_)
      refine im_if_eq C 49 33 dX9_resize_30 rfl rfl ?_ ?_
      · refine im_bipush C 51 dX9_resize_49 rfl k_bpm2 ?_
        exact im_iret C rfl rfl dX9_resize_51
      · refine im_aload_n C 34 0 dX9_resize_33 rfl rfl rfl ?_
        refine gl_X9_19 C 37 (h0.1 31 (by decide) (by decide)) dX9_resize_34 rfl ?_
        refine gl_X9_87 C 40 (h0.2.2.1.1 0 (by decide) (by decide)) dX9_resize_37 rfl ?_
        refine gl_X9_187 C 43 (h0.2.2.1.2.1 1 (by decide) (by decide)) dX9_resize_40 rfl ?_
        refine im_iload_n C 44 1 dX9_resize_43 rfl rfl rfl ?_
        refine im_rdi C 45 12 (h0.2.2.1.2.1 5 (by decide) (by decide)) rfl dX9_resize_44 rfl (fun v4 => ?_)
        refine im_iload_n C 46 2 dX9_resize_45 rfl rfl rfl ?_
        refine im_ic_ne C 52 49 dX9_resize_46 rfl rfl ?_ ?_
        · refine im_aload_n C 53 0 dX9_resize_52 rfl rfl rfl ?_
          refine gl_X9_19 C 56 (h0.1 31 (by decide) (by decide)) dX9_resize_53 rfl ?_
          refine gl_X9_87 C 59 (h0.2.2.1.1 0 (by decide) (by decide)) dX9_resize_56 rfl ?_
          refine gl_X9_190 C 62 (h0.2.2.1.2.1 1 (by decide) (by decide)) dX9_resize_59 rfl ?_
          refine im_iload_n C 63 1 dX9_resize_62 rfl rfl rfl ?_
          refine im_rdi C 64 12 (h0.2.2.1.2.1 4 (by decide) (by decide)) rfl dX9_resize_63 rfl (fun v5 => ?_)
          refine im_istore_n C 65 [(3, .int v5), (0, .ref (ad 31 0)), (1, .int x1), (2, .int x2)] dX9_resize_64 rfl (by decide) rfl rfl ?_
          refine im_iload_n C 66 0 dX9_resize_65 rfl rfl rfl ?_
          refine im_iload_n C 67 3 dX9_resize_66 rfl rfl rfl ?_
          refine im_cSP C 70 sk_X9_sizeOf gw_475 (c_X9_sizeOf (x0 := x2) hU) (rle rfl) rfl (st := [.int v5]) rfl (Nat.le_of_ble_eq_true rfl) dX9_resize_67 rfl (fun o6 => ?_)
          refine im_ineg C 71 dX9_resize_70 rfl ?_
          refine im_iand C 72 dX9_resize_71 rfl ?_
          refine im_istore C 74 [(4, .int (v5 &&& (-o6))), (3, .int v5), (0, .ref (ad 31 0)), (1, .int x1), (2, .int x2)] dX9_resize_72 (by decide) rfl rfl ?_
          refine im_iload_n C 75 4 dX9_resize_74 rfl rfl rfl ?_
          refine im_aload_n C 76 2 dX9_resize_75 rfl rfl rfl ?_
          refine gl_X9_19 C 79 (h0.1 31 (by decide) (by decide)) dX9_resize_76 rfl ?_
          refine gl_X9_87 C 82 (h0.2.2.1.1 0 (by decide) (by decide)) dX9_resize_79 rfl ?_
          refine gl_X9_187 C 85 (h0.2.2.1.2.1 1 (by decide) (by decide)) dX9_resize_82 rfl ?_
          refine im_iload_n C 86 3 dX9_resize_85 rfl rfl rfl ?_
          refine im_rdi C 87 12 (h0.2.2.1.2.1 5 (by decide) (by decide)) rfl dX9_resize_86 rfl (fun v7 => ?_)
          refine im_jn 95 (fun t8 => [(0, .ref (ad 31 0)), (1, .int x1), (2, .int x2), (4, .int (v5 &&& (-o6)))]) (fun t8 => [.int t8]) (fun t8 => D) (fun t8 => j_X9_resize_95_t8 x1 x2 D v5 o6 t8) (fun t8 => ?_) (fun ht8 => ?_)
          · unfold j_X9_resize_95_t8
            refine im_istore C 97 [(5, .int t8), (0, .ref (ad 31 0)), (1, .int x1), (2, .int x2), (4, .int (v5 &&& (-o6)))] dX9_resize_95 (by decide) rfl rfl ?_
            refine im_iload C 99 0 dX9_resize_97 rfl rfl ?_
            refine im_if_eq C 122 102 dX9_resize_99 rfl rfl ?_ ?_
            · refine im_aload_n C 123 1 dX9_resize_122 rfl rfl rfl ?_
              refine gl_X9_19 C 126 (h0.1 31 (by decide) (by decide)) dX9_resize_123 rfl ?_
              refine gl_X9_169 C 129 (h0.2.2.1.1 0 (by decide) (by decide)) dX9_resize_126 rfl ?_
              refine im_iload_n C 130 2 dX9_resize_129 rfl rfl rfl ?_
              refine im_iload C 132 4 dX9_resize_130 rfl rfl ?_
              refine im_iload_n C 133 3 dX9_resize_132 rfl rfl rfl ?_
              refine im_cVP C 136 vk_X2_newLeasesFit gw_728 (c_X2_newLeasesFit (b := 0) (x1 := x1) (x2 := v5 &&& (-o6)) (x3 := x2) hU h0.2.2.1.2.2) (h0.2.2.1.2.2 9 (by decide) (by decide)) rfl rfl (rle rfl) rfl (st := []) rfl (Nat.le_of_ble_eq_true rfl) dX9_resize_133 rfl (fun o9 => ?_)
              refine im_if_ne C 142 139 dX9_resize_136 rfl rfl ?_ ?_
              · refine im_aload_n C 143 1 dX9_resize_142 rfl rfl rfl ?_
                refine gl_X9_29 C 146 (h0.1 31 (by decide) (by decide)) dX9_resize_143 rfl ?_
                refine im_aload_n C 147 1 dX9_resize_146 rfl rfl rfl ?_
                refine gl_X9_19 C 150 (h0.1 31 (by decide) (by decide)) dX9_resize_147 rfl ?_
                refine im_cVV C 153 vk_X1_keep gw_575 (c_X1_keep (b1 := 0) hU h0.2.2.2.2.1 h0.2.2.1) (h0.2.2.2.2.1.1 24 (by decide) (by decide)) rfl rfl (rle rfl) rfl (st := []) rfl (Nat.le_of_ble_eq_true rfl) dX9_resize_150 rfl (fun D10 => ?_)
                refine im_aload_n C 154 1 dX9_resize_153 rfl rfl rfl ?_
                refine gl_X9_19 C 157 (h0.1 31 (by decide) (by decide)) dX9_resize_154 rfl ?_
                refine gl_X9_87 C 160 (h0.2.2.1.1 0 (by decide) (by decide)) dX9_resize_157 rfl ?_
                refine im_iload_n C 161 2 dX9_resize_160 rfl rfl rfl ?_
                refine im_iload C 163 4 dX9_resize_161 rfl rfl ?_
                refine im_iload_n C 164 3 dX9_resize_163 rfl rfl rfl ?_
                refine im_cVV C 167 vk_X5_putCurrent gw_692 (c_X5_putCurrent (b := 0) (x1 := x1) (x2 := v5 &&& (-o6)) (x3 := x2) hU h0.2.2.1.2.1) (h0.2.2.1.2.1 1 (by decide) (by decide)) rfl rfl (rle rfl) rfl (st := []) rfl (Nat.le_of_ble_eq_true rfl) dX9_resize_164 rfl (fun D11 => ?_)
                refine im_iload C 169 4 dX9_resize_167 rfl rfl ?_
                exact im_iret C rfl rfl dX9_resize_169
              · refine im_bipush C 141 dX9_resize_139 rfl k_bpm2 ?_
                exact im_iret C rfl rfl dX9_resize_141
            · refine im_aload_n C 103 1 dX9_resize_102 rfl rfl rfl ?_
              refine gl_X9_19 C 106 (h0.1 31 (by decide) (by decide)) dX9_resize_103 rfl ?_
              refine gl_X9_87 C 109 (h0.2.2.1.1 0 (by decide) (by decide)) dX9_resize_106 rfl ?_
              refine im_iload_n C 110 2 dX9_resize_109 rfl rfl rfl ?_
              refine im_iload C 112 4 dX9_resize_110 rfl rfl ?_
              refine im_iload_n C 113 3 dX9_resize_112 rfl rfl rfl ?_
              refine im_cVP C 116 vk_X5_canCover gw_721 (c_X5_canCover (b := 0) (x1 := x1) (x2 := v5 &&& (-o6)) (x3 := x2) hU h0.2.2.1.2.1) (h0.2.2.1.2.1 1 (by decide) (by decide)) rfl rfl (rle rfl) rfl (st := []) rfl (Nat.le_of_ble_eq_true rfl) dX9_resize_113 rfl (fun o12 => ?_)
              refine im_if_ne C 122 119 dX9_resize_116 rfl rfl ?_ ?_
              · refine im_aload_n C 123 1 dX9_resize_122 rfl rfl rfl ?_
                refine gl_X9_19 C 126 (h0.1 31 (by decide) (by decide)) dX9_resize_123 rfl ?_
                refine gl_X9_169 C 129 (h0.2.2.1.1 0 (by decide) (by decide)) dX9_resize_126 rfl ?_
                refine im_iload_n C 130 2 dX9_resize_129 rfl rfl rfl ?_
                refine im_iload C 132 4 dX9_resize_130 rfl rfl ?_
                refine im_iload_n C 133 3 dX9_resize_132 rfl rfl rfl ?_
                refine im_cVP C 136 vk_X2_newLeasesFit gw_728 (c_X2_newLeasesFit (b := 0) (x1 := x1) (x2 := v5 &&& (-o6)) (x3 := x2) hU h0.2.2.1.2.2) (h0.2.2.1.2.2 9 (by decide) (by decide)) rfl rfl (rle rfl) rfl (st := []) rfl (Nat.le_of_ble_eq_true rfl) dX9_resize_133 rfl (fun o13 => ?_)
                refine im_if_ne C 142 139 dX9_resize_136 rfl rfl ?_ ?_
                · refine im_aload_n C 143 1 dX9_resize_142 rfl rfl rfl ?_
                  refine gl_X9_29 C 146 (h0.1 31 (by decide) (by decide)) dX9_resize_143 rfl ?_
                  refine im_aload_n C 147 1 dX9_resize_146 rfl rfl rfl ?_
                  refine gl_X9_19 C 150 (h0.1 31 (by decide) (by decide)) dX9_resize_147 rfl ?_
                  refine im_cVV C 153 vk_X1_keep gw_575 (c_X1_keep (b1 := 0) hU h0.2.2.2.2.1 h0.2.2.1) (h0.2.2.2.2.1.1 24 (by decide) (by decide)) rfl rfl (rle rfl) rfl (st := []) rfl (Nat.le_of_ble_eq_true rfl) dX9_resize_150 rfl (fun D14 => ?_)
                  refine im_aload_n C 154 1 dX9_resize_153 rfl rfl rfl ?_
                  refine gl_X9_19 C 157 (h0.1 31 (by decide) (by decide)) dX9_resize_154 rfl ?_
                  refine gl_X9_87 C 160 (h0.2.2.1.1 0 (by decide) (by decide)) dX9_resize_157 rfl ?_
                  refine im_iload_n C 161 2 dX9_resize_160 rfl rfl rfl ?_
                  refine im_iload C 163 4 dX9_resize_161 rfl rfl ?_
                  refine im_iload_n C 164 3 dX9_resize_163 rfl rfl rfl ?_
                  refine im_cVV C 167 vk_X5_putCurrent gw_692 (c_X5_putCurrent (b := 0) (x1 := x1) (x2 := v5 &&& (-o6)) (x3 := x2) hU h0.2.2.1.2.1) (h0.2.2.1.2.1 1 (by decide) (by decide)) rfl rfl (rle rfl) rfl (st := []) rfl (Nat.le_of_ble_eq_true rfl) dX9_resize_164 rfl (fun D15 => ?_)
                  refine im_iload C 169 4 dX9_resize_167 rfl rfl ?_
                  exact im_iret C rfl rfl dX9_resize_169
                · refine im_bipush C 141 dX9_resize_139 rfl k_bpm2 ?_
                  exact im_iret C rfl rfl dX9_resize_141
              · refine im_bipush C 121 dX9_resize_119 rfl k_bpm2 ?_
                exact im_iret C rfl rfl dX9_resize_121
          · refine im_ic_ge C 94 90 dX9_resize_87 rfl rfl ?_ ?_
            · refine im_iconst C 95 dX9_resize_94 rfl k_ic0 ?_
              exact im_sub [2, 3, 4, 0] [(0, .ref (ad 31 0)), (1, .int x1), (2, .int x2), (4, .int (v5 &&& (-o6)))] rfl (ht8 (0 : Int32))
            · refine im_iconst C 91 dX9_resize_90 rfl k_ic1 ?_
              refine im_goto C 95 dX9_resize_91 rfl ?_
              exact im_sub [2, 3, 4, 0] [(0, .ref (ad 31 0)), (1, .int x1), (2, .int x2), (4, .int (v5 &&& (-o6)))] rfl (ht8 (1 : Int32))
        · refine im_bipush C 51 dX9_resize_49 rfl k_bpm2 ?_
          exact im_iret C rfl rfl dX9_resize_51
    · refine im_iconst C 18 dX9_resize_17 rfl k_icm1 ?_
      exact im_iret C rfl rfl dX9_resize_18
set_option maxRecDepth 100000 in
set_option maxHeartbeats 4000000 in
theorem c_X9_renumber {l : Launch} {G : va_G} {ad : Nat → Nat → Nat} {U : List (Nat × Nat)} {D : Dt} {x1 : Int32} {x2 : Int32} (hU : Uinj ad U) (h0 : PrU U) : MI l G ad U yX9_renumber cX9_renumber 4 .int (k2_rm 5 145) [.ref (ad 31 0), .int x1, .int x2] D (f_X9_renumber x1 x2 D) := by
  refine mI_of0 (lv := [(0, .ref (ad 31 0)), (1, .int x1), (2, .int x2)]) (by decide) hU rfl (Nat.le_of_ble_eq_true rfl) (fun A p e s m args below meth c C => ?_)
  have C : Cx G ad U A p s m meth c args cX9_renumber RX9 4 (some .int) := C
  unfold f_X9_renumber
  refine im_iload_n C 1 1 dX9_renumber_0 rfl rfl rfl ?_
  refine im_cSP C 4 sk_X9_isNetwork gw_689 (c_X9_isNetwork (x0 := x1) hU) (rle rfl) rfl (st := []) rfl (Nat.le_of_ble_eq_true rfl) dX9_renumber_1 rfl (fun o1 => ?_)
  refine im_if_eq C 17 7 dX9_renumber_4 rfl rfl ?_ ?_
  · refine im_iconst C 18 dX9_renumber_17 rfl k_icm1 ?_
    exact im_iret C rfl rfl dX9_renumber_18
  · refine im_iload_n C 8 2 dX9_renumber_7 rfl rfl rfl ?_
    refine im_iconst C 9 dX9_renumber_8 rfl k_ic5 ?_
    refine im_bipush C 11 dX9_renumber_9 rfl k_bp16 ?_
    refine im_cSP C 14 sk_X9_isIn gw_357 (c_X9_isIn (x0 := x2) (x1 := (5 : Int32)) (x2 := (16 : Int32)) hU) (rle rfl) rfl (st := []) rfl (Nat.le_of_ble_eq_true rfl) dX9_renumber_11 rfl (fun o2 => ?_)
    refine im_if_ne C 19 17 dX9_renumber_14 rfl rfl ?_ ?_
    · refine im_aload_n C 20 0 dX9_renumber_19 rfl rfl rfl ?_
      refine gl_X9_19 C 23 (h0.1 31 (by decide) (by decide)) dX9_renumber_20 rfl ?_
      refine gl_X9_87 C 26 (h0.2.2.1.1 0 (by decide) (by decide)) dX9_renumber_23 rfl ?_
      refine im_iload_n C 27 1 dX9_renumber_26 rfl rfl rfl ?_
      refine im_cVP C 30 vk_X5_isMovable gw_739 (c_X5_isMovable (b := 0) (x1 := x1) hU h0.2.2.1.2.1) (h0.2.2.1.2.1 1 (by decide) (by decide)) rfl rfl (rle rfl) rfl (st := []) rfl (Nat.le_of_ble_eq_true rfl) dX9_renumber_27 rfl (fun o3 => ?_)
      refine im_if_ne C 36 33 dX9_renumber_30 rfl rfl ?_ ?_
      · refine im_aload_n C 37 0 dX9_renumber_36 rfl rfl rfl ?_
        refine gl_X9_36 C 40 (h0.1 31 (by decide) (by decide)) dX9_renumber_37 rfl ?_
        refine im_aload_n C 41 0 dX9_renumber_40 rfl rfl rfl ?_
        refine gl_X9_19 C 44 (h0.1 31 (by decide) (by decide)) dX9_renumber_41 rfl ?_
        refine gl_X9_87 C 47 (h0.2.2.1.1 0 (by decide) (by decide)) dX9_renumber_44 rfl ?_
        refine im_iload_n C 48 2 dX9_renumber_47 rfl rfl rfl ?_
        refine im_cVI C 51 vk_X7_place gw_691 (c_X7_place (b := 0) (b1 := 0) (x2 := x2) hU h0.2.2.2.2.2.1 h0.2.2.1.2.1) (h0.2.2.2.2.2.1.1 16 (by decide) (by decide)) rfl rfl (rle rfl) rfl (st := []) rfl (Nat.le_of_ble_eq_true rfl) dX9_renumber_48 rfl (fun o4 => ?_)
        refine im_istore_n C 52 [(3, .int o4.1), (0, .ref (ad 31 0)), (1, .int x1), (2, .int x2)] dX9_renumber_51 rfl (by decide) rfl rfl ?_
        refine im_iload_n C 53 0 dX9_renumber_52 rfl rfl rfl ?_
        refine im_iconst C 54 dX9_renumber_53 rfl k_icm1 ?_
        refine im_ic_ne C 60 57 dX9_renumber_54 rfl rfl ?_ ?_
        · refine im_aload_n C 61 1 dX9_renumber_60 rfl rfl rfl ?_
          refine gl_X9_29 C 64 (h0.1 31 (by decide) (by decide)) dX9_renumber_61 rfl ?_
          refine im_aload_n C 65 1 dX9_renumber_64 rfl rfl rfl ?_
          refine gl_X9_19 C 68 (h0.1 31 (by decide) (by decide)) dX9_renumber_65 rfl ?_
          refine im_cVV C 71 vk_X1_keep gw_575 (c_X1_keep (b1 := 0) hU h0.2.2.2.2.1 h0.2.2.1) (h0.2.2.2.2.1.1 24 (by decide) (by decide)) rfl rfl (rle rfl) rfl (st := []) rfl (Nat.le_of_ble_eq_true rfl) dX9_renumber_68 rfl (fun D5 => ?_)
          refine im_aload_n C 72 1 dX9_renumber_71 rfl rfl rfl ?_
          refine gl_X9_19 C 75 (h0.1 31 (by decide) (by decide)) dX9_renumber_72 rfl ?_
          refine im_iload_n C 76 2 dX9_renumber_75 rfl rfl rfl ?_
          refine im_iload_n C 77 0 dX9_renumber_76 rfl rfl rfl ?_
          refine im_iload_n C 78 3 dX9_renumber_77 rfl rfl rfl ?_
          refine im_cVV C 81 vk_X6_moveNetwork gw_743 (c_X6_moveNetwork (b := 0) (x1 := x1) (x2 := o4.1) (x3 := x2) hU h0.2.2.1) (h0.2.2.1.1 0 (by decide) (by decide)) rfl rfl (rle rfl) rfl (st := []) rfl (Nat.le_of_ble_eq_true rfl) dX9_renumber_78 rfl (fun D6 => ?_)
          refine im_iload_n C 82 0 dX9_renumber_81 rfl rfl rfl ?_
          exact im_iret C rfl rfl dX9_renumber_82
        · refine im_bipush C 59 dX9_renumber_57 rfl k_bpm3 ?_
          exact im_iret C rfl rfl dX9_renumber_59
      · refine im_bipush C 35 dX9_renumber_33 rfl k_bpm2 ?_
        exact im_iret C rfl rfl dX9_renumber_35
    · refine im_iconst C 18 dX9_renumber_17 rfl k_icm1 ?_
      exact im_iret C rfl rfl dX9_renumber_18
set_option maxRecDepth 100000 in
set_option maxHeartbeats 4000000 in
theorem c_X9_wave {l : Launch} {G : va_G} {ad : Nat → Nat → Nat} {U : List (Nat × Nat)} {D : Dt} {x1 : Int32} (hU : Uinj ad U) (h0 : PrU U) : MI l G ad U yX9_wave cX9_wave 8 .int (k2_rm 6 165) [.ref (ad 31 0), .int x1] D (f_X9_wave x1 D) := by
  refine mI_of0 (lv := [(0, .ref (ad 31 0)), (1, .int x1)]) (by decide) hU rfl (Nat.le_of_ble_eq_true rfl) (fun A p e s m args below meth c C => ?_)
  have C : Cx G ad U A p s m meth c args cX9_wave RX9 8 (some .int) := C
  unfold f_X9_wave
  refine im_iload_n C 1 1 dX9_wave_0 rfl rfl rfl ?_
  refine im_iconst C 2 dX9_wave_1 rfl k_ic1 ?_
  refine im_bipush C 4 dX9_wave_2 rfl k_bp12 ?_
  refine im_cSP C 7 sk_X9_isIn gw_357 (c_X9_isIn (x0 := x1) (x1 := (1 : Int32)) (x2 := (12 : Int32)) hU) (rle rfl) rfl (st := []) rfl (Nat.le_of_ble_eq_true rfl) dX9_wave_4 rfl (fun o1 => ?_)
  refine im_if_ne C 12 10 dX9_wave_7 rfl rfl ?_ ?_
  · refine im_aload_n C 13 0 dX9_wave_12 rfl rfl rfl ?_
    refine gl_X9_23 C 16 (h0.1 31 (by decide) (by decide)) dX9_wave_13 rfl ?_
    refine im_aload_n C 17 0 dX9_wave_16 rfl rfl rfl ?_
    refine gl_X9_19 C 20 (h0.1 31 (by decide) (by decide)) dX9_wave_17 rfl ?_
    refine im_cVV C 23 vk_X6_copyFrom gw_607 (c_X6_copyFrom (b := 1) (b1 := 0) hU h0.2.2.2.1 h0.2.2.1) (h0.2.2.2.1.1 0 (by decide) (by decide)) rfl rfl (rle rfl) rfl (st := []) rfl (Nat.le_of_ble_eq_true rfl) dX9_wave_20 rfl (fun D2 => ?_)
    refine im_iconst C 24 dX9_wave_23 rfl k_ic0 ?_
    refine im_istore_n C 25 [(2, .int (0 : Int32)), (0, .ref (ad 31 0)), (1, .int x1)] dX9_wave_24 rfl (by decide) rfl rfl ?_
    refine im_ldc C 27 gw_769 dX9_wave_25 rfl ?_
    refine im_istore_n C 28 [(3, .int (65536 : Int32)), (2, .int (0 : Int32)), (0, .ref (ad 31 0)), (1, .int x1)] dX9_wave_27 rfl (by decide) rfl rfl ?_
    refine im_iconst C 29 dX9_wave_28 rfl k_ic0 ?_
    refine im_istore C 31 [(4, .int (0 : Int32)), (3, .int (65536 : Int32)), (2, .int (0 : Int32)), (0, .ref (ad 31 0)), (1, .int x1)] dX9_wave_29 (by decide) rfl rfl ?_
    refine im_sub [3, 4, 2, 1, 0] [(0, .ref (ad 31 0)), (1, .int x1), (2, .int (0 : Int32)), (3, .int (65536 : Int32)), (4, .int (0 : Int32))] rfl ?_
    refine im_lpI (l_X9_wave_31 x1) (fun z31 => [(0, .ref (ad 31 0)), (1, .int x1), (2, .int z31.1), (3, .int z31.2.1), (4, .int z31.2.2.1)]) (fun z31 => z31.2.2.2) (fun z31 X_z31 hX_z31 => ?_) FU ((0 : Int32), (65536 : Int32), (0 : Int32), D2)
    unfold l_X9_wave_31
    refine im_iload C 33 4 dX9_wave_31 rfl rfl ?_
    refine im_bipush C 35 dX9_wave_33 rfl k_bp12 ?_
    refine im_ic_ge C 148 38 dX9_wave_35 rfl rfl ?_ ?_
    · refine im_iload_n C 149 2 dX9_wave_148 rfl rfl rfl ?_
      refine im_if_ne C 155 152 dX9_wave_149 rfl rfl ?_ ?_
      · refine im_aload_n C 156 0 dX9_wave_155 rfl rfl rfl ?_
        refine im_cVV C 159 vk_X9_adoptDraft gw_571 (c_X9_adoptDraft  hU h0) (h0.1 31 (by decide) (by decide)) rfl rfl (rle rfl) rfl (st := []) rfl (Nat.le_of_ble_eq_true rfl) dX9_wave_156 rfl (fun D3 => ?_)
        refine im_iload_n C 160 2 dX9_wave_159 rfl rfl rfl ?_
        exact im_iret C rfl rfl dX9_wave_160
      · refine im_bipush C 154 dX9_wave_152 rfl k_bpm2 ?_
        exact im_iret C rfl rfl dX9_wave_154
    · refine im_iload_n C 39 2 dX9_wave_38 rfl rfl rfl ?_
      refine im_iload_n C 40 1 dX9_wave_39 rfl rfl rfl ?_
      refine im_ic_ge C 148 43 dX9_wave_40 rfl rfl ?_ ?_
      · refine im_iload_n C 149 2 dX9_wave_148 rfl rfl rfl ?_
        refine im_if_ne C 155 152 dX9_wave_149 rfl rfl ?_ ?_
        · refine im_aload_n C 156 0 dX9_wave_155 rfl rfl rfl ?_
          refine im_cVV C 159 vk_X9_adoptDraft gw_571 (c_X9_adoptDraft  hU h0) (h0.1 31 (by decide) (by decide)) rfl rfl (rle rfl) rfl (st := []) rfl (Nat.le_of_ble_eq_true rfl) dX9_wave_156 rfl (fun D4 => ?_)
          refine im_iload_n C 160 2 dX9_wave_159 rfl rfl rfl ?_
          exact im_iret C rfl rfl dX9_wave_160
        · refine im_bipush C 154 dX9_wave_152 rfl k_bpm2 ?_
          exact im_iret C rfl rfl dX9_wave_154
      · refine im_aload_n C 44 0 dX9_wave_43 rfl rfl rfl ?_
        refine gl_X9_19 C 47 (h0.1 31 (by decide) (by decide)) dX9_wave_44 rfl ?_
        refine gl_X9_87 C 50 (h0.2.2.1.1 0 (by decide) (by decide)) dX9_wave_47 rfl ?_
        refine im_iload_n C 51 3 dX9_wave_50 rfl rfl rfl ?_
        refine im_cVP C 54 vk_X5_movableBelow gw_770 (c_X5_movableBelow (b := 0) (x1 := z31.2.1) hU h0.2.2.1.2.1) (h0.2.2.1.2.1 1 (by decide) (by decide)) rfl rfl (rle rfl) rfl (st := []) rfl (Nat.le_of_ble_eq_true rfl) dX9_wave_51 rfl (fun o5 => ?_)
        refine im_istore C 56 [(5, .int o5), (0, .ref (ad 31 0)), (1, .int x1), (2, .int z31.1), (3, .int z31.2.1), (4, .int z31.2.2.1)] dX9_wave_54 (by decide) rfl rfl ?_
        refine im_iload C 58 0 dX9_wave_56 rfl rfl ?_
        refine im_cSP C 61 sk_X9_isNetwork gw_689 (c_X9_isNetwork (x0 := o5) hU) (rle rfl) rfl (st := []) rfl (Nat.le_of_ble_eq_true rfl) dX9_wave_58 rfl (fun o6 => ?_)
        refine im_if_ne C 67 64 dX9_wave_61 rfl rfl ?_ ?_
        · refine im_aload_n C 68 1 dX9_wave_67 rfl rfl rfl ?_
          refine gl_X9_19 C 71 (h0.1 31 (by decide) (by decide)) dX9_wave_68 rfl ?_
          refine gl_X9_87 C 74 (h0.2.2.1.1 0 (by decide) (by decide)) dX9_wave_71 rfl ?_
          refine gl_X9_190 C 77 (h0.2.2.1.2.1 1 (by decide) (by decide)) dX9_wave_74 rfl ?_
          refine im_iload C 79 0 dX9_wave_77 rfl rfl ?_
          refine im_rdi C 80 12 (h0.2.2.1.2.1 4 (by decide) (by decide)) rfl dX9_wave_79 rfl (fun v7 => ?_)
          refine im_istore_n C 81 [(3, .int v7), (5, .int o5), (0, .ref (ad 31 0)), (1, .int x1), (2, .int z31.1), (4, .int z31.2.2.1)] dX9_wave_80 rfl (by decide) rfl rfl ?_
          refine im_aload_n C 82 2 dX9_wave_81 rfl rfl rfl ?_
          refine gl_X9_19 C 85 (h0.1 31 (by decide) (by decide)) dX9_wave_82 rfl ?_
          refine gl_X9_87 C 88 (h0.2.2.1.1 0 (by decide) (by decide)) dX9_wave_85 rfl ?_
          refine gl_X9_187 C 91 (h0.2.2.1.2.1 1 (by decide) (by decide)) dX9_wave_88 rfl ?_
          refine im_iload C 93 1 dX9_wave_91 rfl rfl ?_
          refine im_rdi C 94 12 (h0.2.2.1.2.1 5 (by decide) (by decide)) rfl dX9_wave_93 rfl (fun v8 => ?_)
          refine im_istore C 96 [(6, .int v8), (3, .int v7), (5, .int o5), (0, .ref (ad 31 0)), (1, .int x1), (2, .int z31.1), (4, .int z31.2.2.1)] dX9_wave_94 (by decide) rfl rfl ?_
          refine im_aload_n C 97 3 dX9_wave_96 rfl rfl rfl ?_
          refine gl_X9_36 C 100 (h0.1 31 (by decide) (by decide)) dX9_wave_97 rfl ?_
          refine im_aload_n C 101 3 dX9_wave_100 rfl rfl rfl ?_
          refine gl_X9_23 C 104 (h0.1 31 (by decide) (by decide)) dX9_wave_101 rfl ?_
          refine gl_X9_87 C 107 (h0.2.2.2.1.1 0 (by decide) (by decide)) dX9_wave_104 rfl ?_
          refine im_iload C 109 0 dX9_wave_107 rfl rfl ?_
          refine im_cVI C 112 vk_X7_place gw_691 (c_X7_place (b := 0) (b1 := 1) (x2 := v8) hU h0.2.2.2.2.2.1 h0.2.2.2.1.2.1) (h0.2.2.2.2.2.1.1 16 (by decide) (by decide)) rfl rfl (rle rfl) rfl (st := []) rfl (Nat.le_of_ble_eq_true rfl) dX9_wave_109 rfl (fun o9 => ?_)
          refine im_istore C 114 [(7, .int o9.1), (6, .int v8), (3, .int v7), (5, .int o5), (0, .ref (ad 31 0)), (1, .int x1), (2, .int z31.1), (4, .int z31.2.2.1)] dX9_wave_112 (by decide) rfl rfl ?_
          refine im_iload C 116 0 dX9_wave_114 rfl rfl ?_
          refine im_iconst C 117 dX9_wave_116 rfl k_icm1 ?_
          refine im_ic_eq C 142 120 dX9_wave_117 rfl rfl ?_ ?_
          · refine im_iinc C 145 7 [(4, .int (z31.2.2.1 + (1 : Int32))), (7, .int o9.1), (6, .int v8), (3, .int v7), (5, .int o5), (0, .ref (ad 31 0)), (1, .int x1), (2, .int z31.1)] dX9_wave_142 rfl (k_inc1) (by decide) rfl rfl ?_
            refine im_goto C 31 dX9_wave_145 rfl ?_
            exact im_sub [5, 6, 7, 3, 0] [(0, .ref (ad 31 0)), (1, .int x1), (2, .int z31.1), (3, .int v7), (4, .int (z31.2.2.1 + (1 : Int32)))] rfl (hX_z31 (z31.1, v7, z31.2.2.1 + (1 : Int32), o9.2))
          · refine im_iload C 122 0 dX9_wave_120 rfl rfl ?_
            refine im_iload_n C 123 2 dX9_wave_122 rfl rfl rfl ?_
            refine im_ic_ge C 142 126 dX9_wave_123 rfl rfl ?_ ?_
            · refine im_iinc C 145 7 [(4, .int (z31.2.2.1 + (1 : Int32))), (7, .int o9.1), (6, .int v8), (3, .int v7), (5, .int o5), (0, .ref (ad 31 0)), (1, .int x1), (2, .int z31.1)] dX9_wave_142 rfl (k_inc1) (by decide) rfl rfl ?_
              refine im_goto C 31 dX9_wave_145 rfl ?_
              exact im_sub [5, 6, 7, 3, 0] [(0, .ref (ad 31 0)), (1, .int x1), (2, .int z31.1), (3, .int v7), (4, .int (z31.2.2.1 + (1 : Int32)))] rfl (hX_z31 (z31.1, v7, z31.2.2.1 + (1 : Int32), o9.2))
            · refine im_aload_n C 127 4 dX9_wave_126 rfl rfl rfl ?_
              refine gl_X9_23 C 130 (h0.1 31 (by decide) (by decide)) dX9_wave_127 rfl ?_
              refine im_iload C 132 3 dX9_wave_130 rfl rfl ?_
              refine im_iload C 134 0 dX9_wave_132 rfl rfl ?_
              refine im_iload C 136 1 dX9_wave_134 rfl rfl ?_
              refine im_cVV C 139 vk_X6_moveNetwork gw_743 (c_X6_moveNetwork (b := 1) (x1 := o5) (x2 := o9.1) (x3 := v8) hU h0.2.2.2.1) (h0.2.2.2.1.1 0 (by decide) (by decide)) rfl rfl (rle rfl) rfl (st := []) rfl (Nat.le_of_ble_eq_true rfl) dX9_wave_136 rfl (fun D10 => ?_)
              refine im_iinc C 142 6 [(2, .int (z31.1 + (1 : Int32))), (7, .int o9.1), (6, .int v8), (3, .int v7), (5, .int o5), (0, .ref (ad 31 0)), (1, .int x1), (4, .int z31.2.2.1)] dX9_wave_139 rfl (k_inc1) (by decide) rfl rfl ?_
              refine im_iinc C 145 7 [(4, .int (z31.2.2.1 + (1 : Int32))), (2, .int (z31.1 + (1 : Int32))), (7, .int o9.1), (6, .int v8), (3, .int v7), (5, .int o5), (0, .ref (ad 31 0)), (1, .int x1)] dX9_wave_142 rfl (k_inc1) (by decide) rfl rfl ?_
              refine im_goto C 31 dX9_wave_145 rfl ?_
              exact im_sub [6, 7, 1, 4, 0] [(0, .ref (ad 31 0)), (1, .int x1), (2, .int (z31.1 + (1 : Int32))), (3, .int v7), (4, .int (z31.2.2.1 + (1 : Int32)))] rfl (hX_z31 (z31.1 + (1 : Int32), v7, z31.2.2.1 + (1 : Int32), D10))
        · refine im_goto C 148 dX9_wave_64 rfl ?_
          refine im_iload_n C 149 3 dX9_wave_148 rfl rfl rfl ?_
          refine im_if_ne C 155 152 dX9_wave_149 rfl rfl ?_ ?_
          · refine im_aload_n C 156 1 dX9_wave_155 rfl rfl rfl ?_
            refine im_cVV C 159 vk_X9_adoptDraft gw_571 (c_X9_adoptDraft  hU h0) (h0.1 31 (by decide) (by decide)) rfl rfl (rle rfl) rfl (st := []) rfl (Nat.le_of_ble_eq_true rfl) dX9_wave_156 rfl (fun D11 => ?_)
            refine im_iload_n C 160 3 dX9_wave_159 rfl rfl rfl ?_
            exact im_iret C rfl rfl dX9_wave_160
          · refine im_bipush C 154 dX9_wave_152 rfl k_bpm2 ?_
            exact im_iret C rfl rfl dX9_wave_154
  · refine im_iconst C 11 dX9_wave_10 rfl k_icm1 ?_
    exact im_iret C rfl rfl dX9_wave_11
set_option maxRecDepth 100000 in
set_option maxHeartbeats 4000000 in
theorem c_X9_network {l : Launch} {G : va_G} {ad : Nat → Nat → Nat} {U : List (Nat × Nat)} {D : Dt} {x1 : Int32} {x2 : Int32} (hU : Uinj ad U) (h0 : PrU U) : MI l G ad U yX9_network cX9_network 4 .int (k2_rm 2 41) [.ref (ad 31 0), .int x1, .int x2] D ((f_X9_network x1 x2 D).bind (fun r => some (r, D))) := by
  refine mI_of (lv := [(0, .ref (ad 31 0)), (1, .int x1), (2, .int x2)]) (by decide) hU rfl (Nat.le_of_ble_eq_true rfl) (fun A p e s m args below meth c C => ?_)
  have C : Cx G ad U A p s m meth c args cX9_network RX9 4 (some .int) := C
  unfold f_X9_network
  refine im_iload_n C 1 1 dX9_network_0 rfl rfl rfl ?_
  refine im_cSP C 4 sk_X9_isNetwork gw_689 (c_X9_isNetwork (x0 := x1) hU) (rle rfl) rfl (st := []) rfl (Nat.le_of_ble_eq_true rfl) dX9_network_1 rfl (fun o1 => ?_)
  refine im_if_eq C 16 7 dX9_network_4 rfl rfl ?_ ?_
  · refine im_iconst C 17 dX9_network_16 rfl k_icm1 ?_
    exact im_iret C rfl rfl dX9_network_17
  · refine im_iload_n C 8 2 dX9_network_7 rfl rfl rfl ?_
    refine im_iconst C 9 dX9_network_8 rfl k_ic0 ?_
    refine im_iconst C 10 dX9_network_9 rfl k_ic5 ?_
    refine im_cSP C 13 sk_X9_isIn gw_357 (c_X9_isIn (x0 := x2) (x1 := (0 : Int32)) (x2 := (5 : Int32)) hU) (rle rfl) rfl (st := []) rfl (Nat.le_of_ble_eq_true rfl) dX9_network_10 rfl (fun o2 => ?_)
    refine im_if_ne C 18 16 dX9_network_13 rfl rfl ?_ ?_
    · refine im_iload_n C 19 2 dX9_network_18 rfl rfl rfl ?_
      refine im_iconst C 20 dX9_network_19 rfl k_ic5 ?_
      refine im_ic_ne C 35 23 dX9_network_20 rfl rfl ?_ ?_
      · refine im_iload_n C 36 2 dX9_network_35 rfl rfl rfl ?_
        refine im_iconst C 37 dX9_network_36 rfl k_ic2 ?_
        refine im_ic_ge C 54 40 dX9_network_37 rfl rfl ?_ ?_
        · refine im_aload_n C 55 0 dX9_network_54 rfl rfl rfl ?_
          refine gl_X9_19 C 58 (h0.1 31 (by decide) (by decide)) dX9_network_55 rfl ?_
          refine gl_X9_87 C 61 (h0.2.2.1.1 0 (by decide) (by decide)) dX9_network_58 rfl ?_
          refine im_iload_n C 62 1 dX9_network_61 rfl rfl rfl ?_
          refine im_cVP C 65 vk_X5_hasOld gw_783 (c_X5_hasOld (b := 0) (x1 := x1) hU h0.2.2.1.2.1) (h0.2.2.1.2.1 1 (by decide) (by decide)) rfl rfl (rle rfl) rfl (st := []) rfl (Nat.le_of_ble_eq_true rfl) dX9_network_62 rfl (fun o3 => ?_)
          refine im_istore_n C 66 [(3, .int o3), (0, .ref (ad 31 0)), (1, .int x1), (2, .int x2)] dX9_network_65 rfl (by decide) rfl rfl ?_
          refine im_iload_n C 67 0 dX9_network_66 rfl rfl rfl ?_
          refine im_if_eq C 85 70 dX9_network_67 rfl rfl ?_ ?_
          · refine im_bipush C 87 dX9_network_85 rfl k_bpm9 ?_
            exact im_iret C rfl rfl dX9_network_87
          · refine im_aload_n C 71 1 dX9_network_70 rfl rfl rfl ?_
            refine gl_X9_19 C 74 (h0.1 31 (by decide) (by decide)) dX9_network_71 rfl ?_
            refine gl_X9_87 C 77 (h0.2.2.1.1 0 (by decide) (by decide)) dX9_network_74 rfl ?_
            refine im_iload_n C 78 2 dX9_network_77 rfl rfl rfl ?_
            refine im_iload_n C 79 3 dX9_network_78 rfl rfl rfl ?_
            refine im_cVP C 82 vk_X5_property gw_784 (c_X5_property (b := 0) (x1 := x1) (x2 := x2) hU h0.2.2.1.2.1) (h0.2.2.1.2.1 1 (by decide) (by decide)) rfl rfl (rle rfl) rfl (st := []) rfl (Nat.le_of_ble_eq_true rfl) dX9_network_79 rfl (fun o4 => ?_)
            refine im_goto C 87 dX9_network_82 rfl ?_
            exact im_iret C rfl rfl dX9_network_87
        · refine im_aload_n C 41 0 dX9_network_40 rfl rfl rfl ?_
          refine gl_X9_19 C 44 (h0.1 31 (by decide) (by decide)) dX9_network_41 rfl ?_
          refine gl_X9_87 C 47 (h0.2.2.1.1 0 (by decide) (by decide)) dX9_network_44 rfl ?_
          refine im_iload_n C 48 1 dX9_network_47 rfl rfl rfl ?_
          refine im_cVP C 51 vk_X5_hasBlock gw_690 (c_X5_hasBlock (b := 0) (x1 := x1) hU h0.2.2.1.2.1) (h0.2.2.1.2.1 1 (by decide) (by decide)) rfl rfl (rle rfl) rfl (st := []) rfl (Nat.le_of_ble_eq_true rfl) dX9_network_48 rfl (fun o5 => ?_)
          refine im_goto C 65 dX9_network_51 rfl ?_
          refine im_istore_n C 66 [(3, .int o5), (0, .ref (ad 31 0)), (1, .int x1), (2, .int x2)] dX9_network_65 rfl (by decide) rfl rfl ?_
          refine im_iload_n C 67 0 dX9_network_66 rfl rfl rfl ?_
          refine im_if_eq C 85 70 dX9_network_67 rfl rfl ?_ ?_
          · refine im_bipush C 87 dX9_network_85 rfl k_bpm9 ?_
            exact im_iret C rfl rfl dX9_network_87
          · refine im_aload_n C 71 1 dX9_network_70 rfl rfl rfl ?_
            refine gl_X9_19 C 74 (h0.1 31 (by decide) (by decide)) dX9_network_71 rfl ?_
            refine gl_X9_87 C 77 (h0.2.2.1.1 0 (by decide) (by decide)) dX9_network_74 rfl ?_
            refine im_iload_n C 78 2 dX9_network_77 rfl rfl rfl ?_
            refine im_iload_n C 79 3 dX9_network_78 rfl rfl rfl ?_
            refine im_cVP C 82 vk_X5_property gw_784 (c_X5_property (b := 0) (x1 := x1) (x2 := x2) hU h0.2.2.1.2.1) (h0.2.2.1.2.1 1 (by decide) (by decide)) rfl rfl (rle rfl) rfl (st := []) rfl (Nat.le_of_ble_eq_true rfl) dX9_network_79 rfl (fun o6 => ?_)
            refine im_goto C 87 dX9_network_82 rfl ?_
            exact im_iret C rfl rfl dX9_network_87
      · refine im_aload_n C 24 0 dX9_network_23 rfl rfl rfl ?_
        refine gl_X9_19 C 27 (h0.1 31 (by decide) (by decide)) dX9_network_24 rfl ?_
        refine gl_X9_169 C 30 (h0.2.2.1.1 0 (by decide) (by decide)) dX9_network_27 rfl ?_
        refine im_iload_n C 31 1 dX9_network_30 rfl rfl rfl ?_
        refine im_cVP C 34 vk_X2_membersOf gw_779 (c_X2_membersOf (b := 0) (x1 := x1) hU h0.2.2.1.2.2) (h0.2.2.1.2.2 9 (by decide) (by decide)) rfl rfl (rle rfl) rfl (st := []) rfl (Nat.le_of_ble_eq_true rfl) dX9_network_31 rfl (fun o7 => ?_)
        exact im_iret C rfl rfl dX9_network_34
    · refine im_iconst C 17 dX9_network_16 rfl k_icm1 ?_
      exact im_iret C rfl rfl dX9_network_17
set_option maxRecDepth 100000 in
set_option maxHeartbeats 4000000 in
theorem c_X9_owner {l : Launch} {G : va_G} {ad : Nat → Nat → Nat} {U : List (Nat × Nat)} {D : Dt} {x1 : Int32} (hU : Uinj ad U) (h0 : PrU U) : MI l G ad U yX9_owner cX9_owner 3 .int (k2_rm 3 64) [.ref (ad 31 0), .int x1] D ((f_X9_owner x1 D).bind (fun r => some (r, D))) := by
  refine mI_of (lv := [(0, .ref (ad 31 0)), (1, .int x1)]) (by decide) hU rfl (Nat.le_of_ble_eq_true rfl) (fun A p e s m args below meth c C => ?_)
  have C : Cx G ad U A p s m meth c args cX9_owner RX9 3 (some .int) := C
  unfold f_X9_owner
  refine im_iload_n C 1 1 dX9_owner_0 rfl rfl rfl ?_
  refine im_iconst C 2 dX9_owner_1 rfl k_ic0 ?_
  refine im_ldc C 4 gw_613 dX9_owner_2 rfl ?_
  refine im_cSP C 7 sk_X9_isIn gw_357 (c_X9_isIn (x0 := x1) (x1 := (0 : Int32)) (x2 := (65535 : Int32)) hU) (rle rfl) rfl (st := []) rfl (Nat.le_of_ble_eq_true rfl) dX9_owner_4 rfl (fun o1 => ?_)
  refine im_if_ne C 12 10 dX9_owner_7 rfl rfl ?_ ?_
  · refine im_aload_n C 13 0 dX9_owner_12 rfl rfl rfl ?_
    refine gl_X9_19 C 16 (h0.1 31 (by decide) (by decide)) dX9_owner_13 rfl ?_
    refine gl_X9_87 C 19 (h0.2.2.1.1 0 (by decide) (by decide)) dX9_owner_16 rfl ?_
    refine im_iload_n C 20 1 dX9_owner_19 rfl rfl rfl ?_
    refine im_cVP C 23 vk_X5_networkAt gw_792 (c_X5_networkAt (b := 0) (x1 := x1) hU h0.2.2.1.2.1) (h0.2.2.1.2.1 1 (by decide) (by decide)) rfl rfl (rle rfl) rfl (st := []) rfl (Nat.le_of_ble_eq_true rfl) dX9_owner_20 rfl (fun o2 => ?_)
    refine im_istore_n C 24 [(2, .int o2), (0, .ref (ad 31 0)), (1, .int x1)] dX9_owner_23 rfl (by decide) rfl rfl ?_
    refine im_iload_n C 25 0 dX9_owner_24 rfl rfl rfl ?_
    refine im_iconst C 26 dX9_owner_25 rfl k_icm1 ?_
    refine im_ic_ne C 34 29 dX9_owner_26 rfl rfl ?_ ?_
    · refine im_iload_n C 35 0 dX9_owner_34 rfl rfl rfl ?_
      exact im_iret C rfl rfl dX9_owner_35
    · refine im_bipush C 31 dX9_owner_29 rfl k_bpm9 ?_
      refine im_goto C 35 dX9_owner_31 rfl ?_
      exact im_iret C rfl rfl dX9_owner_35
  · refine im_iconst C 11 dX9_owner_10 rfl k_icm1 ?_
    exact im_iret C rfl rfl dX9_owner_11
set_option maxRecDepth 100000 in
set_option maxHeartbeats 4000000 in
theorem c_X9_addHost {l : Launch} {G : va_G} {ad : Nat → Nat → Nat} {U : List (Nat × Nat)} {D : Dt} {x1 : Int32} {x2 : Int32} {x3 : Int32} (hU : Uinj ad U) (h0 : PrU U) : MI l G ad U yX9_addHost cX9_addHost 4 .int (k2_rm 5 145) [.ref (ad 31 0), .int x1, .int x2, .int x3] D (f_X9_addHost x1 x2 x3 D) := by
  refine mI_of0 (lv := [(0, .ref (ad 31 0)), (1, .int x1), (2, .int x2), (3, .int x3)]) (by decide) hU rfl (Nat.le_of_ble_eq_true rfl) (fun A p e s m args below meth c C => ?_)
  have C : Cx G ad U A p s m meth c args cX9_addHost RX9 4 (some .int) := C
  unfold f_X9_addHost
  refine im_iload_n C 1 1 dX9_addHost_0 rfl rfl rfl ?_
  refine im_cSP C 4 sk_X9_isHost gw_800 (c_X9_isHost (x0 := x1) hU) (rle rfl) rfl (st := []) rfl (Nat.le_of_ble_eq_true rfl) dX9_addHost_1 rfl (fun o1 => ?_)
  refine im_if_eq C 23 7 dX9_addHost_4 rfl rfl ?_ ?_
  · refine im_iconst C 24 dX9_addHost_23 rfl k_icm1 ?_
    exact im_iret C rfl rfl dX9_addHost_24
  · refine im_iload_n C 8 2 dX9_addHost_7 rfl rfl rfl ?_
    refine im_cSP C 11 sk_X9_isNetwork gw_689 (c_X9_isNetwork (x0 := x2) hU) (rle rfl) rfl (st := []) rfl (Nat.le_of_ble_eq_true rfl) dX9_addHost_8 rfl (fun o2 => ?_)
    refine im_if_eq C 23 14 dX9_addHost_11 rfl rfl ?_ ?_
    · refine im_iconst C 24 dX9_addHost_23 rfl k_icm1 ?_
      exact im_iret C rfl rfl dX9_addHost_24
    · refine im_iload_n C 15 3 dX9_addHost_14 rfl rfl rfl ?_
      refine im_iconst C 16 dX9_addHost_15 rfl k_ic0 ?_
      refine im_iconst C 17 dX9_addHost_16 rfl k_ic1 ?_
      refine im_cSP C 20 sk_X9_isIn gw_357 (c_X9_isIn (x0 := x3) (x1 := (0 : Int32)) (x2 := (1 : Int32)) hU) (rle rfl) rfl (st := []) rfl (Nat.le_of_ble_eq_true rfl) dX9_addHost_17 rfl (fun o3 => ?_)
      refine im_if_ne C 25 23 dX9_addHost_20 rfl rfl ?_ ?_
      · refine im_aload_n C 26 0 dX9_addHost_25 rfl rfl rfl ?_
        refine gl_X9_19 C 29 (h0.1 31 (by decide) (by decide)) dX9_addHost_26 rfl ?_
        refine gl_X9_169 C 32 (h0.2.2.1.1 0 (by decide) (by decide)) dX9_addHost_29 rfl ?_
        refine im_iload_n C 33 1 dX9_addHost_32 rfl rfl rfl ?_
        refine im_cVP C 36 vk_X2_isMember gw_803 (c_X2_isMember (b := 0) (x1 := x1) hU h0.2.2.1.2.2) (h0.2.2.1.2.2 9 (by decide) (by decide)) rfl rfl (rle rfl) rfl (st := []) rfl (Nat.le_of_ble_eq_true rfl) dX9_addHost_33 rfl (fun o4 => ?_)
        refine im_if_ne C 53 39 dX9_addHost_36 rfl rfl ?_ ?_
        · refine im_bipush C 55 dX9_addHost_53 rfl k_bpm2 ?_
          exact im_iret C rfl rfl dX9_addHost_55
        · refine im_aload_n C 40 0 dX9_addHost_39 rfl rfl rfl ?_
          refine gl_X9_19 C 43 (h0.1 31 (by decide) (by decide)) dX9_addHost_40 rfl ?_
          refine gl_X9_87 C 46 (h0.2.2.1.1 0 (by decide) (by decide)) dX9_addHost_43 rfl ?_
          refine im_iload_n C 47 2 dX9_addHost_46 rfl rfl rfl ?_
          refine im_cVP C 50 vk_X5_hasBlock gw_690 (c_X5_hasBlock (b := 0) (x1 := x2) hU h0.2.2.1.2.1) (h0.2.2.1.2.1 1 (by decide) (by decide)) rfl rfl (rle rfl) rfl (st := []) rfl (Nat.le_of_ble_eq_true rfl) dX9_addHost_47 rfl (fun o5 => ?_)
          refine im_if_ne C 56 53 dX9_addHost_50 rfl rfl ?_ ?_
          · refine im_aload_n C 57 0 dX9_addHost_56 rfl rfl rfl ?_
            refine gl_X9_29 C 60 (h0.1 31 (by decide) (by decide)) dX9_addHost_57 rfl ?_
            refine im_aload_n C 61 0 dX9_addHost_60 rfl rfl rfl ?_
            refine gl_X9_19 C 64 (h0.1 31 (by decide) (by decide)) dX9_addHost_61 rfl ?_
            refine im_cVV C 67 vk_X1_keep gw_575 (c_X1_keep (b1 := 0) hU h0.2.2.2.2.1 h0.2.2.1) (h0.2.2.2.2.1.1 24 (by decide) (by decide)) rfl rfl (rle rfl) rfl (st := []) rfl (Nat.le_of_ble_eq_true rfl) dX9_addHost_64 rfl (fun D6 => ?_)
            refine im_aload_n C 68 0 dX9_addHost_67 rfl rfl rfl ?_
            refine gl_X9_19 C 71 (h0.1 31 (by decide) (by decide)) dX9_addHost_68 rfl ?_
            refine gl_X9_169 C 74 (h0.2.2.1.1 0 (by decide) (by decide)) dX9_addHost_71 rfl ?_
            refine im_iload_n C 75 1 dX9_addHost_74 rfl rfl rfl ?_
            refine im_iload_n C 76 2 dX9_addHost_75 rfl rfl rfl ?_
            refine im_iload_n C 77 3 dX9_addHost_76 rfl rfl rfl ?_
            refine im_cVV C 80 vk_X2_enrol gw_804 (c_X2_enrol (b := 0) (x1 := x1) (x2 := x2) (x3 := x3) hU h0.2.2.1.2.2) (h0.2.2.1.2.2 9 (by decide) (by decide)) rfl rfl (rle rfl) rfl (st := []) rfl (Nat.le_of_ble_eq_true rfl) dX9_addHost_77 rfl (fun D7 => ?_)
            refine im_aload_n C 81 0 dX9_addHost_80 rfl rfl rfl ?_
            refine gl_X9_19 C 84 (h0.1 31 (by decide) (by decide)) dX9_addHost_81 rfl ?_
            refine gl_X9_169 C 87 (h0.2.2.1.1 0 (by decide) (by decide)) dX9_addHost_84 rfl ?_
            refine im_iload_n C 88 2 dX9_addHost_87 rfl rfl rfl ?_
            refine im_cVP C 91 vk_X2_membersOf gw_779 (c_X2_membersOf (b := 0) (x1 := x2) hU h0.2.2.1.2.2) (h0.2.2.1.2.2 9 (by decide) (by decide)) rfl rfl (rle rfl) rfl (st := []) rfl (Nat.le_of_ble_eq_true rfl) dX9_addHost_88 rfl (fun o8 => ?_)
            exact im_iret C rfl rfl dX9_addHost_91
          · refine im_bipush C 55 dX9_addHost_53 rfl k_bpm2 ?_
            exact im_iret C rfl rfl dX9_addHost_55
      · refine im_iconst C 24 dX9_addHost_23 rfl k_icm1 ?_
        exact im_iret C rfl rfl dX9_addHost_24
set_option maxRecDepth 100000 in
set_option maxHeartbeats 4000000 in
theorem c_X9_removeHost {l : Launch} {G : va_G} {ad : Nat → Nat → Nat} {U : List (Nat × Nat)} {D : Dt} {x1 : Int32} (hU : Uinj ad U) (h0 : PrU U) : MI l G ad U yX9_removeHost cX9_removeHost 3 .int (k2_rm 5 145) [.ref (ad 31 0), .int x1] D (f_X9_removeHost x1 D) := by
  refine mI_of0 (lv := [(0, .ref (ad 31 0)), (1, .int x1)]) (by decide) hU rfl (Nat.le_of_ble_eq_true rfl) (fun A p e s m args below meth c C => ?_)
  have C : Cx G ad U A p s m meth c args cX9_removeHost RX9 3 (some .int) := C
  unfold f_X9_removeHost
  refine im_iload_n C 1 1 dX9_removeHost_0 rfl rfl rfl ?_
  refine im_cSP C 4 sk_X9_isHost gw_800 (c_X9_isHost (x0 := x1) hU) (rle rfl) rfl (st := []) rfl (Nat.le_of_ble_eq_true rfl) dX9_removeHost_1 rfl (fun o1 => ?_)
  refine im_if_ne C 9 7 dX9_removeHost_4 rfl rfl ?_ ?_
  · refine im_aload_n C 10 0 dX9_removeHost_9 rfl rfl rfl ?_
    refine gl_X9_19 C 13 (h0.1 31 (by decide) (by decide)) dX9_removeHost_10 rfl ?_
    refine gl_X9_169 C 16 (h0.2.2.1.1 0 (by decide) (by decide)) dX9_removeHost_13 rfl ?_
    refine im_iload_n C 17 1 dX9_removeHost_16 rfl rfl rfl ?_
    refine im_cVP C 20 vk_X2_isMember gw_803 (c_X2_isMember (b := 0) (x1 := x1) hU h0.2.2.1.2.2) (h0.2.2.1.2.2 9 (by decide) (by decide)) rfl rfl (rle rfl) rfl (st := []) rfl (Nat.le_of_ble_eq_true rfl) dX9_removeHost_17 rfl (fun o2 => ?_)
    refine im_if_ne C 26 23 dX9_removeHost_20 rfl rfl ?_ ?_
    · refine im_aload_n C 27 0 dX9_removeHost_26 rfl rfl rfl ?_
      refine gl_X9_29 C 30 (h0.1 31 (by decide) (by decide)) dX9_removeHost_27 rfl ?_
      refine im_aload_n C 31 0 dX9_removeHost_30 rfl rfl rfl ?_
      refine gl_X9_19 C 34 (h0.1 31 (by decide) (by decide)) dX9_removeHost_31 rfl ?_
      refine im_cVV C 37 vk_X1_keep gw_575 (c_X1_keep (b1 := 0) hU h0.2.2.2.2.1 h0.2.2.1) (h0.2.2.2.2.1.1 24 (by decide) (by decide)) rfl rfl (rle rfl) rfl (st := []) rfl (Nat.le_of_ble_eq_true rfl) dX9_removeHost_34 rfl (fun D3 => ?_)
      refine im_aload_n C 38 0 dX9_removeHost_37 rfl rfl rfl ?_
      refine gl_X9_19 C 41 (h0.1 31 (by decide) (by decide)) dX9_removeHost_38 rfl ?_
      refine gl_X9_169 C 44 (h0.2.2.1.1 0 (by decide) (by decide)) dX9_removeHost_41 rfl ?_
      refine im_iload_n C 45 1 dX9_removeHost_44 rfl rfl rfl ?_
      refine im_cVP C 48 vk_X2_leasesHeld gw_809 (c_X2_leasesHeld (b := 0) (x1 := x1) hU h0.2.2.1.2.2) (h0.2.2.1.2.2 9 (by decide) (by decide)) rfl rfl (rle rfl) rfl (st := []) rfl (Nat.le_of_ble_eq_true rfl) dX9_removeHost_45 rfl (fun o4 => ?_)
      refine im_istore_n C 49 [(2, .int o4), (0, .ref (ad 31 0)), (1, .int x1)] dX9_removeHost_48 rfl (by decide) rfl rfl ?_
      refine im_aload_n C 50 1 dX9_removeHost_49 rfl rfl rfl ?_
      refine gl_X9_19 C 53 (h0.1 31 (by decide) (by decide)) dX9_removeHost_50 rfl ?_
      refine gl_X9_169 C 56 (h0.2.2.1.1 0 (by decide) (by decide)) dX9_removeHost_53 rfl ?_
      refine im_iload_n C 57 2 dX9_removeHost_56 rfl rfl rfl ?_
      refine im_cVV C 60 vk_X2_dismiss gw_810 (c_X2_dismiss (b := 0) (x1 := x1) hU h0.2.2.1.2.2) (h0.2.2.1.2.2 9 (by decide) (by decide)) rfl rfl (rle rfl) rfl (st := []) rfl (Nat.le_of_ble_eq_true rfl) dX9_removeHost_57 rfl (fun D5 => ?_)
      refine im_iload_n C 61 0 dX9_removeHost_60 rfl rfl rfl ?_
      exact im_iret C rfl rfl dX9_removeHost_61
    · refine im_bipush C 25 dX9_removeHost_23 rfl k_bpm2 ?_
      exact im_iret C rfl rfl dX9_removeHost_25
  · refine im_iconst C 8 dX9_removeHost_7 rfl k_icm1 ?_
    exact im_iret C rfl rfl dX9_removeHost_8
set_option maxRecDepth 100000 in
set_option maxHeartbeats 4000000 in
theorem c_X9_request {l : Launch} {G : va_G} {ad : Nat → Nat → Nat} {U : List (Nat × Nat)} {D : Dt} {x1 : Int32} (hU : Uinj ad U) (h0 : PrU U) : MI l G ad U yX9_request cX9_request 3 .int (k2_rm 5 145) [.ref (ad 31 0), .int x1] D (f_X9_request x1 D) := by
  refine mI_of0 (lv := [(0, .ref (ad 31 0)), (1, .int x1)]) (by decide) hU rfl (Nat.le_of_ble_eq_true rfl) (fun A p e s m args below meth c C => ?_)
  have C : Cx G ad U A p s m meth c args cX9_request RX9 3 (some .int) := C
  unfold f_X9_request
  refine im_iload_n C 1 1 dX9_request_0 rfl rfl rfl ?_
  refine im_cSP C 4 sk_X9_isHost gw_800 (c_X9_isHost (x0 := x1) hU) (rle rfl) rfl (st := []) rfl (Nat.le_of_ble_eq_true rfl) dX9_request_1 rfl (fun o1 => ?_)
  refine im_if_ne C 9 7 dX9_request_4 rfl rfl ?_ ?_
  · refine im_aload_n C 10 0 dX9_request_9 rfl rfl rfl ?_
    refine gl_X9_19 C 13 (h0.1 31 (by decide) (by decide)) dX9_request_10 rfl ?_
    refine gl_X9_169 C 16 (h0.2.2.1.1 0 (by decide) (by decide)) dX9_request_13 rfl ?_
    refine im_iload_n C 17 1 dX9_request_16 rfl rfl rfl ?_
    refine im_cVP C 20 vk_X2_isMember gw_803 (c_X2_isMember (b := 0) (x1 := x1) hU h0.2.2.1.2.2) (h0.2.2.1.2.2 9 (by decide) (by decide)) rfl rfl (rle rfl) rfl (st := []) rfl (Nat.le_of_ble_eq_true rfl) dX9_request_17 rfl (fun o2 => ?_)
    refine im_if_ne C 26 23 dX9_request_20 rfl rfl ?_ ?_
    · refine im_aload_n C 27 0 dX9_request_26 rfl rfl rfl ?_
      refine gl_X9_19 C 30 (h0.1 31 (by decide) (by decide)) dX9_request_27 rfl ?_
      refine im_iload_n C 31 1 dX9_request_30 rfl rfl rfl ?_
      refine im_cVP C 34 vk_X6_addressFor gw_815 (c_X6_addressFor (b := 0) (x1 := x1) hU h0.2.2.1) (h0.2.2.1.1 0 (by decide) (by decide)) rfl rfl (rle rfl) rfl (st := []) rfl (Nat.le_of_ble_eq_true rfl) dX9_request_31 rfl (fun o3 => ?_)
      refine im_istore_n C 35 [(2, .int o3), (0, .ref (ad 31 0)), (1, .int x1)] dX9_request_34 rfl (by decide) rfl rfl ?_
      refine im_iload_n C 36 0 dX9_request_35 rfl rfl rfl ?_
      refine im_iconst C 37 dX9_request_36 rfl k_icm1 ?_
      refine im_ic_ne C 43 40 dX9_request_37 rfl rfl ?_ ?_
      · refine im_aload_n C 44 1 dX9_request_43 rfl rfl rfl ?_
        refine gl_X9_29 C 47 (h0.1 31 (by decide) (by decide)) dX9_request_44 rfl ?_
        refine im_aload_n C 48 1 dX9_request_47 rfl rfl rfl ?_
        refine gl_X9_19 C 51 (h0.1 31 (by decide) (by decide)) dX9_request_48 rfl ?_
        refine im_cVV C 54 vk_X1_keep gw_575 (c_X1_keep (b1 := 0) hU h0.2.2.2.2.1 h0.2.2.1) (h0.2.2.2.2.1.1 24 (by decide) (by decide)) rfl rfl (rle rfl) rfl (st := []) rfl (Nat.le_of_ble_eq_true rfl) dX9_request_51 rfl (fun D4 => ?_)
        refine im_aload_n C 55 1 dX9_request_54 rfl rfl rfl ?_
        refine gl_X9_19 C 58 (h0.1 31 (by decide) (by decide)) dX9_request_55 rfl ?_
        refine im_iload_n C 59 2 dX9_request_58 rfl rfl rfl ?_
        refine im_iload_n C 60 0 dX9_request_59 rfl rfl rfl ?_
        refine im_cVV C 63 vk_X6_grant gw_840 (c_X6_grant (b := 0) (x1 := x1) (x2 := o3) hU h0.2.2.1) (h0.2.2.1.1 0 (by decide) (by decide)) rfl rfl (rle rfl) rfl (st := []) rfl (Nat.le_of_ble_eq_true rfl) dX9_request_60 rfl (fun D5 => ?_)
        refine im_iload_n C 64 0 dX9_request_63 rfl rfl rfl ?_
        exact im_iret C rfl rfl dX9_request_64
      · refine im_bipush C 42 dX9_request_40 rfl k_bpm3 ?_
        exact im_iret C rfl rfl dX9_request_42
    · refine im_bipush C 25 dX9_request_23 rfl k_bpm2 ?_
      exact im_iret C rfl rfl dX9_request_25
  · refine im_iconst C 8 dX9_request_7 rfl k_icm1 ?_
    exact im_iret C rfl rfl dX9_request_8
set_option maxRecDepth 100000 in
set_option maxHeartbeats 4000000 in
theorem c_X9_host {l : Launch} {G : va_G} {ad : Nat → Nat → Nat} {U : List (Nat × Nat)} {D : Dt} {x1 : Int32} {x2 : Int32} (hU : Uinj ad U) (h0 : PrU U) : MI l G ad U yX9_host cX9_host 4 .int (k2_rm 1 22) [.ref (ad 31 0), .int x1, .int x2] D ((f_X9_host x1 x2 D).bind (fun r => some (r, D))) := by
  refine mI_of (lv := [(0, .ref (ad 31 0)), (1, .int x1), (2, .int x2)]) (by decide) hU rfl (Nat.le_of_ble_eq_true rfl) (fun A p e s m args below meth c C => ?_)
  have C : Cx G ad U A p s m meth c args cX9_host RX9 4 (some .int) := C
  unfold f_X9_host
  refine im_iload_n C 1 1 dX9_host_0 rfl rfl rfl ?_
  refine im_cSP C 4 sk_X9_isHost gw_800 (c_X9_isHost (x0 := x1) hU) (rle rfl) rfl (st := []) rfl (Nat.le_of_ble_eq_true rfl) dX9_host_1 rfl (fun o1 => ?_)
  refine im_if_eq C 16 7 dX9_host_4 rfl rfl ?_ ?_
  · refine im_iconst C 17 dX9_host_16 rfl k_icm1 ?_
    exact im_iret C rfl rfl dX9_host_17
  · refine im_iload_n C 8 2 dX9_host_7 rfl rfl rfl ?_
    refine im_iconst C 9 dX9_host_8 rfl k_ic0 ?_
    refine im_iconst C 10 dX9_host_9 rfl k_ic5 ?_
    refine im_cSP C 13 sk_X9_isIn gw_357 (c_X9_isIn (x0 := x2) (x1 := (0 : Int32)) (x2 := (5 : Int32)) hU) (rle rfl) rfl (st := []) rfl (Nat.le_of_ble_eq_true rfl) dX9_host_10 rfl (fun o2 => ?_)
    refine im_if_ne C 18 16 dX9_host_13 rfl rfl ?_ ?_
    · refine im_aload_n C 19 0 dX9_host_18 rfl rfl rfl ?_
      refine gl_X9_19 C 22 (h0.1 31 (by decide) (by decide)) dX9_host_19 rfl ?_
      refine gl_X9_169 C 25 (h0.2.2.1.1 0 (by decide) (by decide)) dX9_host_22 rfl ?_
      refine im_iload_n C 26 1 dX9_host_25 rfl rfl rfl ?_
      refine im_cVP C 29 vk_X2_isMember gw_803 (c_X2_isMember (b := 0) (x1 := x1) hU h0.2.2.1.2.2) (h0.2.2.1.2.2 9 (by decide) (by decide)) rfl rfl (rle rfl) rfl (st := []) rfl (Nat.le_of_ble_eq_true rfl) dX9_host_26 rfl (fun o3 => ?_)
      refine im_if_ne C 35 32 dX9_host_29 rfl rfl ?_ ?_
      · refine im_aload_n C 36 0 dX9_host_35 rfl rfl rfl ?_
        refine gl_X9_19 C 39 (h0.1 31 (by decide) (by decide)) dX9_host_36 rfl ?_
        refine gl_X9_169 C 42 (h0.2.2.1.1 0 (by decide) (by decide)) dX9_host_39 rfl ?_
        refine im_iload_n C 43 1 dX9_host_42 rfl rfl rfl ?_
        refine im_iload_n C 44 2 dX9_host_43 rfl rfl rfl ?_
        refine im_cVP C 47 vk_X2_property gw_849 (c_X2_property (b := 0) (x1 := x1) (x2 := x2) hU h0.2.2.1.2.2) (h0.2.2.1.2.2 9 (by decide) (by decide)) rfl rfl (rle rfl) rfl (st := []) rfl (Nat.le_of_ble_eq_true rfl) dX9_host_44 rfl (fun o4 => ?_)
        refine im_istore_n C 48 [(3, .int o4), (0, .ref (ad 31 0)), (1, .int x1), (2, .int x2)] dX9_host_47 rfl (by decide) rfl rfl ?_
        refine im_iload_n C 49 0 dX9_host_48 rfl rfl rfl ?_
        refine im_iconst C 50 dX9_host_49 rfl k_icm1 ?_
        refine im_ic_ne C 58 53 dX9_host_50 rfl rfl ?_ ?_
        · refine im_iload_n C 59 0 dX9_host_58 rfl rfl rfl ?_
          exact im_iret C rfl rfl dX9_host_59
        · refine im_bipush C 55 dX9_host_53 rfl k_bpm9 ?_
          refine im_goto C 59 dX9_host_55 rfl ?_
          exact im_iret C rfl rfl dX9_host_59
      · refine im_bipush C 34 dX9_host_32 rfl k_bpm9 ?_
        exact im_iret C rfl rfl dX9_host_34
    · refine im_iconst C 17 dX9_host_16 rfl k_icm1 ?_
      exact im_iret C rfl rfl dX9_host_17
set_option maxRecDepth 100000 in
set_option maxHeartbeats 4000000 in
theorem c_X9_leaseOf {l : Launch} {G : va_G} {ad : Nat → Nat → Nat} {U : List (Nat × Nat)} {D : Dt} {x1 : Int32} (hU : Uinj ad U) (h0 : PrU U) : MI l G ad U yX9_leaseOf cX9_leaseOf 3 .int (k2_rm 1 22) [.ref (ad 31 0), .int x1] D ((f_X9_leaseOf x1 D).bind (fun r => some (r, D))) := by
  refine mI_of (lv := [(0, .ref (ad 31 0)), (1, .int x1)]) (by decide) hU rfl (Nat.le_of_ble_eq_true rfl) (fun A p e s m args below meth c C => ?_)
  have C : Cx G ad U A p s m meth c args cX9_leaseOf RX9 3 (some .int) := C
  unfold f_X9_leaseOf
  refine im_iload_n C 1 1 dX9_leaseOf_0 rfl rfl rfl ?_
  refine im_iconst C 2 dX9_leaseOf_1 rfl k_ic0 ?_
  refine im_ldc C 4 gw_613 dX9_leaseOf_2 rfl ?_
  refine im_cSP C 7 sk_X9_isIn gw_357 (c_X9_isIn (x0 := x1) (x1 := (0 : Int32)) (x2 := (65535 : Int32)) hU) (rle rfl) rfl (st := []) rfl (Nat.le_of_ble_eq_true rfl) dX9_leaseOf_4 rfl (fun o1 => ?_)
  refine im_if_ne C 12 10 dX9_leaseOf_7 rfl rfl ?_ ?_
  · refine im_aload_n C 13 0 dX9_leaseOf_12 rfl rfl rfl ?_
    refine gl_X9_19 C 16 (h0.1 31 (by decide) (by decide)) dX9_leaseOf_13 rfl ?_
    refine gl_X9_169 C 19 (h0.2.2.1.1 0 (by decide) (by decide)) dX9_leaseOf_16 rfl ?_
    refine im_iload_n C 20 1 dX9_leaseOf_19 rfl rfl rfl ?_
    refine im_cVP C 23 vk_X2_holderOf gw_857 (c_X2_holderOf (b := 0) (x1 := x1) hU h0.2.2.1.2.2) (h0.2.2.1.2.2 9 (by decide) (by decide)) rfl rfl (rle rfl) rfl (st := []) rfl (Nat.le_of_ble_eq_true rfl) dX9_leaseOf_20 rfl (fun o2 => ?_)
    refine im_istore_n C 24 [(2, .int o2), (0, .ref (ad 31 0)), (1, .int x1)] dX9_leaseOf_23 rfl (by decide) rfl rfl ?_
    refine im_iload_n C 25 0 dX9_leaseOf_24 rfl rfl rfl ?_
    refine im_iconst C 26 dX9_leaseOf_25 rfl k_icm1 ?_
    refine im_ic_ne C 34 29 dX9_leaseOf_26 rfl rfl ?_ ?_
    · refine im_iload_n C 35 0 dX9_leaseOf_34 rfl rfl rfl ?_
      exact im_iret C rfl rfl dX9_leaseOf_35
    · refine im_bipush C 31 dX9_leaseOf_29 rfl k_bpm9 ?_
      refine im_goto C 35 dX9_leaseOf_31 rfl ?_
      exact im_iret C rfl rfl dX9_leaseOf_35
  · refine im_iconst C 11 dX9_leaseOf_10 rfl k_icm1 ?_
    exact im_iret C rfl rfl dX9_leaseOf_11
set_option maxRecDepth 100000 in
set_option maxHeartbeats 4000000 in
theorem c_X9_pass {l : Launch} {G : va_G} {ad : Nat → Nat → Nat} {U : List (Nat × Nat)} {D : Dt} {x1 : Int32} (hU : Uinj ad U) (h0 : PrU U) : MI l G ad U yX9_pass cX9_pass 2 .int (k2_rm 5 145) [.ref (ad 31 0), .int x1] D (f_X9_pass x1 D) := by
  refine mI_of0 (lv := [(0, .ref (ad 31 0)), (1, .int x1)]) (by decide) hU rfl (Nat.le_of_ble_eq_true rfl) (fun A p e s m args below meth c C => ?_)
  have C : Cx G ad U A p s m meth c args cX9_pass RX9 2 (some .int) := C
  unfold f_X9_pass
  refine im_iload_n C 1 1 dX9_pass_0 rfl rfl rfl ?_
  refine im_iconst C 2 dX9_pass_1 rfl k_ic1 ?_
  refine im_sipush C 5 dX9_pass_2 rfl k_sp1000 ?_
  refine im_cSP C 8 sk_X9_isIn gw_357 (c_X9_isIn (x0 := x1) (x1 := (1 : Int32)) (x2 := (1000 : Int32)) hU) (rle rfl) rfl (st := []) rfl (Nat.le_of_ble_eq_true rfl) dX9_pass_5 rfl (fun o1 => ?_)
  refine im_if_ne C 13 11 dX9_pass_8 rfl rfl ?_ ?_
  · refine im_aload_n C 14 0 dX9_pass_13 rfl rfl rfl ?_
    refine gl_X9_19 C 17 (h0.1 31 (by decide) (by decide)) dX9_pass_14 rfl ?_
    refine gl_X9_249 C 20 (h0.2.2.1.1 0 (by decide) (by decide)) dX9_pass_17 rfl ?_
    refine im_iload_n C 21 1 dX9_pass_20 rfl rfl rfl ?_
    refine im_iadd C 22 dX9_pass_21 rfl ?_
    refine im_sipush C 25 dX9_pass_22 rfl k_sp9999 ?_
    refine im_ic_le C 31 28 dX9_pass_25 rfl rfl ?_ ?_
    · refine im_aload_n C 32 0 dX9_pass_31 rfl rfl rfl ?_
      refine gl_X9_29 C 35 (h0.1 31 (by decide) (by decide)) dX9_pass_32 rfl ?_
      refine im_aload_n C 36 0 dX9_pass_35 rfl rfl rfl ?_
      refine gl_X9_19 C 39 (h0.1 31 (by decide) (by decide)) dX9_pass_36 rfl ?_
      refine im_cVV C 42 vk_X1_keep gw_575 (c_X1_keep (b1 := 0) hU h0.2.2.2.2.1 h0.2.2.1) (h0.2.2.2.2.1.1 24 (by decide) (by decide)) rfl rfl (rle rfl) rfl (st := []) rfl (Nat.le_of_ble_eq_true rfl) dX9_pass_39 rfl (fun D2 => ?_)
      refine im_aload_n C 43 0 dX9_pass_42 rfl rfl rfl ?_
      refine gl_X9_19 C 46 (h0.1 31 (by decide) (by decide)) dX9_pass_43 rfl ?_
      refine im_iload_n C 47 1 dX9_pass_46 rfl rfl rfl ?_
      refine im_cVI C 50 vk_X6_advance gw_862 (c_X6_advance (b := 0) (x1 := x1) hU h0.2.2.1) (h0.2.2.1.1 0 (by decide) (by decide)) rfl rfl (rle rfl) rfl (st := []) rfl (Nat.le_of_ble_eq_true rfl) dX9_pass_47 rfl (fun o3 => ?_)
      exact im_iret C rfl rfl dX9_pass_50
    · refine im_bipush C 30 dX9_pass_28 rfl k_bpm3 ?_
      exact im_iret C rfl rfl dX9_pass_30
  · refine im_iconst C 12 dX9_pass_11 rfl k_icm1 ?_
    exact im_iret C rfl rfl dX9_pass_12
set_option maxRecDepth 100000 in
set_option maxHeartbeats 4000000 in
theorem c_X9_setTimes {l : Launch} {G : va_G} {ad : Nat → Nat → Nat} {U : List (Nat × Nat)} {D : Dt} {x1 : Int32} {x2 : Int32} (hU : Uinj ad U) (h0 : PrU U) : MI l G ad U yX9_setTimes cX9_setTimes 4 .int (k2_rm 5 145) [.ref (ad 31 0), .int x1, .int x2] D (f_X9_setTimes x1 x2 D) := by
  refine mI_of0 (lv := [(0, .ref (ad 31 0)), (1, .int x1), (2, .int x2)]) (by decide) hU rfl (Nat.le_of_ble_eq_true rfl) (fun A p e s m args below meth c C => ?_)
  have C : Cx G ad U A p s m meth c args cX9_setTimes RX9 4 (some .int) := C
  unfold f_X9_setTimes
  refine im_iload_n C 1 1 dX9_setTimes_0 rfl rfl rfl ?_
  refine im_iconst C 2 dX9_setTimes_1 rfl k_ic1 ?_
  refine im_sipush C 5 dX9_setTimes_2 rfl k_sp500 ?_
  refine im_cSP C 8 sk_X9_isIn gw_357 (c_X9_isIn (x0 := x1) (x1 := (1 : Int32)) (x2 := (500 : Int32)) hU) (rle rfl) rfl (st := []) rfl (Nat.le_of_ble_eq_true rfl) dX9_setTimes_5 rfl (fun o1 => ?_)
  refine im_if_eq C 22 11 dX9_setTimes_8 rfl rfl ?_ ?_
  · refine im_iconst C 23 dX9_setTimes_22 rfl k_icm1 ?_
    exact im_iret C rfl rfl dX9_setTimes_23
  · refine im_iload_n C 12 2 dX9_setTimes_11 rfl rfl rfl ?_
    refine im_iconst C 13 dX9_setTimes_12 rfl k_ic0 ?_
    refine im_sipush C 16 dX9_setTimes_13 rfl k_sp500 ?_
    refine im_cSP C 19 sk_X9_isIn gw_357 (c_X9_isIn (x0 := x2) (x1 := (0 : Int32)) (x2 := (500 : Int32)) hU) (rle rfl) rfl (st := []) rfl (Nat.le_of_ble_eq_true rfl) dX9_setTimes_16 rfl (fun o2 => ?_)
    refine im_if_ne C 24 22 dX9_setTimes_19 rfl rfl ?_ ?_
    · refine im_aload_n C 25 0 dX9_setTimes_24 rfl rfl rfl ?_
      refine gl_X9_29 C 28 (h0.1 31 (by decide) (by decide)) dX9_setTimes_25 rfl ?_
      refine im_aload_n C 29 0 dX9_setTimes_28 rfl rfl rfl ?_
      refine gl_X9_19 C 32 (h0.1 31 (by decide) (by decide)) dX9_setTimes_29 rfl ?_
      refine im_cVV C 35 vk_X1_keep gw_575 (c_X1_keep (b1 := 0) hU h0.2.2.2.2.1 h0.2.2.1) (h0.2.2.2.2.1.1 24 (by decide) (by decide)) rfl rfl (rle rfl) rfl (st := []) rfl (Nat.le_of_ble_eq_true rfl) dX9_setTimes_32 rfl (fun D3 => ?_)
      refine im_aload_n C 36 0 dX9_setTimes_35 rfl rfl rfl ?_
      refine gl_X9_19 C 39 (h0.1 31 (by decide) (by decide)) dX9_setTimes_36 rfl ?_
      refine gl_X9_255 C 42 (h0.2.2.1.1 0 (by decide) (by decide)) dX9_setTimes_39 rfl ?_
      refine im_iload_n C 43 1 dX9_setTimes_42 rfl rfl rfl ?_
      refine im_jn 62 (fun t4 => [(0, .ref (ad 31 0)), (1, .int x1), (2, .int x2)]) (fun t4 => [.int t4]) (fun t4 => D3) (fun t4 => j_X9_setTimes_62_t4 x1 x2 D3 t4) (fun t4 => ?_) (fun ht4 => ?_)
      · unfold j_X9_setTimes_62_t4
        refine im_istore_n C 63 [(3, .int t4), (0, .ref (ad 31 0)), (1, .int x1), (2, .int x2)] dX9_setTimes_62 rfl (by decide) rfl rfl ?_
        refine im_aload_n C 64 1 dX9_setTimes_63 rfl rfl rfl ?_
        refine gl_X9_19 C 67 (h0.1 31 (by decide) (by decide)) dX9_setTimes_64 rfl ?_
        refine im_iload_n C 68 2 dX9_setTimes_67 rfl rfl rfl ?_
        refine pl_X9_255 C 71 (h0.2.2.1.1 0 (by decide) (by decide)) dX9_setTimes_68 rfl (fun D5 => ?_)
        refine im_aload_n C 72 1 dX9_setTimes_71 rfl rfl rfl ?_
        refine gl_X9_19 C 75 (h0.1 31 (by decide) (by decide)) dX9_setTimes_72 rfl ?_
        refine im_iload_n C 76 3 dX9_setTimes_75 rfl rfl rfl ?_
        refine pl_X9_258 C 79 (h0.2.2.1.1 0 (by decide) (by decide)) dX9_setTimes_76 rfl (fun D6 => ?_)
        refine im_iload_n C 80 0 dX9_setTimes_79 rfl rfl rfl ?_
        refine im_if_eq C 87 83 dX9_setTimes_80 rfl rfl ?_ ?_
        · refine im_iconst C 88 dX9_setTimes_87 rfl k_ic0 ?_
          exact im_iret C rfl rfl dX9_setTimes_88
        · refine im_iconst C 84 dX9_setTimes_83 rfl k_ic1 ?_
          refine im_goto C 88 dX9_setTimes_84 rfl ?_
          exact im_iret C rfl rfl dX9_setTimes_88
      · refine im_ic_ne C 57 46 dX9_setTimes_43 rfl rfl ?_ ?_
        · refine im_iconst C 58 dX9_setTimes_57 rfl k_ic1 ?_
          refine im_goto C 62 dX9_setTimes_58 rfl ?_
          exact ht4 (1 : Int32)
        · refine im_aload_n C 47 0 dX9_setTimes_46 rfl rfl rfl ?_
          refine gl_X9_19 C 50 (h0.1 31 (by decide) (by decide)) dX9_setTimes_47 rfl ?_
          refine gl_X9_258 C 53 (h0.2.2.1.1 0 (by decide) (by decide)) dX9_setTimes_50 rfl ?_
          refine im_iload_n C 54 2 dX9_setTimes_53 rfl rfl rfl ?_
          refine im_ic_eq C 61 57 dX9_setTimes_54 rfl rfl ?_ ?_
          · refine im_iconst C 62 dX9_setTimes_61 rfl k_ic0 ?_
            exact ht4 (0 : Int32)
          · refine im_iconst C 58 dX9_setTimes_57 rfl k_ic1 ?_
            refine im_goto C 62 dX9_setTimes_58 rfl ?_
            exact ht4 (1 : Int32)
    · refine im_iconst C 23 dX9_setTimes_22 rfl k_icm1 ?_
      exact im_iret C rfl rfl dX9_setTimes_23
set_option maxRecDepth 100000 in
set_option maxHeartbeats 4000000 in
theorem c_X9_nextEvent {l : Launch} {G : va_G} {ad : Nat → Nat → Nat} {U : List (Nat × Nat)} {D : Dt} (hU : Uinj ad U) (h0 : PrU U) : MI l G ad U yX9_nextEvent cX9_nextEvent 2 .int (k2_rm 3 63) [.ref (ad 31 0)] D ((f_X9_nextEvent D).bind (fun r => some (r, D))) := by
  refine mI_of (lv := [(0, .ref (ad 31 0))]) (by decide) hU rfl (Nat.le_of_ble_eq_true rfl) (fun A p e s m args below meth c C => ?_)
  have C : Cx G ad U A p s m meth c args cX9_nextEvent RX9 2 (some .int) := C
  unfold f_X9_nextEvent
  refine im_aload_n C 1 0 dX9_nextEvent_0 rfl rfl rfl ?_
  refine gl_X9_19 C 4 (h0.1 31 (by decide) (by decide)) dX9_nextEvent_1 rfl ?_
  refine gl_X9_169 C 7 (h0.2.2.1.1 0 (by decide) (by decide)) dX9_nextEvent_4 rfl ?_
  refine im_cVP C 10 vk_X2_firstEnd gw_878 (c_X2_firstEnd (b := 0) hU h0.2.2.1.2.2) (h0.2.2.1.2.2 9 (by decide) (by decide)) rfl rfl (rle rfl) rfl (st := []) rfl (Nat.le_of_ble_eq_true rfl) dX9_nextEvent_7 rfl (fun o1 => ?_)
  refine im_aload_n C 11 0 dX9_nextEvent_10 rfl rfl rfl ?_
  refine gl_X9_19 C 14 (h0.1 31 (by decide) (by decide)) dX9_nextEvent_11 rfl ?_
  refine gl_X9_87 C 17 (h0.2.2.1.1 0 (by decide) (by decide)) dX9_nextEvent_14 rfl ?_
  refine im_cVP C 20 vk_X5_firstOverlapEnd gw_883 (c_X5_firstOverlapEnd (b := 0) hU h0.2.2.1.2.1) (h0.2.2.1.2.1 1 (by decide) (by decide)) rfl rfl (rle rfl) rfl (st := [.int o1]) rfl (Nat.le_of_ble_eq_true rfl) dX9_nextEvent_17 rfl (fun o2 => ?_)
  refine im_mmin C 23 gw_595 dX9_nextEvent_20 rfl ⟨Nat.le_of_ble_eq_true rfl, Nat.le_of_ble_eq_true rfl⟩ ?_
  refine im_istore_n C 24 [(1, .int (if o2 < o1 then o2 else o1)), (0, .ref (ad 31 0))] dX9_nextEvent_23 rfl (by decide) rfl rfl ?_
  refine im_iload_n C 25 0 dX9_nextEvent_24 rfl rfl rfl ?_
  refine im_sipush C 28 dX9_nextEvent_25 rfl k_sp10999 ?_
  refine im_ic_ne C 36 31 dX9_nextEvent_28 rfl rfl ?_ ?_
  · refine im_iload_n C 37 0 dX9_nextEvent_36 rfl rfl rfl ?_
    exact im_iret C rfl rfl dX9_nextEvent_37
  · refine im_bipush C 33 dX9_nextEvent_31 rfl k_bpm9 ?_
    refine im_goto C 37 dX9_nextEvent_33 rfl ?_
    exact im_iret C rfl rfl dX9_nextEvent_37
set_option maxRecDepth 100000 in
set_option maxHeartbeats 4000000 in
theorem c_X9_count {l : Launch} {G : va_G} {ad : Nat → Nat → Nat} {U : List (Nat × Nat)} {D : Dt} {x1 : Int32} (hU : Uinj ad U) (h0 : PrU U) : MI l G ad U yX9_count cX9_count 2 .int (k2_rm 4 88) [.ref (ad 31 0), .int x1] D (f_X9_count x1 D) := by
  refine mI_of0 (lv := [(0, .ref (ad 31 0)), (1, .int x1)]) (by decide) hU rfl (Nat.le_of_ble_eq_true rfl) (fun A p e s m args below meth c C => ?_)
  have C : Cx G ad U A p s m meth c args cX9_count RX9 2 (some .int) := C
  unfold f_X9_count
  refine im_iload_n C 1 1 dX9_count_0 rfl rfl rfl ?_
  refine im_ite (fun s1_0 => ?_) (fun s1_0 => ?_)
  · refine im_tabIn C 52 (y := (0 : Int32)) s1_0 dX9_count_1 (by decide) (by decide) rfl rfl ?_
    refine im_aload_n C 53 0 dX9_count_52 rfl rfl rfl ?_
    refine gl_X9_19 C 56 (h0.1 31 (by decide) (by decide)) dX9_count_53 rfl ?_
    refine gl_X9_249 C 59 (h0.2.2.1.1 0 (by decide) (by decide)) dX9_count_56 rfl ?_
    exact im_iret C rfl rfl dX9_count_59
  · refine im_ite (fun s1_1 => ?_) (fun s1_1 => ?_)
    · refine im_tabIn C 60 (y := (1 : Int32)) s1_1 dX9_count_1 (by decide) (by decide) rfl rfl ?_
      refine im_aload_n C 61 0 dX9_count_60 rfl rfl rfl ?_
      refine gl_X9_19 C 64 (h0.1 31 (by decide) (by decide)) dX9_count_61 rfl ?_
      refine gl_X9_87 C 67 (h0.2.2.1.1 0 (by decide) (by decide)) dX9_count_64 rfl ?_
      refine gl_X9_96 C 70 (h0.2.2.1.2.1 1 (by decide) (by decide)) dX9_count_67 rfl ?_
      exact im_iret C rfl rfl dX9_count_70
    · refine im_ite (fun s1_2 => ?_) (fun s1_2 => ?_)
      · refine im_tabIn C 71 (y := (2 : Int32)) s1_2 dX9_count_1 (by decide) (by decide) rfl rfl ?_
        refine im_aload_n C 72 0 dX9_count_71 rfl rfl rfl ?_
        refine gl_X9_19 C 75 (h0.1 31 (by decide) (by decide)) dX9_count_72 rfl ?_
        refine gl_X9_87 C 78 (h0.2.2.1.1 0 (by decide) (by decide)) dX9_count_75 rfl ?_
        refine im_cVP C 81 vk_X5_currentBlocks gw_892 (c_X5_currentBlocks (b := 0) hU h0.2.2.1.2.1) (h0.2.2.1.2.1 1 (by decide) (by decide)) rfl rfl (rle rfl) rfl (st := []) rfl (Nat.le_of_ble_eq_true rfl) dX9_count_78 rfl (fun o1 => ?_)
        exact im_iret C rfl rfl dX9_count_81
      · refine im_ite (fun s1_3 => ?_) (fun s1_3 => ?_)
        · refine im_tabIn C 82 (y := (3 : Int32)) s1_3 dX9_count_1 (by decide) (by decide) rfl rfl ?_
          refine im_aload_n C 83 0 dX9_count_82 rfl rfl rfl ?_
          refine gl_X9_19 C 86 (h0.1 31 (by decide) (by decide)) dX9_count_83 rfl ?_
          refine gl_X9_87 C 89 (h0.2.2.1.1 0 (by decide) (by decide)) dX9_count_86 rfl ?_
          refine im_cVP C 92 vk_X5_oldBlocks gw_896 (c_X5_oldBlocks (b := 0) hU h0.2.2.1.2.1) (h0.2.2.1.2.1 1 (by decide) (by decide)) rfl rfl (rle rfl) rfl (st := []) rfl (Nat.le_of_ble_eq_true rfl) dX9_count_89 rfl (fun o2 => ?_)
          exact im_iret C rfl rfl dX9_count_92
        · refine im_ite (fun s1_4 => ?_) (fun s1_4 => ?_)
          · refine im_tabIn C 93 (y := (4 : Int32)) s1_4 dX9_count_1 (by decide) (by decide) rfl rfl ?_
            refine im_aload_n C 94 0 dX9_count_93 rfl rfl rfl ?_
            refine gl_X9_19 C 97 (h0.1 31 (by decide) (by decide)) dX9_count_94 rfl ?_
            refine gl_X9_169 C 100 (h0.2.2.1.1 0 (by decide) (by decide)) dX9_count_97 rfl ?_
            refine im_cVP C 103 vk_X2_members gw_900 (c_X2_members (b := 0) hU h0.2.2.1.2.2) (h0.2.2.1.2.2 9 (by decide) (by decide)) rfl rfl (rle rfl) rfl (st := []) rfl (Nat.le_of_ble_eq_true rfl) dX9_count_100 rfl (fun o3 => ?_)
            exact im_iret C rfl rfl dX9_count_103
          · refine im_ite (fun s1_5 => ?_) (fun s1_5 => ?_)
            · refine im_tabIn C 104 (y := (5 : Int32)) s1_5 dX9_count_1 (by decide) (by decide) rfl rfl ?_
              refine im_aload_n C 105 0 dX9_count_104 rfl rfl rfl ?_
              refine gl_X9_19 C 108 (h0.1 31 (by decide) (by decide)) dX9_count_105 rfl ?_
              refine gl_X9_169 C 111 (h0.2.2.1.1 0 (by decide) (by decide)) dX9_count_108 rfl ?_
              refine im_cVP C 114 vk_X2_leases gw_905 (c_X2_leases (b := 0) hU h0.2.2.1.2.2) (h0.2.2.1.2.2 9 (by decide) (by decide)) rfl rfl (rle rfl) rfl (st := []) rfl (Nat.le_of_ble_eq_true rfl) dX9_count_111 rfl (fun o4 => ?_)
              exact im_iret C rfl rfl dX9_count_114
            · refine im_ite (fun s1_6 => ?_) (fun s1_6 => ?_)
              · refine im_tabIn C 115 (y := (6 : Int32)) s1_6 dX9_count_1 (by decide) (by decide) rfl rfl ?_
                refine im_aload_n C 116 0 dX9_count_115 rfl rfl rfl ?_
                refine gl_X9_19 C 119 (h0.1 31 (by decide) (by decide)) dX9_count_116 rfl ?_
                refine gl_X9_284 C 122 (h0.2.2.1.1 0 (by decide) (by decide)) dX9_count_119 rfl ?_
                exact im_iret C rfl rfl dX9_count_122
              · refine im_ite (fun s1_7 => ?_) (fun s1_7 => ?_)
                · refine im_tabIn C 123 (y := (7 : Int32)) s1_7 dX9_count_1 (by decide) (by decide) rfl rfl ?_
                  refine im_aload_n C 124 0 dX9_count_123 rfl rfl rfl ?_
                  refine gl_X9_36 C 127 (h0.1 31 (by decide) (by decide)) dX9_count_124 rfl ?_
                  refine im_aload_n C 128 0 dX9_count_127 rfl rfl rfl ?_
                  refine gl_X9_19 C 131 (h0.1 31 (by decide) (by decide)) dX9_count_128 rfl ?_
                  refine gl_X9_87 C 134 (h0.2.2.1.1 0 (by decide) (by decide)) dX9_count_131 rfl ?_
                  refine im_cVV C 137 vk_X7_take gw_625 (c_X7_take (b := 0) (b1 := 0) hU h0.2.2.2.2.2.1 h0.2.2.1.2.1) (h0.2.2.2.2.2.1.1 16 (by decide) (by decide)) rfl rfl (rle rfl) rfl (st := []) rfl (Nat.le_of_ble_eq_true rfl) dX9_count_134 rfl (fun D5 => ?_)
                  refine im_aload_n C 138 0 dX9_count_137 rfl rfl rfl ?_
                  refine gl_X9_36 C 141 (h0.1 31 (by decide) (by decide)) dX9_count_138 rfl ?_
                  refine gl_X9_122 C 144 (h0.2.2.2.2.2.1.1 16 (by decide) (by decide)) dX9_count_141 rfl ?_
                  refine im_cVP C 147 vk_X0_addresses gw_909 (c_X0_addresses (b := 0) hU h0.2.2.2.2.2.1.2) (h0.2.2.2.2.2.1.2 19 (by decide) (by decide)) rfl rfl (rle rfl) rfl (st := []) rfl (Nat.le_of_ble_eq_true rfl) dX9_count_144 rfl (fun o6 => ?_)
                  exact im_iret C rfl rfl dX9_count_147
                · refine im_ite (fun s1_8 => ?_) (fun s1_8 => ?_)
                  · refine im_tabIn C 148 (y := (8 : Int32)) s1_8 dX9_count_1 (by decide) (by decide) rfl rfl ?_
                    refine im_aload_n C 149 0 dX9_count_148 rfl rfl rfl ?_
                    refine gl_X9_29 C 152 (h0.1 31 (by decide) (by decide)) dX9_count_149 rfl ?_
                    refine gl_X9_290 C 155 (h0.2.2.2.2.1.1 24 (by decide) (by decide)) dX9_count_152 rfl ?_
                    exact im_iret C rfl rfl dX9_count_155
                  · refine im_tabOut C 156 dX9_count_1 (by have a0 := nz s1_0 (n := 0) (by decide); have a1 := nz s1_1 (n := 1) (by decide); have a2 := nz s1_2 (n := 2) (by decide); have a3 := nz s1_3 (n := 3) (by decide); have a4 := nz s1_4 (n := 4) (by decide); have a5 := nz s1_5 (n := 5) (by decide); have a6 := nz s1_6 (n := 6) (by decide); have a7 := nz s1_7 (n := 7) (by decide); have a8 := nz s1_8 (n := 8) (by decide); omega) rfl ?_
                    refine im_iconst C 157 dX9_count_156 rfl k_icm1 ?_
                    exact im_iret C rfl rfl dX9_count_157
set_option maxRecDepth 100000 in
set_option maxHeartbeats 4000000 in
theorem c_X9_routeCount {l : Launch} {G : va_G} {ad : Nat → Nat → Nat} {U : List (Nat × Nat)} {D : Dt} (hU : Uinj ad U) (h0 : PrU U) : MI l G ad U yX9_routeCount cX9_routeCount 1 .int (k2_rm 4 90) [.ref (ad 31 0)] D (f_X9_routeCount D) := by
  refine mI_of0 (lv := [(0, .ref (ad 31 0))]) (by decide) hU rfl (Nat.le_of_ble_eq_true rfl) (fun A p e s m args below meth c C => ?_)
  have C : Cx G ad U A p s m meth c args cX9_routeCount RX9 1 (some .int) := C
  unfold f_X9_routeCount
  refine im_aload_n C 1 0 dX9_routeCount_0 rfl rfl rfl ?_
  refine gl_X9_36 C 4 (h0.1 31 (by decide) (by decide)) dX9_routeCount_1 rfl ?_
  refine im_aload_n C 5 0 dX9_routeCount_4 rfl rfl rfl ?_
  refine gl_X9_19 C 8 (h0.1 31 (by decide) (by decide)) dX9_routeCount_5 rfl ?_
  refine gl_X9_87 C 11 (h0.2.2.1.1 0 (by decide) (by decide)) dX9_routeCount_8 rfl ?_
  refine im_aload_n C 12 0 dX9_routeCount_11 rfl rfl rfl ?_
  refine gl_X9_43 C 15 (h0.1 31 (by decide) (by decide)) dX9_routeCount_12 rfl ?_
  refine im_cVV C 18 vk_X7_listRoutes gw_914 (c_X7_listRoutes (b := 0) (b1 := 0) (b2 := 3) hU h0.2.2.2.2.2.1 h0.2.2.1.2.1 h0.2.2.2.2.2.2.1) (h0.2.2.2.2.2.1.1 16 (by decide) (by decide)) rfl rfl (rle rfl) rfl (st := []) rfl (Nat.le_of_ble_eq_true rfl) dX9_routeCount_15 rfl (fun D1 => ?_)
  refine im_aload_n C 19 0 dX9_routeCount_18 rfl rfl rfl ?_
  refine gl_X9_43 C 22 (h0.1 31 (by decide) (by decide)) dX9_routeCount_19 rfl ?_
  refine gl_X9_297 C 25 (h0.2.2.2.2.2.2.1 19 (by decide) (by decide)) dX9_routeCount_22 rfl ?_
  exact im_iret C rfl rfl dX9_routeCount_25
set_option maxRecDepth 100000 in
set_option maxHeartbeats 4000000 in
theorem c_X9_route {l : Launch} {G : va_G} {ad : Nat → Nat → Nat} {U : List (Nat × Nat)} {D : Dt} {x1 : Int32} {x2 : Int32} (hU : Uinj ad U) (h0 : PrU U) : MI l G ad U yX9_route cX9_route 3 .int (k2_rm 4 90) [.ref (ad 31 0), .int x1, .int x2] D (f_X9_route x1 x2 D) := by
  refine mI_of0 (lv := [(0, .ref (ad 31 0)), (1, .int x1), (2, .int x2)]) (by decide) hU rfl (Nat.le_of_ble_eq_true rfl) (fun A p e s m args below meth c C => ?_)
  have C : Cx G ad U A p s m meth c args cX9_route RX9 3 (some .int) := C
  unfold f_X9_route
  refine im_iload_n C 1 1 dX9_route_0 rfl rfl rfl ?_
  refine im_if_lt C 13 4 dX9_route_1 rfl rfl ?_ ?_
  · refine im_iconst C 14 dX9_route_13 rfl k_icm1 ?_
    exact im_iret C rfl rfl dX9_route_14
  · refine im_iload_n C 5 2 dX9_route_4 rfl rfl rfl ?_
    refine im_iconst C 6 dX9_route_5 rfl k_ic0 ?_
    refine im_iconst C 7 dX9_route_6 rfl k_ic1 ?_
    refine im_cSP C 10 sk_X9_isIn gw_357 (c_X9_isIn (x0 := x2) (x1 := (0 : Int32)) (x2 := (1 : Int32)) hU) (rle rfl) rfl (st := []) rfl (Nat.le_of_ble_eq_true rfl) dX9_route_7 rfl (fun o1 => ?_)
    refine im_if_ne C 15 13 dX9_route_10 rfl rfl ?_ ?_
    · refine im_aload_n C 16 0 dX9_route_15 rfl rfl rfl ?_
      refine gl_X9_36 C 19 (h0.1 31 (by decide) (by decide)) dX9_route_16 rfl ?_
      refine im_aload_n C 20 0 dX9_route_19 rfl rfl rfl ?_
      refine gl_X9_19 C 23 (h0.1 31 (by decide) (by decide)) dX9_route_20 rfl ?_
      refine gl_X9_87 C 26 (h0.2.2.1.1 0 (by decide) (by decide)) dX9_route_23 rfl ?_
      refine im_aload_n C 27 0 dX9_route_26 rfl rfl rfl ?_
      refine gl_X9_43 C 30 (h0.1 31 (by decide) (by decide)) dX9_route_27 rfl ?_
      refine im_cVV C 33 vk_X7_listRoutes gw_914 (c_X7_listRoutes (b := 0) (b1 := 0) (b2 := 3) hU h0.2.2.2.2.2.1 h0.2.2.1.2.1 h0.2.2.2.2.2.2.1) (h0.2.2.2.2.2.1.1 16 (by decide) (by decide)) rfl rfl (rle rfl) rfl (st := []) rfl (Nat.le_of_ble_eq_true rfl) dX9_route_30 rfl (fun D2 => ?_)
      refine im_aload_n C 34 0 dX9_route_33 rfl rfl rfl ?_
      refine gl_X9_43 C 37 (h0.1 31 (by decide) (by decide)) dX9_route_34 rfl ?_
      refine im_iload_n C 38 1 dX9_route_37 rfl rfl rfl ?_
      refine im_cVP C 41 vk_X0_holds gw_922 (c_X0_holds (b := 3) (x1 := x1) hU h0.2.2.2.2.2.2.1) (h0.2.2.2.2.2.2.1 19 (by decide) (by decide)) rfl rfl (rle rfl) rfl (st := []) rfl (Nat.le_of_ble_eq_true rfl) dX9_route_38 rfl (fun o3 => ?_)
      refine im_if_ne C 47 44 dX9_route_41 rfl rfl ?_ ?_
      · refine im_iload_n C 48 2 dX9_route_47 rfl rfl rfl ?_
        refine im_if_ne C 63 51 dX9_route_48 rfl rfl ?_ ?_
        · refine im_aload_n C 64 0 dX9_route_63 rfl rfl rfl ?_
          refine gl_X9_43 C 67 (h0.1 31 (by decide) (by decide)) dX9_route_64 rfl ?_
          refine gl_X9_304 C 70 (h0.2.2.2.2.2.2.1 19 (by decide) (by decide)) dX9_route_67 rfl ?_
          refine im_iload_n C 71 1 dX9_route_70 rfl rfl rfl ?_
          refine im_rdi C 72 292 (h0.2.2.2.2.2.2.1 21 (by decide) (by decide)) rfl dX9_route_71 rfl (fun v4 => ?_)
          exact im_iret C rfl rfl dX9_route_72
        · refine im_aload_n C 52 0 dX9_route_51 rfl rfl rfl ?_
          refine gl_X9_43 C 55 (h0.1 31 (by decide) (by decide)) dX9_route_52 rfl ?_
          refine gl_X9_303 C 58 (h0.2.2.2.2.2.2.1 19 (by decide) (by decide)) dX9_route_55 rfl ?_
          refine im_iload_n C 59 1 dX9_route_58 rfl rfl rfl ?_
          refine im_rdi C 60 292 (h0.2.2.2.2.2.2.1 20 (by decide) (by decide)) rfl dX9_route_59 rfl (fun v5 => ?_)
          refine im_goto C 72 dX9_route_60 rfl ?_
          exact im_iret C rfl rfl dX9_route_72
      · refine im_bipush C 46 dX9_route_44 rfl k_bpm9 ?_
        exact im_iret C rfl rfl dX9_route_46
    · refine im_iconst C 14 dX9_route_13 rfl k_icm1 ?_
      exact im_iret C rfl rfl dX9_route_14
set_option maxRecDepth 100000 in
set_option maxHeartbeats 4000000 in
theorem c_X9_fragmentationAfter {l : Launch} {G : va_G} {ad : Nat → Nat → Nat} {U : List (Nat × Nat)} {D : Dt} {x1 : Int32} (hU : Uinj ad U) (h0 : PrU U) : MI l G ad U yX9_fragmentationAfter cX9_fragmentationAfter 2 .int (k2_rm 5 123) [.ref (ad 31 0), .int x1] D (f_X9_fragmentationAfter x1 D) := by
  refine mI_of0 (lv := [(0, .ref (ad 31 0)), (1, .int x1)]) (by decide) hU rfl (Nat.le_of_ble_eq_true rfl) (fun A p e s m args below meth c C => ?_)
  have C : Cx G ad U A p s m meth c args cX9_fragmentationAfter RX9 2 (some .int) := C
  unfold f_X9_fragmentationAfter
  refine im_iload_n C 1 1 dX9_fragmentationAfter_0 rfl rfl rfl ?_
  refine im_cSP C 4 sk_X9_isNetwork gw_689 (c_X9_isNetwork (x0 := x1) hU) (rle rfl) rfl (st := []) rfl (Nat.le_of_ble_eq_true rfl) dX9_fragmentationAfter_1 rfl (fun o1 => ?_)
  refine im_if_ne C 9 7 dX9_fragmentationAfter_4 rfl rfl ?_ ?_
  · refine im_aload_n C 10 0 dX9_fragmentationAfter_9 rfl rfl rfl ?_
    refine gl_X9_19 C 13 (h0.1 31 (by decide) (by decide)) dX9_fragmentationAfter_10 rfl ?_
    refine gl_X9_87 C 16 (h0.2.2.1.1 0 (by decide) (by decide)) dX9_fragmentationAfter_13 rfl ?_
    refine im_iload_n C 17 1 dX9_fragmentationAfter_16 rfl rfl rfl ?_
    refine im_cVP C 20 vk_X5_isMovable gw_739 (c_X5_isMovable (b := 0) (x1 := x1) hU h0.2.2.1.2.1) (h0.2.2.1.2.1 1 (by decide) (by decide)) rfl rfl (rle rfl) rfl (st := []) rfl (Nat.le_of_ble_eq_true rfl) dX9_fragmentationAfter_17 rfl (fun o2 => ?_)
    refine im_if_ne C 26 23 dX9_fragmentationAfter_20 rfl rfl ?_ ?_
    · refine im_aload_n C 27 0 dX9_fragmentationAfter_26 rfl rfl rfl ?_
      refine gl_X9_59 C 30 (h0.1 31 (by decide) (by decide)) dX9_fragmentationAfter_27 rfl ?_
      refine im_aload_n C 31 0 dX9_fragmentationAfter_30 rfl rfl rfl ?_
      refine gl_X9_19 C 34 (h0.1 31 (by decide) (by decide)) dX9_fragmentationAfter_31 rfl ?_
      refine gl_X9_87 C 37 (h0.2.2.1.1 0 (by decide) (by decide)) dX9_fragmentationAfter_34 rfl ?_
      refine im_cVV C 40 vk_X3_imagine gw_927 (c_X3_imagine (b1 := 0) hU h0.2.2.2.2.2.2.2.2 h0.2.2.1.2.1) (h0.2.2.2.2.2.2.2.2.1 27 (by decide) (by decide)) rfl rfl (rle rfl) rfl (st := []) rfl (Nat.le_of_ble_eq_true rfl) dX9_fragmentationAfter_37 rfl (fun D3 => ?_)
      refine im_aload_n C 41 0 dX9_fragmentationAfter_40 rfl rfl rfl ?_
      refine gl_X9_59 C 44 (h0.1 31 (by decide) (by decide)) dX9_fragmentationAfter_41 rfl ?_
      refine im_iload_n C 45 1 dX9_fragmentationAfter_44 rfl rfl rfl ?_
      refine im_cVI C 48 vk_X3_tryMove gw_933 (c_X3_tryMove (x1 := x1) hU h0.2.2.2.2.2.2.2.2) (h0.2.2.2.2.2.2.2.2.1 27 (by decide) (by decide)) rfl rfl (rle rfl) rfl (st := []) rfl (Nat.le_of_ble_eq_true rfl) dX9_fragmentationAfter_45 rfl (fun o4 => ?_)
      refine im_if_eq C 61 51 dX9_fragmentationAfter_48 rfl rfl ?_ ?_
      · refine im_bipush C 63 dX9_fragmentationAfter_61 rfl k_bpm9 ?_
        exact im_iret C rfl rfl dX9_fragmentationAfter_63
      · refine im_aload_n C 52 0 dX9_fragmentationAfter_51 rfl rfl rfl ?_
        refine gl_X9_59 C 55 (h0.1 31 (by decide) (by decide)) dX9_fragmentationAfter_52 rfl ?_
        refine gl_X9_311 C 58 (h0.2.2.2.2.2.2.2.2.1 27 (by decide) (by decide)) dX9_fragmentationAfter_55 rfl ?_
        refine im_goto C 63 dX9_fragmentationAfter_58 rfl ?_
        exact im_iret C rfl rfl dX9_fragmentationAfter_63
    · refine im_bipush C 25 dX9_fragmentationAfter_23 rfl k_bpm2 ?_
      exact im_iret C rfl rfl dX9_fragmentationAfter_25
  · refine im_iconst C 8 dX9_fragmentationAfter_7 rfl k_icm1 ?_
    exact im_iret C rfl rfl dX9_fragmentationAfter_8
set_option maxRecDepth 100000 in
set_option maxHeartbeats 4000000 in
theorem c_X9_bestMove {l : Launch} {G : va_G} {ad : Nat → Nat → Nat} {U : List (Nat × Nat)} {D : Dt} (hU : Uinj ad U) (h0 : PrU U) : MI l G ad U yX9_bestMove cX9_bestMove 1 .int (k2_rm 6 131) [.ref (ad 31 0)] D (f_X9_bestMove D) := by
  refine mI_of0 (lv := [(0, .ref (ad 31 0))]) (by decide) hU rfl (Nat.le_of_ble_eq_true rfl) (fun A p e s m args below meth c C => ?_)
  have C : Cx G ad U A p s m meth c args cX9_bestMove RX9 1 (some .int) := C
  unfold f_X9_bestMove
  refine im_aload_n C 1 0 dX9_bestMove_0 rfl rfl rfl ?_
  refine gl_X9_59 C 4 (h0.1 31 (by decide) (by decide)) dX9_bestMove_1 rfl ?_
  refine im_aload_n C 5 0 dX9_bestMove_4 rfl rfl rfl ?_
  refine gl_X9_19 C 8 (h0.1 31 (by decide) (by decide)) dX9_bestMove_5 rfl ?_
  refine gl_X9_87 C 11 (h0.2.2.1.1 0 (by decide) (by decide)) dX9_bestMove_8 rfl ?_
  refine im_cVV C 14 vk_X3_imagine gw_927 (c_X3_imagine (b1 := 0) hU h0.2.2.2.2.2.2.2.2 h0.2.2.1.2.1) (h0.2.2.2.2.2.2.2.2.1 27 (by decide) (by decide)) rfl rfl (rle rfl) rfl (st := []) rfl (Nat.le_of_ble_eq_true rfl) dX9_bestMove_11 rfl (fun D1 => ?_)
  refine im_aload_n C 15 0 dX9_bestMove_14 rfl rfl rfl ?_
  refine gl_X9_59 C 18 (h0.1 31 (by decide) (by decide)) dX9_bestMove_15 rfl ?_
  refine im_cVI C 21 vk_X3_findBest gw_943 (c_X3_findBest  hU h0.2.2.2.2.2.2.2.2) (h0.2.2.2.2.2.2.2.2.1 27 (by decide) (by decide)) rfl rfl (rle rfl) rfl (st := []) rfl (Nat.le_of_ble_eq_true rfl) dX9_bestMove_18 rfl (fun o2 => ?_)
  refine im_if_eq C 34 24 dX9_bestMove_21 rfl rfl ?_ ?_
  · refine im_bipush C 36 dX9_bestMove_34 rfl k_bpm9 ?_
    exact im_iret C rfl rfl dX9_bestMove_36
  · refine im_aload_n C 25 0 dX9_bestMove_24 rfl rfl rfl ?_
    refine gl_X9_59 C 28 (h0.1 31 (by decide) (by decide)) dX9_bestMove_25 rfl ?_
    refine gl_X9_318 C 31 (h0.2.2.2.2.2.2.2.2.1 27 (by decide) (by decide)) dX9_bestMove_28 rfl ?_
    refine im_goto C 36 dX9_bestMove_31 rfl ?_
    exact im_iret C rfl rfl dX9_bestMove_36
set_option maxRecDepth 100000 in
set_option maxHeartbeats 4000000 in
theorem c_X9_makePlan {l : Launch} {G : va_G} {ad : Nat → Nat → Nat} {U : List (Nat × Nat)} {D : Dt} {x1 : Int32} (hU : Uinj ad U) (h0 : PrU U) : MI l G ad U yX9_makePlan cX9_makePlan 2 .int (k2_rm 7 154) [.ref (ad 31 0), .int x1] D (f_X9_makePlan x1 D) := by
  refine mI_of0 (lv := [(0, .ref (ad 31 0)), (1, .int x1)]) (by decide) hU rfl (Nat.le_of_ble_eq_true rfl) (fun A p e s m args below meth c C => ?_)
  have C : Cx G ad U A p s m meth c args cX9_makePlan RX9 2 (some .int) := C
  unfold f_X9_makePlan
  refine im_iload_n C 1 1 dX9_makePlan_0 rfl rfl rfl ?_
  refine im_iconst C 2 dX9_makePlan_1 rfl k_ic1 ?_
  refine im_bipush C 4 dX9_makePlan_2 rfl k_bp12 ?_
  refine im_cSP C 7 sk_X9_isIn gw_357 (c_X9_isIn (x0 := x1) (x1 := (1 : Int32)) (x2 := (12 : Int32)) hU) (rle rfl) rfl (st := []) rfl (Nat.le_of_ble_eq_true rfl) dX9_makePlan_4 rfl (fun o1 => ?_)
  refine im_if_ne C 12 10 dX9_makePlan_7 rfl rfl ?_ ?_
  · refine im_aload_n C 13 0 dX9_makePlan_12 rfl rfl rfl ?_
    refine gl_X9_59 C 16 (h0.1 31 (by decide) (by decide)) dX9_makePlan_13 rfl ?_
    refine im_aload_n C 17 0 dX9_makePlan_16 rfl rfl rfl ?_
    refine gl_X9_19 C 20 (h0.1 31 (by decide) (by decide)) dX9_makePlan_17 rfl ?_
    refine gl_X9_87 C 23 (h0.2.2.1.1 0 (by decide) (by decide)) dX9_makePlan_20 rfl ?_
    refine im_iload_n C 24 1 dX9_makePlan_23 rfl rfl rfl ?_
    refine im_cVV C 27 vk_X3_fillPlan gw_953 (c_X3_fillPlan (b1 := 0) (x2 := x1) hU h0.2.2.2.2.2.2.2.2 h0.2.2.1.2.1) (h0.2.2.2.2.2.2.2.2.1 27 (by decide) (by decide)) rfl rfl (rle rfl) rfl (st := []) rfl (Nat.le_of_ble_eq_true rfl) dX9_makePlan_24 rfl (fun D2 => ?_)
    refine im_aload_n C 28 0 dX9_makePlan_27 rfl rfl rfl ?_
    refine gl_X9_59 C 31 (h0.1 31 (by decide) (by decide)) dX9_makePlan_28 rfl ?_
    refine gl_X9_325 C 34 (h0.2.2.2.2.2.2.2.2.1 27 (by decide) (by decide)) dX9_makePlan_31 rfl ?_
    exact im_iret C rfl rfl dX9_makePlan_34
  · refine im_iconst C 11 dX9_makePlan_10 rfl k_icm1 ?_
    exact im_iret C rfl rfl dX9_makePlan_11
set_option maxRecDepth 100000 in
set_option maxHeartbeats 4000000 in
theorem c_X9_plan {l : Launch} {G : va_G} {ad : Nat → Nat → Nat} {U : List (Nat × Nat)} {D : Dt} {x1 : Int32} {x2 : Int32} (hU : Uinj ad U) (h0 : PrU U) : MI l G ad U yX9_plan cX9_plan 3 .int (k2_rm 1 22) [.ref (ad 31 0), .int x1, .int x2] D ((f_X9_plan x1 x2 D).bind (fun r => some (r, D))) := by
  refine mI_of (lv := [(0, .ref (ad 31 0)), (1, .int x1), (2, .int x2)]) (by decide) hU rfl (Nat.le_of_ble_eq_true rfl) (fun A p e s m args below meth c C => ?_)
  have C : Cx G ad U A p s m meth c args cX9_plan RX9 3 (some .int) := C
  unfold f_X9_plan
  refine im_iload_n C 1 1 dX9_plan_0 rfl rfl rfl ?_
  refine im_if_lt C 13 4 dX9_plan_1 rfl rfl ?_ ?_
  · refine im_iconst C 14 dX9_plan_13 rfl k_icm1 ?_
    exact im_iret C rfl rfl dX9_plan_14
  · refine im_iload_n C 5 2 dX9_plan_4 rfl rfl rfl ?_
    refine im_iconst C 6 dX9_plan_5 rfl k_ic0 ?_
    refine im_iconst C 7 dX9_plan_6 rfl k_ic2 ?_
    refine im_cSP C 10 sk_X9_isIn gw_357 (c_X9_isIn (x0 := x2) (x1 := (0 : Int32)) (x2 := (2 : Int32)) hU) (rle rfl) rfl (st := []) rfl (Nat.le_of_ble_eq_true rfl) dX9_plan_7 rfl (fun o1 => ?_)
    refine im_if_ne C 15 13 dX9_plan_10 rfl rfl ?_ ?_
    · refine im_aload_n C 16 0 dX9_plan_15 rfl rfl rfl ?_
      refine gl_X9_59 C 19 (h0.1 31 (by decide) (by decide)) dX9_plan_16 rfl ?_
      refine im_iload_n C 20 1 dX9_plan_19 rfl rfl rfl ?_
      refine im_cVP C 23 vk_X3_isPlanned gw_964 (c_X3_isPlanned (x1 := x1) hU h0.2.2.2.2.2.2.2.2) (h0.2.2.2.2.2.2.2.2.1 27 (by decide) (by decide)) rfl rfl (rle rfl) rfl (st := []) rfl (Nat.le_of_ble_eq_true rfl) dX9_plan_20 rfl (fun o2 => ?_)
      refine im_if_eq C 38 26 dX9_plan_23 rfl rfl ?_ ?_
      · refine im_bipush C 40 dX9_plan_38 rfl k_bpm9 ?_
        exact im_iret C rfl rfl dX9_plan_40
      · refine im_aload_n C 27 0 dX9_plan_26 rfl rfl rfl ?_
        refine gl_X9_59 C 30 (h0.1 31 (by decide) (by decide)) dX9_plan_27 rfl ?_
        refine im_iload_n C 31 1 dX9_plan_30 rfl rfl rfl ?_
        refine im_iload_n C 32 2 dX9_plan_31 rfl rfl rfl ?_
        refine im_cVP C 35 vk_X3_planPart gw_968 (c_X3_planPart (x1 := x1) (x2 := x2) hU h0.2.2.2.2.2.2.2.2) (h0.2.2.2.2.2.2.2.2.1 27 (by decide) (by decide)) rfl rfl (rle rfl) rfl (st := []) rfl (Nat.le_of_ble_eq_true rfl) dX9_plan_32 rfl (fun o3 => ?_)
        refine im_goto C 40 dX9_plan_35 rfl ?_
        exact im_iret C rfl rfl dX9_plan_40
    · refine im_iconst C 14 dX9_plan_13 rfl k_icm1 ?_
      exact im_iret C rfl rfl dX9_plan_14
set_option maxRecDepth 100000 in
set_option maxHeartbeats 4000000 in
theorem c_X9_undo {l : Launch} {G : va_G} {ad : Nat → Nat → Nat} {U : List (Nat × Nat)} {D : Dt} (hU : Uinj ad U) (h0 : PrU U) : MI l G ad U yX9_undo cX9_undo 1 .int (k2_rm 5 146) [.ref (ad 31 0)] D (f_X9_undo D) := by
  refine mI_of0 (lv := [(0, .ref (ad 31 0))]) (by decide) hU rfl (Nat.le_of_ble_eq_true rfl) (fun A p e s m args below meth c C => ?_)
  have C : Cx G ad U A p s m meth c args cX9_undo RX9 1 (some .int) := C
  unfold f_X9_undo
  refine im_aload_n C 1 0 dX9_undo_0 rfl rfl rfl ?_
  refine gl_X9_29 C 4 (h0.1 31 (by decide) (by decide)) dX9_undo_1 rfl ?_
  refine gl_X9_290 C 7 (h0.2.2.2.2.1.1 24 (by decide) (by decide)) dX9_undo_4 rfl ?_
  refine im_if_ne C 13 10 dX9_undo_7 rfl rfl ?_ ?_
  · refine im_aload_n C 14 0 dX9_undo_13 rfl rfl rfl ?_
    refine gl_X9_29 C 17 (h0.1 31 (by decide) (by decide)) dX9_undo_14 rfl ?_
    refine im_aload_n C 18 0 dX9_undo_17 rfl rfl rfl ?_
    refine gl_X9_19 C 21 (h0.1 31 (by decide) (by decide)) dX9_undo_18 rfl ?_
    refine im_cVV C 24 vk_X1_giveBack gw_976 (c_X1_giveBack (b1 := 0) hU h0.2.2.2.2.1 h0.2.2.1) (h0.2.2.2.2.1.1 24 (by decide) (by decide)) rfl rfl (rle rfl) rfl (st := []) rfl (Nat.le_of_ble_eq_true rfl) dX9_undo_21 rfl (fun D1 => ?_)
    refine im_aload_n C 25 0 dX9_undo_24 rfl rfl rfl ?_
    refine gl_X9_29 C 28 (h0.1 31 (by decide) (by decide)) dX9_undo_25 rfl ?_
    refine gl_X9_290 C 31 (h0.2.2.2.2.1.1 24 (by decide) (by decide)) dX9_undo_28 rfl ?_
    exact im_iret C rfl rfl dX9_undo_31
  · refine im_bipush C 12 dX9_undo_10 rfl k_bpm2 ?_
    exact im_iret C rfl rfl dX9_undo_12
