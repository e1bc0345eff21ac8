set_option maxRecDepth 100000 in
set_option maxHeartbeats 4000000 in
theorem c_X10_removePool {l : Launch} {G : va_G} {ad : Nat → Nat → Nat} {U : List (Nat × Nat)} {D : Dt} {x1 : Int32} (hU : Uinj ad U) (h0 : MoU U) : MI l G ad U yX10_removePool cX10_removePool 3 .int (k2_rm 3 68) [.ref (ad 32 0), .int x1] D (f_X10_removePool x1 D) := by
  refine mI_of0 (lv := [(0, .ref (ad 32 0)), (1, .int x1)]) (by decide) hU rfl (Nat.le_of_ble_eq_true rfl) (fun A p e s m args below meth c C => ?_)
  have C : Cx G ad U A p s m meth c args cX10_removePool RX10 3 (some .int) := C
  unfold f_X10_removePool
  refine im_aload_n C 1 0 dX10_removePool_0 rfl rfl rfl ?_
  refine im_iload_n C 2 1 dX10_removePool_1 rfl rfl rfl ?_
  refine im_cVP C 5 vk_X10_isPool gw_1184 (c_X10_isPool (x1 := x1) hU h0) (h0 32 (by decide) (by decide)) rfl rfl (rle rfl) rfl (st := []) rfl (Nat.le_of_ble_eq_true rfl) dX10_removePool_2 rfl (fun o1 => ?_)
  refine im_if_ne C 10 8 dX10_removePool_5 rfl rfl ?_ ?_
  · refine im_aload_n C 11 0 dX10_removePool_10 rfl rfl rfl ?_
    refine im_aload_n C 12 0 dX10_removePool_11 rfl rfl rfl ?_
    refine gl_X10_7 C 15 (h0 32 (by decide) (by decide)) dX10_removePool_12 rfl ?_
    refine im_bipush C 17 dX10_removePool_15 rfl k_bp6 ?_
    refine im_iconst C 18 dX10_removePool_17 rfl k_ic2 ?_
    refine im_iload_n C 19 1 dX10_removePool_18 rfl rfl rfl ?_
    refine im_imul C 20 dX10_removePool_19 rfl ?_
    refine im_iadd C 21 dX10_removePool_20 rfl ?_
    refine im_rdi C 22 170 (h0 33 (by decide) (by decide)) rfl dX10_removePool_21 rfl (fun v2 => ?_)
    refine im_aload_n C 23 0 dX10_removePool_22 rfl rfl rfl ?_
    refine gl_X10_7 C 26 (h0 32 (by decide) (by decide)) dX10_removePool_23 rfl ?_
    refine im_bipush C 28 dX10_removePool_26 rfl k_bp6 ?_
    refine im_iconst C 29 dX10_removePool_28 rfl k_ic2 ?_
    refine im_iload_n C 30 1 dX10_removePool_29 rfl rfl rfl ?_
    refine im_imul C 31 dX10_removePool_30 rfl ?_
    refine im_iadd C 32 dX10_removePool_31 rfl ?_
    refine im_iconst C 33 dX10_removePool_32 rfl k_ic1 ?_
    refine im_iadd C 34 dX10_removePool_33 rfl ?_
    refine im_rdi C 35 170 (h0 33 (by decide) (by decide)) rfl dX10_removePool_34 rfl (fun v3 => ?_)
    refine im_cVP C 38 vk_X10_assignedIn gw_1137 (c_X10_assignedIn (x1 := v2) (x2 := v3) hU h0) (h0 32 (by decide) (by decide)) rfl rfl (rle rfl) rfl (st := []) rfl (Nat.le_of_ble_eq_true rfl) dX10_removePool_35 rfl (fun o4 => ?_)
    refine im_if_le C 44 41 dX10_removePool_38 rfl rfl ?_ ?_
    · refine im_aload_n C 45 0 dX10_removePool_44 rfl rfl rfl ?_
      refine im_cVV C 48 vk_X10_note gw_1172 (c_X10_note  hU h0) (h0 32 (by decide) (by decide)) rfl rfl (rle rfl) rfl (st := []) rfl (Nat.le_of_ble_eq_true rfl) dX10_removePool_45 rfl (fun D5 => ?_)
      refine im_aload_n C 49 0 dX10_removePool_48 rfl rfl rfl ?_
      refine gl_X10_7 C 52 (h0 32 (by decide) (by decide)) dX10_removePool_49 rfl ?_
      refine im_iconst C 53 dX10_removePool_52 rfl k_ic5 ?_
      refine im_dup2 C 54 dX10_removePool_53 rfl rfl rfl ?_
      refine im_rdi C 55 170 (h0 33 (by decide) (by decide)) rfl dX10_removePool_54 rfl (fun v6 => ?_)
      refine im_iconst C 56 dX10_removePool_55 rfl k_ic1 ?_
      refine im_isub C 57 dX10_removePool_56 rfl ?_
      refine im_wri C 58 170 (h0 33 (by decide) (by decide)) (fun _ => rfl) dX10_removePool_57 rfl (fun D7 => ?_)
      refine im_bipush C 60 dX10_removePool_58 rfl k_bp6 ?_
      refine im_iconst C 61 dX10_removePool_60 rfl k_ic2 ?_
      refine im_iload_n C 62 1 dX10_removePool_61 rfl rfl rfl ?_
      refine im_imul C 63 dX10_removePool_62 rfl ?_
      refine im_iadd C 64 dX10_removePool_63 rfl ?_
      refine im_istore_n C 65 [(2, .int ((6 : Int32) + ((2 : Int32) * x1))), (0, .ref (ad 32 0)), (1, .int x1)] dX10_removePool_64 rfl (by decide) rfl rfl ?_
      refine im_sub [1, 0] [(0, .ref (ad 32 0)), (2, .int ((6 : Int32) + ((2 : Int32) * x1)))] rfl ?_
      refine im_lpB l_X10_removePool_65 (fun z65 => [(0, .ref (ad 32 0)), (2, .int z65.1)]) (fun z65 => z65.2) 100 (fun e8 => [(0, .ref (ad 32 0))]) (fun e8 => e8) (fun e8 => ?_) (fun z65 X_z65 hX_z65 hE_z65 => ?_) FU ((6 : Int32) + ((2 : Int32) * x1), D7)
      · refine im_aload_n C 101 0 dX10_removePool_100 rfl rfl rfl ?_
        refine gl_X10_7 C 104 (h0 32 (by decide) (by decide)) dX10_removePool_101 rfl ?_
        refine im_iconst C 105 dX10_removePool_104 rfl k_ic5 ?_
        refine im_rdi C 106 170 (h0 33 (by decide) (by decide)) rfl dX10_removePool_105 rfl (fun v12 => ?_)
        exact im_iret C rfl rfl dX10_removePool_106
      · unfold l_X10_removePool_65
        refine im_iload_n C 66 1 dX10_removePool_65 rfl rfl rfl ?_
        refine im_bipush C 68 dX10_removePool_66 rfl k_bp6 ?_
        refine im_iconst C 69 dX10_removePool_68 rfl k_ic2 ?_
        refine im_aload_n C 70 0 dX10_removePool_69 rfl rfl rfl ?_
        refine gl_X10_7 C 73 (h0 32 (by decide) (by decide)) dX10_removePool_70 rfl ?_
        refine im_iconst C 74 dX10_removePool_73 rfl k_ic5 ?_
        refine im_rdi C 75 170 (h0 33 (by decide) (by decide)) rfl dX10_removePool_74 rfl (fun v9 => ?_)
        refine im_imul C 76 dX10_removePool_75 rfl ?_
        refine im_iadd C 77 dX10_removePool_76 rfl ?_
        refine im_ic_ge C 100 80 dX10_removePool_77 rfl rfl ?_ ?_
        · exact im_sub [0] [(0, .ref (ad 32 0))] rfl (hE_z65 z65.2)
        · refine im_aload_n C 81 0 dX10_removePool_80 rfl rfl rfl ?_
          refine gl_X10_7 C 84 (h0 32 (by decide) (by decide)) dX10_removePool_81 rfl ?_
          refine im_iload_n C 85 1 dX10_removePool_84 rfl rfl rfl ?_
          refine im_aload_n C 86 0 dX10_removePool_85 rfl rfl rfl ?_
          refine gl_X10_7 C 89 (h0 32 (by decide) (by decide)) dX10_removePool_86 rfl ?_
          refine im_iload_n C 90 1 dX10_removePool_89 rfl rfl rfl ?_
          refine im_iconst C 91 dX10_removePool_90 rfl k_ic2 ?_
          refine im_iadd C 92 dX10_removePool_91 rfl ?_
          refine im_rdi C 93 170 (h0 33 (by decide) (by decide)) rfl dX10_removePool_92 rfl (fun v10 => ?_)
          refine im_wri C 94 170 (h0 33 (by decide) (by decide)) (fun _ => rfl) dX10_removePool_93 rfl (fun D11 => ?_)
          refine im_iinc C 97 1 [(2, .int (z65.1 + (1 : Int32))), (0, .ref (ad 32 0))] dX10_removePool_94 rfl (k_inc1) (by decide) rfl rfl ?_
          refine im_goto C 65 dX10_removePool_97 rfl ?_
          exact im_sub [1, 0] [(0, .ref (ad 32 0)), (2, .int (z65.1 + (1 : Int32)))] rfl (hX_z65 (z65.1 + (1 : Int32), D11))
    · refine im_bipush C 43 dX10_removePool_41 rfl k_bpm2 ?_
      exact im_iret C rfl rfl dX10_removePool_43
  · refine im_iconst C 9 dX10_removePool_8 rfl k_icm1 ?_
    exact im_iret C rfl rfl dX10_removePool_9
set_option maxRecDepth 100000 in
set_option maxHeartbeats 4000000 in
theorem c_X10_setPolicy {l : Launch} {G : va_G} {ad : Nat → Nat → Nat} {U : List (Nat × Nat)} {D : Dt} {x1 : Int32} (hU : Uinj ad U) (h0 : MoU U) : MI l G ad U yX10_setPolicy cX10_setPolicy 3 .int (k2_rm 1 22) [.ref (ad 32 0), .int x1] D (f_X10_setPolicy x1 D) := by
  refine mI_of0 (lv := [(0, .ref (ad 32 0)), (1, .int x1)]) (by decide) hU rfl (Nat.le_of_ble_eq_true rfl) (fun A p e s m args below meth c C => ?_)
  have C : Cx G ad U A p s m meth c args cX10_setPolicy RX10 3 (some .int) := C
  unfold f_X10_setPolicy
  refine im_iload_n C 1 1 dX10_setPolicy_0 rfl rfl rfl ?_
  refine im_iconst C 2 dX10_setPolicy_1 rfl k_ic0 ?_
  refine im_iconst C 3 dX10_setPolicy_2 rfl k_ic3 ?_
  refine im_cSP C 6 sk_X10_in gw_1066 (c_X10_in (x0 := x1) (x1 := (0 : Int32)) (x2 := (3 : Int32)) hU) (rle rfl) rfl (st := []) rfl (Nat.le_of_ble_eq_true rfl) dX10_setPolicy_3 rfl (fun o1 => ?_)
  refine im_if_ne C 11 9 dX10_setPolicy_6 rfl rfl ?_ ?_
  · refine im_aload_n C 12 0 dX10_setPolicy_11 rfl rfl rfl ?_
    refine im_cVV C 15 vk_X10_note gw_1172 (c_X10_note  hU h0) (h0 32 (by decide) (by decide)) rfl rfl (rle rfl) rfl (st := []) rfl (Nat.le_of_ble_eq_true rfl) dX10_setPolicy_12 rfl (fun D2 => ?_)
    refine im_aload_n C 16 0 dX10_setPolicy_15 rfl rfl rfl ?_
    refine gl_X10_7 C 19 (h0 32 (by decide) (by decide)) dX10_setPolicy_16 rfl ?_
    refine im_iconst C 20 dX10_setPolicy_19 rfl k_ic3 ?_
    refine im_rdi C 21 170 (h0 33 (by decide) (by decide)) rfl dX10_setPolicy_20 rfl (fun v3 => ?_)
    refine im_istore_n C 22 [(2, .int v3), (0, .ref (ad 32 0)), (1, .int x1)] dX10_setPolicy_21 rfl (by decide) rfl rfl ?_
    refine im_aload_n C 23 1 dX10_setPolicy_22 rfl rfl rfl ?_
    refine gl_X10_7 C 26 (h0 32 (by decide) (by decide)) dX10_setPolicy_23 rfl ?_
    refine im_iconst C 27 dX10_setPolicy_26 rfl k_ic3 ?_
    refine im_iload_n C 28 2 dX10_setPolicy_27 rfl rfl rfl ?_
    refine im_wri C 29 170 (h0 33 (by decide) (by decide)) (fun _ => rfl) dX10_setPolicy_28 rfl (fun D4 => ?_)
    refine im_iload_n C 30 0 dX10_setPolicy_29 rfl rfl rfl ?_
    exact im_iret C rfl rfl dX10_setPolicy_30
  · refine im_iconst C 10 dX10_setPolicy_9 rfl k_icm1 ?_
    exact im_iret C rfl rfl dX10_setPolicy_10
set_option maxRecDepth 100000 in
set_option maxHeartbeats 4000000 in
theorem c_X10_pool {l : Launch} {G : va_G} {ad : Nat → Nat → Nat} {U : List (Nat × Nat)} {D : Dt} {x1 : Int32} {x2 : Int32} (hU : Uinj ad U) (h0 : MoU U) : MI l G ad U yX10_pool cX10_pool 3 .int (k2_rm 4 92) [.ref (ad 32 0), .int x1, .int x2] D (f_X10_pool x1 x2 D) := by
  refine mI_of0 (lv := [(0, .ref (ad 32 0)), (1, .int x1), (2, .int x2)]) (by decide) hU rfl (Nat.le_of_ble_eq_true rfl) (fun A p e s m args below meth c C => ?_)
  have C : Cx G ad U A p s m meth c args cX10_pool RX10 3 (some .int) := C
  unfold f_X10_pool
  refine im_aload_n C 1 0 dX10_pool_0 rfl rfl rfl ?_
  refine im_iload_n C 2 1 dX10_pool_1 rfl rfl rfl ?_
  refine im_cVP C 5 vk_X10_isPool gw_1184 (c_X10_isPool (x1 := x1) hU h0) (h0 32 (by decide) (by decide)) rfl rfl (rle rfl) rfl (st := []) rfl (Nat.le_of_ble_eq_true rfl) dX10_pool_2 rfl (fun o1 => ?_)
  refine im_if_eq C 17 8 dX10_pool_5 rfl rfl ?_ ?_
  · refine im_iconst C 18 dX10_pool_17 rfl k_icm1 ?_
    exact im_iret C rfl rfl dX10_pool_18
  · refine im_iload_n C 9 2 dX10_pool_8 rfl rfl rfl ?_
    refine im_iconst C 10 dX10_pool_9 rfl k_ic0 ?_
    refine im_iconst C 11 dX10_pool_10 rfl k_ic3 ?_
    refine im_cSP C 14 sk_X10_in gw_1066 (c_X10_in (x0 := x2) (x1 := (0 : Int32)) (x2 := (3 : Int32)) hU) (rle rfl) rfl (st := []) rfl (Nat.le_of_ble_eq_true rfl) dX10_pool_11 rfl (fun o2 => ?_)
    refine im_if_ne C 19 17 dX10_pool_14 rfl rfl ?_ ?_
    · refine im_aload_n C 20 0 dX10_pool_19 rfl rfl rfl ?_
      refine im_iconst C 21 dX10_pool_20 rfl k_ic0 ?_
      refine pl_X10_63 C 24 (h0 32 (by decide) (by decide)) dX10_pool_21 rfl (fun D3 => ?_)
      refine im_aload_n C 25 0 dX10_pool_24 rfl rfl rfl ?_
      refine im_iconst C 26 dX10_pool_25 rfl k_ic0 ?_
      refine pl_X10_66 C 29 (h0 32 (by decide) (by decide)) dX10_pool_26 rfl (fun D4 => ?_)
      refine im_aload_n C 30 0 dX10_pool_29 rfl rfl rfl ?_
      refine im_iload_n C 31 1 dX10_pool_30 rfl rfl rfl ?_
      refine im_cVV C 34 vk_X10_findsFree gw_1133 (c_X10_findsFree (x1 := x1) hU h0) (h0 32 (by decide) (by decide)) rfl rfl (rle rfl) rfl (st := []) rfl (Nat.le_of_ble_eq_true rfl) dX10_pool_31 rfl (fun D5 => ?_)
      refine im_iload_n C 35 2 dX10_pool_34 rfl rfl rfl ?_
      refine im_iconst C 36 dX10_pool_35 rfl k_ic2 ?_
      refine im_ic_ge C 55 39 dX10_pool_36 rfl rfl ?_ ?_
      · refine im_iload_n C 56 2 dX10_pool_55 rfl rfl rfl ?_
        refine im_iconst C 57 dX10_pool_56 rfl k_ic2 ?_
        refine im_ic_ne C 67 60 dX10_pool_57 rfl rfl ?_ ?_
        · refine im_aload_n C 68 0 dX10_pool_67 rfl rfl rfl ?_
          refine gl_X10_63 C 71 (h0 32 (by decide) (by decide)) dX10_pool_68 rfl ?_
          exact im_iret C rfl rfl dX10_pool_71
        · refine im_aload_n C 61 0 dX10_pool_60 rfl rfl rfl ?_
          refine gl_X10_66 C 64 (h0 32 (by decide) (by decide)) dX10_pool_61 rfl ?_
          refine im_goto C 71 dX10_pool_64 rfl ?_
          exact im_iret C rfl rfl dX10_pool_71
      · refine im_aload_n C 40 0 dX10_pool_39 rfl rfl rfl ?_
        refine gl_X10_7 C 43 (h0 32 (by decide) (by decide)) dX10_pool_40 rfl ?_
        refine im_bipush C 45 dX10_pool_43 rfl k_bp6 ?_
        refine im_iconst C 46 dX10_pool_45 rfl k_ic2 ?_
        refine im_iload_n C 47 1 dX10_pool_46 rfl rfl rfl ?_
        refine im_imul C 48 dX10_pool_47 rfl ?_
        refine im_iadd C 49 dX10_pool_48 rfl ?_
        refine im_iload_n C 50 2 dX10_pool_49 rfl rfl rfl ?_
        refine im_iadd C 51 dX10_pool_50 rfl ?_
        refine im_rdi C 52 170 (h0 33 (by decide) (by decide)) rfl dX10_pool_51 rfl (fun v6 => ?_)
        refine im_goto C 71 dX10_pool_52 rfl ?_
        exact im_iret C rfl rfl dX10_pool_71
    · refine im_iconst C 18 dX10_pool_17 rfl k_icm1 ?_
      exact im_iret C rfl rfl dX10_pool_18
set_option maxRecDepth 100000 in
set_option maxHeartbeats 4000000 in
theorem c_X10_freeBlocks {l : Launch} {G : va_G} {ad : Nat → Nat → Nat} {U : List (Nat × Nat)} {D : Dt} {x1 : Int32} (hU : Uinj ad U) (h0 : MoU U) : MI l G ad U yX10_freeBlocks cX10_freeBlocks 4 .int (k2_rm 5 113) [.ref (ad 32 0), .int x1] D (f_X10_freeBlocks x1 D) := by
  refine mI_of0 (lv := [(0, .ref (ad 32 0)), (1, .int x1)]) (by decide) hU rfl (Nat.le_of_ble_eq_true rfl) (fun A p e s m args below meth c C => ?_)
  have C : Cx G ad U A p s m meth c args cX10_freeBlocks RX10 4 (some .int) := C
  unfold f_X10_freeBlocks
  refine im_iload_n C 1 1 dX10_freeBlocks_0 rfl rfl rfl ?_
  refine im_iconst C 2 dX10_freeBlocks_1 rfl k_ic0 ?_
  refine im_bipush C 4 dX10_freeBlocks_2 rfl k_bp16 ?_
  refine im_cSP C 7 sk_X10_in gw_1066 (c_X10_in (x0 := x1) (x1 := (0 : Int32)) (x2 := (16 : Int32)) hU) (rle rfl) rfl (st := []) rfl (Nat.le_of_ble_eq_true rfl) dX10_freeBlocks_4 rfl (fun o1 => ?_)
  refine im_if_ne C 12 10 dX10_freeBlocks_7 rfl rfl ?_ ?_
  · refine im_aload_n C 13 0 dX10_freeBlocks_12 rfl rfl rfl ?_
    refine im_cVV C 16 vk_X10_findsAllFree gw_1129 (c_X10_findsAllFree  hU h0) (h0 32 (by decide) (by decide)) rfl rfl (rle rfl) rfl (st := []) rfl (Nat.le_of_ble_eq_true rfl) dX10_freeBlocks_13 rfl (fun D2 => ?_)
    refine im_iconst C 17 dX10_freeBlocks_16 rfl k_ic0 ?_
    refine im_istore_n C 18 [(2, .int (0 : Int32)), (0, .ref (ad 32 0)), (1, .int x1)] dX10_freeBlocks_17 rfl (by decide) rfl rfl ?_
    refine im_iconst C 19 dX10_freeBlocks_18 rfl k_ic0 ?_
    refine im_istore_n C 20 [(3, .int (0 : Int32)), (2, .int (0 : Int32)), (0, .ref (ad 32 0)), (1, .int x1)] dX10_freeBlocks_19 rfl (by decide) rfl rfl ?_
    refine im_sub [2, 3, 1, 0] [(0, .ref (ad 32 0)), (1, .int x1), (2, .int (0 : Int32)), (3, .int (0 : Int32))] rfl ?_
    refine im_lpB (l_X10_freeBlocks_20 x1 D2) (fun z20 => [(0, .ref (ad 32 0)), (1, .int x1), (2, .int z20.1), (3, .int z20.2)]) (fun z20 => D2) 52 (fun e3 => [(2, .int e3)]) (fun e3 => D2) (fun e3 => ?_) (fun z20 X_z20 hX_z20 hE_z20 => ?_) FU ((0 : Int32), (0 : Int32))
    · refine im_iload_n C 53 0 dX10_freeBlocks_52 rfl rfl rfl ?_
      exact im_iret C rfl rfl dX10_freeBlocks_53
    · unfold l_X10_freeBlocks_20
      refine im_iload_n C 21 3 dX10_freeBlocks_20 rfl rfl rfl ?_
      refine im_aload_n C 22 0 dX10_freeBlocks_21 rfl rfl rfl ?_
      refine gl_X10_63 C 25 (h0 32 (by decide) (by decide)) dX10_freeBlocks_22 rfl ?_
      refine im_ic_ge C 52 28 dX10_freeBlocks_25 rfl rfl ?_ ?_
      · exact im_sub [2] [(2, .int z20.1)] rfl (hE_z20 z20.1)
      · refine im_iload_n C 29 2 dX10_freeBlocks_28 rfl rfl rfl ?_
        refine im_aload_n C 30 0 dX10_freeBlocks_29 rfl rfl rfl ?_
        refine gl_X10_26 C 33 (h0 32 (by decide) (by decide)) dX10_freeBlocks_30 rfl ?_
        refine im_iload_n C 34 3 dX10_freeBlocks_33 rfl rfl rfl ?_
        refine im_rdi C 35 800 (h0 38 (by decide) (by decide)) rfl dX10_freeBlocks_34 rfl (fun v4 => ?_)
        refine im_iload_n C 36 1 dX10_freeBlocks_35 rfl rfl rfl ?_
        refine im_ic_ne C 43 39 dX10_freeBlocks_36 rfl rfl ?_ ?_
        · refine im_iconst C 44 dX10_freeBlocks_43 rfl k_ic0 ?_
          refine im_iadd C 45 dX10_freeBlocks_44 rfl ?_
          refine im_istore_n C 46 [(2, .int (z20.1 + (0 : Int32))), (0, .ref (ad 32 0)), (1, .int x1), (3, .int z20.2)] dX10_freeBlocks_45 rfl (by decide) rfl rfl ?_
          refine im_iinc C 49 3 [(3, .int (z20.2 + (1 : Int32))), (2, .int (z20.1 + (0 : Int32))), (0, .ref (ad 32 0)), (1, .int x1)] dX10_freeBlocks_46 rfl (k_inc1) (by decide) rfl rfl ?_
          refine im_goto C 20 dX10_freeBlocks_49 rfl ?_
          exact im_sub [2, 3, 1, 0] [(0, .ref (ad 32 0)), (1, .int x1), (2, .int (z20.1 + (0 : Int32))), (3, .int (z20.2 + (1 : Int32)))] rfl (hX_z20 (z20.1 + (0 : Int32), z20.2 + (1 : Int32)))
        · refine im_iconst C 40 dX10_freeBlocks_39 rfl k_ic1 ?_
          refine im_goto C 44 dX10_freeBlocks_40 rfl ?_
          refine im_iadd C 45 dX10_freeBlocks_44 rfl ?_
          refine im_istore_n C 46 [(2, .int (z20.1 + (1 : Int32))), (0, .ref (ad 32 0)), (1, .int x1), (3, .int z20.2)] dX10_freeBlocks_45 rfl (by decide) rfl rfl ?_
          refine im_iinc C 49 3 [(3, .int (z20.2 + (1 : Int32))), (2, .int (z20.1 + (1 : Int32))), (0, .ref (ad 32 0)), (1, .int x1)] dX10_freeBlocks_46 rfl (k_inc1) (by decide) rfl rfl ?_
          refine im_goto C 20 dX10_freeBlocks_49 rfl ?_
          exact im_sub [2, 3, 1, 0] [(0, .ref (ad 32 0)), (1, .int x1), (2, .int (z20.1 + (1 : Int32))), (3, .int (z20.2 + (1 : Int32)))] rfl (hX_z20 (z20.1 + (1 : Int32), z20.2 + (1 : Int32)))
  · refine im_iconst C 11 dX10_freeBlocks_10 rfl k_icm1 ?_
    exact im_iret C rfl rfl dX10_freeBlocks_11
set_option maxRecDepth 100000 in
set_option maxHeartbeats 4000000 in
theorem c_X10_greatest {l : Launch} {G : va_G} {ad : Nat → Nat → Nat} {U : List (Nat × Nat)} {D : Dt} (hU : Uinj ad U) (h0 : MoU U) : MI l G ad U yX10_greatest cX10_greatest 3 .int (k2_rm 5 113) [.ref (ad 32 0)] D (f_X10_greatest D) := by
  refine mI_of0 (lv := [(0, .ref (ad 32 0))]) (by decide) hU rfl (Nat.le_of_ble_eq_true rfl) (fun A p e s m args below meth c C => ?_)
  have C : Cx G ad U A p s m meth c args cX10_greatest RX10 3 (some .int) := C
  unfold f_X10_greatest
  refine im_aload_n C 1 0 dX10_greatest_0 rfl rfl rfl ?_
  refine im_cVV C 4 vk_X10_findsAllFree gw_1129 (c_X10_findsAllFree  hU h0) (h0 32 (by decide) (by decide)) rfl rfl (rle rfl) rfl (st := []) rfl (Nat.le_of_ble_eq_true rfl) dX10_greatest_1 rfl (fun D1 => ?_)
  refine im_bipush C 6 dX10_greatest_4 rfl k_bpm9 ?_
  refine im_istore_n C 7 [(1, .int (-9 : Int32)), (0, .ref (ad 32 0))] dX10_greatest_6 rfl (by decide) rfl rfl ?_
  refine im_iconst C 8 dX10_greatest_7 rfl k_ic0 ?_
  refine im_istore_n C 9 [(2, .int (0 : Int32)), (1, .int (-9 : Int32)), (0, .ref (ad 32 0))] dX10_greatest_8 rfl (by decide) rfl rfl ?_
  refine im_sub [2, 1, 0] [(0, .ref (ad 32 0)), (1, .int (-9 : Int32)), (2, .int (0 : Int32))] rfl ?_
  refine im_lpB (l_X10_greatest_9 D1) (fun z9 => [(0, .ref (ad 32 0)), (1, .int z9.1), (2, .int z9.2)]) (fun z9 => D1) 50 (fun e2 => [(1, .int e2)]) (fun e2 => D1) (fun e2 => ?_) (fun z9 X_z9 hX_z9 hE_z9 => ?_) FU ((-9 : Int32), (0 : Int32))
  · refine im_iload_n C 51 0 dX10_greatest_50 rfl rfl rfl ?_
    exact im_iret C rfl rfl dX10_greatest_51
  · unfold l_X10_greatest_9
    refine im_iload_n C 10 2 dX10_greatest_9 rfl rfl rfl ?_
    refine im_aload_n C 11 0 dX10_greatest_10 rfl rfl rfl ?_
    refine gl_X10_63 C 14 (h0 32 (by decide) (by decide)) dX10_greatest_11 rfl ?_
    refine im_ic_ge C 50 17 dX10_greatest_14 rfl rfl ?_ ?_
    · exact im_sub [1] [(1, .int z9.1)] rfl (hE_z9 z9.1)
    · refine im_iload_n C 18 1 dX10_greatest_17 rfl rfl rfl ?_
      refine im_bipush C 20 dX10_greatest_18 rfl k_bpm9 ?_
      refine im_ic_eq C 33 23 dX10_greatest_20 rfl rfl ?_ ?_
      · refine im_aload_n C 34 0 dX10_greatest_33 rfl rfl rfl ?_
        refine gl_X10_26 C 37 (h0 32 (by decide) (by decide)) dX10_greatest_34 rfl ?_
        refine im_iload_n C 38 2 dX10_greatest_37 rfl rfl rfl ?_
        refine im_rdi C 39 800 (h0 38 (by decide) (by decide)) rfl dX10_greatest_38 rfl (fun v3 => ?_)
        refine im_goto C 43 dX10_greatest_39 rfl ?_
        refine im_istore_n C 44 [(1, .int v3), (0, .ref (ad 32 0)), (2, .int z9.2)] dX10_greatest_43 rfl (by decide) rfl rfl ?_
        refine im_iinc C 47 2 [(2, .int (z9.2 + (1 : Int32))), (1, .int v3), (0, .ref (ad 32 0))] dX10_greatest_44 rfl (k_inc1) (by decide) rfl rfl ?_
        refine im_goto C 9 dX10_greatest_47 rfl ?_
        exact im_sub [2, 1, 0] [(0, .ref (ad 32 0)), (1, .int v3), (2, .int (z9.2 + (1 : Int32)))] rfl (hX_z9 (v3, z9.2 + (1 : Int32)))
      · refine im_aload_n C 24 0 dX10_greatest_23 rfl rfl rfl ?_
        refine gl_X10_26 C 27 (h0 32 (by decide) (by decide)) dX10_greatest_24 rfl ?_
        refine im_iload_n C 28 2 dX10_greatest_27 rfl rfl rfl ?_
        refine im_rdi C 29 800 (h0 38 (by decide) (by decide)) rfl dX10_greatest_28 rfl (fun v4 => ?_)
        refine im_iload_n C 30 1 dX10_greatest_29 rfl rfl rfl ?_
        refine im_ic_ge C 42 33 dX10_greatest_30 rfl rfl ?_ ?_
        · refine im_iload_n C 43 1 dX10_greatest_42 rfl rfl rfl ?_
          refine im_istore_n C 44 [(1, .int z9.1), (0, .ref (ad 32 0)), (2, .int z9.2)] dX10_greatest_43 rfl (by decide) rfl rfl ?_
          refine im_iinc C 47 2 [(2, .int (z9.2 + (1 : Int32))), (1, .int z9.1), (0, .ref (ad 32 0))] dX10_greatest_44 rfl (k_inc1) (by decide) rfl rfl ?_
          refine im_goto C 9 dX10_greatest_47 rfl ?_
          exact im_sub [2, 1, 0] [(0, .ref (ad 32 0)), (1, .int z9.1), (2, .int (z9.2 + (1 : Int32)))] rfl (hX_z9 (z9.1, z9.2 + (1 : Int32)))
        · refine im_aload_n C 34 0 dX10_greatest_33 rfl rfl rfl ?_
          refine gl_X10_26 C 37 (h0 32 (by decide) (by decide)) dX10_greatest_34 rfl ?_
          refine im_iload_n C 38 2 dX10_greatest_37 rfl rfl rfl ?_
          refine im_rdi C 39 800 (h0 38 (by decide) (by decide)) rfl dX10_greatest_38 rfl (fun v5 => ?_)
          refine im_goto C 43 dX10_greatest_39 rfl ?_
          refine im_istore_n C 44 [(1, .int v5), (0, .ref (ad 32 0)), (2, .int z9.2)] dX10_greatest_43 rfl (by decide) rfl rfl ?_
          refine im_iinc C 47 2 [(2, .int (z9.2 + (1 : Int32))), (1, .int v5), (0, .ref (ad 32 0))] dX10_greatest_44 rfl (k_inc1) (by decide) rfl rfl ?_
          refine im_goto C 9 dX10_greatest_47 rfl ?_
          exact im_sub [2, 1, 0] [(0, .ref (ad 32 0)), (1, .int v5), (2, .int (z9.2 + (1 : Int32)))] rfl (hX_z9 (v5, z9.2 + (1 : Int32)))
set_option maxRecDepth 100000 in
set_option maxHeartbeats 4000000 in
theorem c_X10_largestFree {l : Launch} {G : va_G} {ad : Nat → Nat → Nat} {U : List (Nat × Nat)} {D : Dt} (hU : Uinj ad U) (h0 : MoU U) : MI l G ad U yX10_largestFree cX10_largestFree 1 .int (k2_rm 6 135) [.ref (ad 32 0)] D (f_X10_largestFree D) := by
  refine mI_of0 (lv := [(0, .ref (ad 32 0))]) (by decide) hU rfl (Nat.le_of_ble_eq_true rfl) (fun A p e s m args below meth c C => ?_)
  have C : Cx G ad U A p s m meth c args cX10_largestFree RX10 1 (some .int) := C
  unfold f_X10_largestFree
  refine im_aload_n C 1 0 dX10_largestFree_0 rfl rfl rfl ?_
  refine im_cVI C 4 vk_X10_greatest gw_1204 (c_X10_greatest  hU h0) (h0 32 (by decide) (by decide)) rfl rfl (rle rfl) rfl (st := []) rfl (Nat.le_of_ble_eq_true rfl) dX10_largestFree_1 rfl (fun o1 => ?_)
  exact im_iret C rfl rfl dX10_largestFree_4
set_option maxRecDepth 100000 in
set_option maxHeartbeats 4000000 in
theorem c_X10_capacity {l : Launch} {G : va_G} {ad : Nat → Nat → Nat} {U : List (Nat × Nat)} {D : Dt} {x1 : Int32} (hU : Uinj ad U) (h0 : MoU U) : MI l G ad U yX10_capacity cX10_capacity 4 .int (k2_rm 5 113) [.ref (ad 32 0), .int x1] D (f_X10_capacity x1 D) := by
  refine mI_of0 (lv := [(0, .ref (ad 32 0)), (1, .int x1)]) (by decide) hU rfl (Nat.le_of_ble_eq_true rfl) (fun A p e s m args below meth c C => ?_)
  have C : Cx G ad U A p s m meth c args cX10_capacity RX10 4 (some .int) := C
  unfold f_X10_capacity
  refine im_iload_n C 1 1 dX10_capacity_0 rfl rfl rfl ?_
  refine im_iconst C 2 dX10_capacity_1 rfl k_ic0 ?_
  refine im_bipush C 4 dX10_capacity_2 rfl k_bp16 ?_
  refine im_cSP C 7 sk_X10_in gw_1066 (c_X10_in (x0 := x1) (x1 := (0 : Int32)) (x2 := (16 : Int32)) hU) (rle rfl) rfl (st := []) rfl (Nat.le_of_ble_eq_true rfl) dX10_capacity_4 rfl (fun o1 => ?_)
  refine im_if_ne C 12 10 dX10_capacity_7 rfl rfl ?_ ?_
  · refine im_aload_n C 13 0 dX10_capacity_12 rfl rfl rfl ?_
    refine im_cVV C 16 vk_X10_findsAllFree gw_1129 (c_X10_findsAllFree  hU h0) (h0 32 (by decide) (by decide)) rfl rfl (rle rfl) rfl (st := []) rfl (Nat.le_of_ble_eq_true rfl) dX10_capacity_13 rfl (fun D2 => ?_)
    refine im_iconst C 17 dX10_capacity_16 rfl k_ic0 ?_
    refine im_istore_n C 18 [(2, .int (0 : Int32)), (0, .ref (ad 32 0)), (1, .int x1)] dX10_capacity_17 rfl (by decide) rfl rfl ?_
    refine im_iconst C 19 dX10_capacity_18 rfl k_ic0 ?_
    refine im_istore_n C 20 [(3, .int (0 : Int32)), (2, .int (0 : Int32)), (0, .ref (ad 32 0)), (1, .int x1)] dX10_capacity_19 rfl (by decide) rfl rfl ?_
    refine im_sub [2, 3, 1, 0] [(0, .ref (ad 32 0)), (1, .int x1), (2, .int (0 : Int32)), (3, .int (0 : Int32))] rfl ?_
    refine im_lpB (l_X10_capacity_20 x1 D2) (fun z20 => [(0, .ref (ad 32 0)), (1, .int x1), (2, .int z20.1), (3, .int z20.2)]) (fun z20 => D2) 61 (fun e3 => [(2, .int e3)]) (fun e3 => D2) (fun e3 => ?_) (fun z20 X_z20 hX_z20 hE_z20 => ?_) FU ((0 : Int32), (0 : Int32))
    · refine im_iload_n C 62 0 dX10_capacity_61 rfl rfl rfl ?_
      exact im_iret C rfl rfl dX10_capacity_62
    · unfold l_X10_capacity_20
      refine im_iload_n C 21 3 dX10_capacity_20 rfl rfl rfl ?_
      refine im_aload_n C 22 0 dX10_capacity_21 rfl rfl rfl ?_
      refine gl_X10_63 C 25 (h0 32 (by decide) (by decide)) dX10_capacity_22 rfl ?_
      refine im_ic_ge C 61 28 dX10_capacity_25 rfl rfl ?_ ?_
      · exact im_sub [2] [(2, .int z20.1)] rfl (hE_z20 z20.1)
      · refine im_iload_n C 29 2 dX10_capacity_28 rfl rfl rfl ?_
        refine im_aload_n C 30 0 dX10_capacity_29 rfl rfl rfl ?_
        refine gl_X10_26 C 33 (h0 32 (by decide) (by decide)) dX10_capacity_30 rfl ?_
        refine im_iload_n C 34 3 dX10_capacity_33 rfl rfl rfl ?_
        refine im_rdi C 35 800 (h0 38 (by decide) (by decide)) rfl dX10_capacity_34 rfl (fun v4 => ?_)
        refine im_iload_n C 36 1 dX10_capacity_35 rfl rfl rfl ?_
        refine im_ic_gt C 52 39 dX10_capacity_36 rfl rfl ?_ ?_
        · refine im_iconst C 53 dX10_capacity_52 rfl k_ic0 ?_
          refine im_iadd C 54 dX10_capacity_53 rfl ?_
          refine im_istore_n C 55 [(2, .int (z20.1 + (0 : Int32))), (0, .ref (ad 32 0)), (1, .int x1), (3, .int z20.2)] dX10_capacity_54 rfl (by decide) rfl rfl ?_
          refine im_iinc C 58 3 [(3, .int (z20.2 + (1 : Int32))), (2, .int (z20.1 + (0 : Int32))), (0, .ref (ad 32 0)), (1, .int x1)] dX10_capacity_55 rfl (k_inc1) (by decide) rfl rfl ?_
          refine im_goto C 20 dX10_capacity_58 rfl ?_
          exact im_sub [2, 3, 1, 0] [(0, .ref (ad 32 0)), (1, .int x1), (2, .int (z20.1 + (0 : Int32))), (3, .int (z20.2 + (1 : Int32)))] rfl (hX_z20 (z20.1 + (0 : Int32), z20.2 + (1 : Int32)))
        · refine im_iconst C 40 dX10_capacity_39 rfl k_ic1 ?_
          refine im_iload_n C 41 1 dX10_capacity_40 rfl rfl rfl ?_
          refine im_aload_n C 42 0 dX10_capacity_41 rfl rfl rfl ?_
          refine gl_X10_26 C 45 (h0 32 (by decide) (by decide)) dX10_capacity_42 rfl ?_
          refine im_iload_n C 46 3 dX10_capacity_45 rfl rfl rfl ?_
          refine im_rdi C 47 800 (h0 38 (by decide) (by decide)) rfl dX10_capacity_46 rfl (fun v5 => ?_)
          refine im_isub C 48 dX10_capacity_47 rfl ?_
          refine im_ishl C 49 dX10_capacity_48 rfl ?_
          refine im_goto C 53 dX10_capacity_49 rfl ?_
          refine im_iadd C 54 dX10_capacity_53 rfl ?_
          refine im_letV (fun v6 => ?_)
          refine im_istore_n C 55 [(2, .int v6), (0, .ref (ad 32 0)), (1, .int x1), (3, .int z20.2)] dX10_capacity_54 rfl (by decide) rfl rfl ?_
          refine im_iinc C 58 3 [(3, .int (z20.2 + (1 : Int32))), (2, .int v6), (0, .ref (ad 32 0)), (1, .int x1)] dX10_capacity_55 rfl (k_inc1) (by decide) rfl rfl ?_
          refine im_goto C 20 dX10_capacity_58 rfl ?_
          exact im_sub [2, 3, 1, 0] [(0, .ref (ad 32 0)), (1, .int x1), (2, .int v6), (3, .int (z20.2 + (1 : Int32)))] rfl (hX_z20 (v6, z20.2 + (1 : Int32)))
  · refine im_iconst C 11 dX10_capacity_10 rfl k_icm1 ?_
    exact im_iret C rfl rfl dX10_capacity_11
set_option maxRecDepth 100000 in
set_option maxHeartbeats 4000000 in
theorem c_X10_index {l : Launch} {G : va_G} {ad : Nat → Nat → Nat} {U : List (Nat × Nat)} {D : Dt} (hU : Uinj ad U) (h0 : MoU U) : MI l G ad U yX10_index cX10_index 2 .int (k2_rm 6 135) [.ref (ad 32 0)] D (f_X10_index D) := by
  refine mI_of0 (lv := [(0, .ref (ad 32 0))]) (by decide) hU rfl (Nat.le_of_ble_eq_true rfl) (fun A p e s m args below meth c C => ?_)
  have C : Cx G ad U A p s m meth c args cX10_index RX10 2 (some .int) := C
  unfold f_X10_index
  refine im_aload_n C 1 0 dX10_index_0 rfl rfl rfl ?_
  refine im_cVI C 4 vk_X10_greatest gw_1204 (c_X10_greatest  hU h0) (h0 32 (by decide) (by decide)) rfl rfl (rle rfl) rfl (st := []) rfl (Nat.le_of_ble_eq_true rfl) dX10_index_1 rfl (fun o1 => ?_)
  refine im_istore_n C 5 [(1, .int o1.1), (0, .ref (ad 32 0))] dX10_index_4 rfl (by decide) rfl rfl ?_
  refine im_aload_n C 6 1 dX10_index_5 rfl rfl rfl ?_
  refine gl_X10_66 C 9 (h0 32 (by decide) (by decide)) dX10_index_6 rfl ?_
  refine im_if_ne C 16 12 dX10_index_9 rfl rfl ?_ ?_
  · refine im_sipush C 19 dX10_index_16 rfl k_sp1000 ?_
    refine im_sipush C 22 dX10_index_19 rfl k_sp1000 ?_
    refine im_iload_n C 23 0 dX10_index_22 rfl rfl rfl ?_
    refine im_cSP C 26 sk_X10_size gw_1113 (c_X10_size (x0 := o1.1) hU) (rle rfl) rfl (st := [.int (1000 : Int32), .int (1000 : Int32)]) rfl (Nat.le_of_ble_eq_true rfl) dX10_index_23 rfl (fun o2 => ?_)
    refine im_imul C 27 dX10_index_26 rfl ?_
    refine im_aload_n C 28 1 dX10_index_27 rfl rfl rfl ?_
    refine gl_X10_66 C 31 (h0 32 (by decide) (by decide)) dX10_index_28 rfl ?_
    refine im_idiv C 32 dX10_index_31 rfl ?_
    refine im_isub C 33 dX10_index_32 rfl ?_
    exact im_iret C rfl rfl dX10_index_33
  · refine im_iconst C 13 dX10_index_12 rfl k_ic0 ?_
    refine im_goto C 33 dX10_index_13 rfl ?_
    exact im_iret C rfl rfl dX10_index_33
set_option maxRecDepth 100000 in
set_option maxHeartbeats 4000000 in
theorem c_X10_fragmentation {l : Launch} {G : va_G} {ad : Nat → Nat → Nat} {U : List (Nat × Nat)} {D : Dt} (hU : Uinj ad U) (h0 : MoU U) : MI l G ad U yX10_fragmentation cX10_fragmentation 1 .int (k2_rm 7 156) [.ref (ad 32 0)] D (f_X10_fragmentation D) := by
  refine mI_of0 (lv := [(0, .ref (ad 32 0))]) (by decide) hU rfl (Nat.le_of_ble_eq_true rfl) (fun A p e s m args below meth c C => ?_)
  have C : Cx G ad U A p s m meth c args cX10_fragmentation RX10 1 (some .int) := C
  unfold f_X10_fragmentation
  refine im_aload_n C 1 0 dX10_fragmentation_0 rfl rfl rfl ?_
  refine im_cVI C 4 vk_X10_index gw_1216 (c_X10_index  hU h0) (h0 32 (by decide) (by decide)) rfl rfl (rle rfl) rfl (st := []) rfl (Nat.le_of_ble_eq_true rfl) dX10_fragmentation_1 rfl (fun o1 => ?_)
  exact im_iret C rfl rfl dX10_fragmentation_4
set_option maxRecDepth 100000 in
set_option maxHeartbeats 4000000 in
theorem c_X10_isNet {l : Launch} {G : va_G} {ad : Nat → Nat → Nat} {U : List (Nat × Nat)} {D : Dt} {x0 : Int32} (hU : Uinj ad U) : MI l G ad U yX10_isNet cX10_isNet 1 .boolean (k2_rm 1 22) [.int x0] D ((f_X10_isNet x0 D).bind (fun r => some (r, D))) := by
  refine mI_of (lv := [(0, .int x0)]) (by decide) hU rfl (Nat.le_of_ble_eq_true rfl) (fun A p e s m args below meth c C => ?_)
  have C : Cx G ad U A p s m meth c args cX10_isNet RX10 1 (some .boolean) := C
  unfold f_X10_isNet
  refine im_iload_n C 1 0 dX10_isNet_0 rfl rfl rfl ?_
  refine im_iconst C 2 dX10_isNet_1 rfl k_ic0 ?_
  refine im_bipush C 4 dX10_isNet_2 rfl k_bp11 ?_
  refine im_cSP C 7 sk_X10_in gw_1066 (c_X10_in (x0 := x0) (x1 := (0 : Int32)) (x2 := (11 : Int32)) hU) (rle rfl) rfl (st := []) rfl (Nat.le_of_ble_eq_true rfl) dX10_isNet_4 rfl (fun o1 => ?_)
  refine im_gd (fun hg => ?_)
  exact im_iret C rfl (isb_n hg) dX10_isNet_7
set_option maxRecDepth 100000 in
set_option maxHeartbeats 4000000 in
theorem c_X10_hasBlock {l : Launch} {G : va_G} {ad : Nat → Nat → Nat} {U : List (Nat × Nat)} {D : Dt} {x1 : Int32} (hU : Uinj ad U) (h0 : MoU U) : MI l G ad U yX10_hasBlock cX10_hasBlock 2 .boolean (k2_rm 1 20) [.ref (ad 32 0), .int x1] D ((f_X10_hasBlock x1 D).bind (fun r => some (r, D))) := by
  refine mI_of (lv := [(0, .ref (ad 32 0)), (1, .int x1)]) (by decide) hU rfl (Nat.le_of_ble_eq_true rfl) (fun A p e s m args below meth c C => ?_)
  have C : Cx G ad U A p s m meth c args cX10_hasBlock RX10 2 (some .boolean) := C
  unfold f_X10_hasBlock
  refine im_aload_n C 1 0 dX10_hasBlock_0 rfl rfl rfl ?_
  refine gl_X10_7 C 4 (h0 32 (by decide) (by decide)) dX10_hasBlock_1 rfl ?_
  refine im_iload_n C 5 1 dX10_hasBlock_4 rfl rfl rfl ?_
  refine im_cSP C 8 sk_X10_net gw_990 (c_X10_net (x0 := x1) hU) (rle rfl) rfl (st := [.ref (ad 33 0)]) rfl (Nat.le_of_ble_eq_true rfl) dX10_hasBlock_5 rfl (fun o1 => ?_)
  refine im_rdi C 9 170 (h0 33 (by decide) (by decide)) rfl dX10_hasBlock_8 rfl (fun v2 => ?_)
  refine im_if_lt C 16 12 dX10_hasBlock_9 rfl rfl ?_ ?_
  · refine im_iconst C 17 dX10_hasBlock_16 rfl k_ic0 ?_
    exact im_iret C rfl rfl dX10_hasBlock_17
  · refine im_iconst C 13 dX10_hasBlock_12 rfl k_ic1 ?_
    refine im_goto C 17 dX10_hasBlock_13 rfl ?_
    exact im_iret C rfl rfl dX10_hasBlock_17
set_option maxRecDepth 100000 in
set_option maxHeartbeats 4000000 in
theorem c_X10_hasOld {l : Launch} {G : va_G} {ad : Nat → Nat → Nat} {U : List (Nat × Nat)} {D : Dt} {x1 : Int32} (hU : Uinj ad U) (h0 : MoU U) : MI l G ad U yX10_hasOld cX10_hasOld 2 .boolean (k2_rm 1 20) [.ref (ad 32 0), .int x1] D ((f_X10_hasOld x1 D).bind (fun r => some (r, D))) := by
  refine mI_of (lv := [(0, .ref (ad 32 0)), (1, .int x1)]) (by decide) hU rfl (Nat.le_of_ble_eq_true rfl) (fun A p e s m args below meth c C => ?_)
  have C : Cx G ad U A p s m meth c args cX10_hasOld RX10 2 (some .boolean) := C
  unfold f_X10_hasOld
  refine im_aload_n C 1 0 dX10_hasOld_0 rfl rfl rfl ?_
  refine gl_X10_7 C 4 (h0 32 (by decide) (by decide)) dX10_hasOld_1 rfl ?_
  refine im_iload_n C 5 1 dX10_hasOld_4 rfl rfl rfl ?_
  refine im_cSP C 8 sk_X10_net gw_990 (c_X10_net (x0 := x1) hU) (rle rfl) rfl (st := [.ref (ad 33 0)]) rfl (Nat.le_of_ble_eq_true rfl) dX10_hasOld_5 rfl (fun o1 => ?_)
  refine im_iconst C 9 dX10_hasOld_8 rfl k_ic2 ?_
  refine im_iadd C 10 dX10_hasOld_9 rfl ?_
  refine im_rdi C 11 170 (h0 33 (by decide) (by decide)) rfl dX10_hasOld_10 rfl (fun v2 => ?_)
  refine im_if_lt C 18 14 dX10_hasOld_11 rfl rfl ?_ ?_
  · refine im_iconst C 19 dX10_hasOld_18 rfl k_ic0 ?_
    exact im_iret C rfl rfl dX10_hasOld_19
  · refine im_iconst C 15 dX10_hasOld_14 rfl k_ic1 ?_
    refine im_goto C 19 dX10_hasOld_15 rfl ?_
    exact im_iret C rfl rfl dX10_hasOld_19
set_option maxRecDepth 100000 in
set_option maxHeartbeats 4000000 in
theorem c_X10_assign {l : Launch} {G : va_G} {ad : Nat → Nat → Nat} {U : List (Nat × Nat)} {D : Dt} {x1 : Int32} {x2 : Int32} (hU : Uinj ad U) (h0 : MoU U) : MI l G ad U yX10_assign cX10_assign 4 .int (k2_rm 6 136) [.ref (ad 32 0), .int x1, .int x2] D (f_X10_assign x1 x2 D) := by
  refine mI_of0 (lv := [(0, .ref (ad 32 0)), (1, .int x1), (2, .int x2)]) (by decide) hU rfl (Nat.le_of_ble_eq_true rfl) (fun A p e s m args below meth c C => ?_)
  have C : Cx G ad U A p s m meth c args cX10_assign RX10 4 (some .int) := C
  unfold f_X10_assign
  refine im_iload_n C 1 1 dX10_assign_0 rfl rfl rfl ?_
  refine im_cSP C 4 sk_X10_isNet gw_1224 (c_X10_isNet (x0 := x1) hU) (rle rfl) rfl (st := []) rfl (Nat.le_of_ble_eq_true rfl) dX10_assign_1 rfl (fun o1 => ?_)
  refine im_if_eq C 17 7 dX10_assign_4 rfl rfl ?_ ?_
  · refine im_iconst C 18 dX10_assign_17 rfl k_icm1 ?_
    exact im_iret C rfl rfl dX10_assign_18
  · refine im_iload_n C 8 2 dX10_assign_7 rfl rfl rfl ?_
    refine im_iconst C 9 dX10_assign_8 rfl k_ic5 ?_
    refine im_bipush C 11 dX10_assign_9 rfl k_bp16 ?_
    refine im_cSP C 14 sk_X10_in gw_1066 (c_X10_in (x0 := x2) (x1 := (5 : Int32)) (x2 := (16 : Int32)) hU) (rle rfl) rfl (st := []) rfl (Nat.le_of_ble_eq_true rfl) dX10_assign_11 rfl (fun o2 => ?_)
    refine im_if_ne C 19 17 dX10_assign_14 rfl rfl ?_ ?_
    · refine im_aload_n C 20 0 dX10_assign_19 rfl rfl rfl ?_
      refine im_iload_n C 21 1 dX10_assign_20 rfl rfl rfl ?_
      refine im_cVP C 24 vk_X10_hasBlock gw_1227 (c_X10_hasBlock (x1 := x1) hU h0) (h0 32 (by decide) (by decide)) rfl rfl (rle rfl) rfl (st := []) rfl (Nat.le_of_ble_eq_true rfl) dX10_assign_21 rfl (fun o3 => ?_)
      refine im_if_eq C 30 27 dX10_assign_24 rfl rfl ?_ ?_
      · refine im_aload_n C 31 0 dX10_assign_30 rfl rfl rfl ?_
        refine im_iload_n C 32 2 dX10_assign_31 rfl rfl rfl ?_
        refine im_cVI C 35 vk_X10_places gw_1125 (c_X10_places (x1 := x2) hU h0) (h0 32 (by decide) (by decide)) rfl rfl (rle rfl) rfl (st := []) rfl (Nat.le_of_ble_eq_true rfl) dX10_assign_32 rfl (fun o4 => ?_)
        refine im_istore_n C 36 [(3, .int o4.1), (0, .ref (ad 32 0)), (1, .int x1), (2, .int x2)] dX10_assign_35 rfl (by decide) rfl rfl ?_
        refine im_iload_n C 37 0 dX10_assign_36 rfl rfl rfl ?_
        refine im_if_ge C 43 40 dX10_assign_37 rfl rfl ?_ ?_
        · refine im_aload_n C 44 1 dX10_assign_43 rfl rfl rfl ?_
          refine im_cVV C 47 vk_X10_note gw_1172 (c_X10_note  hU h0) (h0 32 (by decide) (by decide)) rfl rfl (rle rfl) rfl (st := []) rfl (Nat.le_of_ble_eq_true rfl) dX10_assign_44 rfl (fun D5 => ?_)
          refine im_aload_n C 48 1 dX10_assign_47 rfl rfl rfl ?_
          refine gl_X10_7 C 51 (h0 32 (by decide) (by decide)) dX10_assign_48 rfl ?_
          refine im_iload_n C 52 2 dX10_assign_51 rfl rfl rfl ?_
          refine im_cSP C 55 sk_X10_net gw_990 (c_X10_net (x0 := x1) hU) (rle rfl) rfl (st := [.ref (ad 33 0)]) rfl (Nat.le_of_ble_eq_true rfl) dX10_assign_52 rfl (fun o6 => ?_)
          refine im_iload_n C 56 0 dX10_assign_55 rfl rfl rfl ?_
          refine im_wri C 57 170 (h0 33 (by decide) (by decide)) (fun _ => rfl) dX10_assign_56 rfl (fun D7 => ?_)
          refine im_aload_n C 58 1 dX10_assign_57 rfl rfl rfl ?_
          refine gl_X10_7 C 61 (h0 32 (by decide) (by decide)) dX10_assign_58 rfl ?_
          refine im_iload_n C 62 2 dX10_assign_61 rfl rfl rfl ?_
          refine im_cSP C 65 sk_X10_net gw_990 (c_X10_net (x0 := x1) hU) (rle rfl) rfl (st := [.ref (ad 33 0)]) rfl (Nat.le_of_ble_eq_true rfl) dX10_assign_62 rfl (fun o8 => ?_)
          refine im_iconst C 66 dX10_assign_65 rfl k_ic1 ?_
          refine im_iadd C 67 dX10_assign_66 rfl ?_
          refine im_iload_n C 68 3 dX10_assign_67 rfl rfl rfl ?_
          refine im_wri C 69 170 (h0 33 (by decide) (by decide)) (fun _ => rfl) dX10_assign_68 rfl (fun D9 => ?_)
          refine im_iload_n C 70 0 dX10_assign_69 rfl rfl rfl ?_
          exact im_iret C rfl rfl dX10_assign_70
        · refine im_bipush C 42 dX10_assign_40 rfl k_bpm3 ?_
          exact im_iret C rfl rfl dX10_assign_42
      · refine im_bipush C 29 dX10_assign_27 rfl k_bpm2 ?_
        exact im_iret C rfl rfl dX10_assign_29
    · refine im_iconst C 18 dX10_assign_17 rfl k_icm1 ?_
      exact im_iret C rfl rfl dX10_assign_18
set_option maxRecDepth 100000 in
set_option maxHeartbeats 4000000 in
theorem c_X10_hostsOf {l : Launch} {G : va_G} {ad : Nat → Nat → Nat} {U : List (Nat × Nat)} {D : Dt} {x1 : Int32} (hU : Uinj ad U) (h0 : MoU U) : MI l G ad U yX10_hostsOf cX10_hostsOf 4 .int (k2_rm 1 20) [.ref (ad 32 0), .int x1] D ((f_X10_hostsOf x1 D).bind (fun r => some (r, D))) := by
  refine mI_of (lv := [(0, .ref (ad 32 0)), (1, .int x1)]) (by decide) hU rfl (Nat.le_of_ble_eq_true rfl) (fun A p e s m args below meth c C => ?_)
  have C : Cx G ad U A p s m meth c args cX10_hostsOf RX10 4 (some .int) := C
  unfold f_X10_hostsOf
  refine im_iconst C 1 dX10_hostsOf_0 rfl k_ic0 ?_
  refine im_istore_n C 2 [(2, .int (0 : Int32)), (0, .ref (ad 32 0)), (1, .int x1)] dX10_hostsOf_1 rfl (by decide) rfl rfl ?_
  refine im_iconst C 3 dX10_hostsOf_2 rfl k_ic0 ?_
  refine im_istore_n C 4 [(3, .int (0 : Int32)), (2, .int (0 : Int32)), (0, .ref (ad 32 0)), (1, .int x1)] dX10_hostsOf_3 rfl (by decide) rfl rfl ?_
  refine im_sub [2, 3, 1, 0] [(0, .ref (ad 32 0)), (1, .int x1), (2, .int (0 : Int32)), (3, .int (0 : Int32))] rfl ?_
  refine im_lpB (l_X10_hostsOf_4 x1 D) (fun z4 => [(0, .ref (ad 32 0)), (1, .int x1), (2, .int z4.1), (3, .int z4.2)]) (fun z4 => D) 37 (fun e1 => [(2, .int e1)]) (fun e1 => D) (fun e1 => ?_) (fun z4 X_z4 hX_z4 hE_z4 => ?_) FU ((0 : Int32), (0 : Int32))
  · refine im_iload_n C 38 0 dX10_hostsOf_37 rfl rfl rfl ?_
    exact im_iret C rfl rfl dX10_hostsOf_38
  · unfold l_X10_hostsOf_4
    refine im_iload_n C 5 3 dX10_hostsOf_4 rfl rfl rfl ?_
    refine im_bipush C 7 dX10_hostsOf_5 rfl k_bp16 ?_
    refine im_ic_ge C 37 10 dX10_hostsOf_7 rfl rfl ?_ ?_
    · exact im_sub [2] [(2, .int z4.1)] rfl (hE_z4 z4.1)
    · refine im_iload_n C 11 2 dX10_hostsOf_10 rfl rfl rfl ?_
      refine im_aload_n C 12 0 dX10_hostsOf_11 rfl rfl rfl ?_
      refine gl_X10_7 C 15 (h0 32 (by decide) (by decide)) dX10_hostsOf_12 rfl ?_
      refine im_iload_n C 16 3 dX10_hostsOf_15 rfl rfl rfl ?_
      refine im_cSP C 19 sk_X10_hostAt gw_997 (c_X10_hostAt (x0 := z4.2) hU) (rle rfl) rfl (st := [.ref (ad 33 0), .int z4.1]) rfl (Nat.le_of_ble_eq_true rfl) dX10_hostsOf_16 rfl (fun o2 => ?_)
      refine im_rdi C 20 170 (h0 33 (by decide) (by decide)) rfl dX10_hostsOf_19 rfl (fun v3 => ?_)
      refine im_iload_n C 21 1 dX10_hostsOf_20 rfl rfl rfl ?_
      refine im_ic_ne C 28 24 dX10_hostsOf_21 rfl rfl ?_ ?_
      · refine im_iconst C 29 dX10_hostsOf_28 rfl k_ic0 ?_
        refine im_iadd C 30 dX10_hostsOf_29 rfl ?_
        refine im_istore_n C 31 [(2, .int (z4.1 + (0 : Int32))), (0, .ref (ad 32 0)), (1, .int x1), (3, .int z4.2)] dX10_hostsOf_30 rfl (by decide) rfl rfl ?_
        refine im_iinc C 34 3 [(3, .int (z4.2 + (1 : Int32))), (2, .int (z4.1 + (0 : Int32))), (0, .ref (ad 32 0)), (1, .int x1)] dX10_hostsOf_31 rfl (k_inc1) (by decide) rfl rfl ?_
        refine im_goto C 4 dX10_hostsOf_34 rfl ?_
        exact im_sub [2, 3, 1, 0] [(0, .ref (ad 32 0)), (1, .int x1), (2, .int (z4.1 + (0 : Int32))), (3, .int (z4.2 + (1 : Int32)))] rfl (hX_z4 (z4.1 + (0 : Int32), z4.2 + (1 : Int32)))
      · refine im_iconst C 25 dX10_hostsOf_24 rfl k_ic1 ?_
        refine im_goto C 29 dX10_hostsOf_25 rfl ?_
        refine im_iadd C 30 dX10_hostsOf_29 rfl ?_
        refine im_istore_n C 31 [(2, .int (z4.1 + (1 : Int32))), (0, .ref (ad 32 0)), (1, .int x1), (3, .int z4.2)] dX10_hostsOf_30 rfl (by decide) rfl rfl ?_
        refine im_iinc C 34 3 [(3, .int (z4.2 + (1 : Int32))), (2, .int (z4.1 + (1 : Int32))), (0, .ref (ad 32 0)), (1, .int x1)] dX10_hostsOf_31 rfl (k_inc1) (by decide) rfl rfl ?_
        refine im_goto C 4 dX10_hostsOf_34 rfl ?_
        exact im_sub [2, 3, 1, 0] [(0, .ref (ad 32 0)), (1, .int x1), (2, .int (z4.1 + (1 : Int32))), (3, .int (z4.2 + (1 : Int32)))] rfl (hX_z4 (z4.1 + (1 : Int32), z4.2 + (1 : Int32)))
set_option maxRecDepth 100000 in
set_option maxHeartbeats 4000000 in
theorem c_X10_release {l : Launch} {G : va_G} {ad : Nat → Nat → Nat} {U : List (Nat × Nat)} {D : Dt} {x1 : Int32} (hU : Uinj ad U) (h0 : MoU U) : MI l G ad U yX10_release cX10_release 5 .int (k2_rm 2 43) [.ref (ad 32 0), .int x1] D (f_X10_release x1 D) := by
  refine mI_of0 (lv := [(0, .ref (ad 32 0)), (1, .int x1)]) (by decide) hU rfl (Nat.le_of_ble_eq_true rfl) (fun A p e s m args below meth c C => ?_)
  have C : Cx G ad U A p s m meth c args cX10_release RX10 5 (some .int) := C
  unfold f_X10_release
  refine im_iload_n C 1 1 dX10_release_0 rfl rfl rfl ?_
  refine im_cSP C 4 sk_X10_isNet gw_1224 (c_X10_isNet (x0 := x1) hU) (rle rfl) rfl (st := []) rfl (Nat.le_of_ble_eq_true rfl) dX10_release_1 rfl (fun o1 => ?_)
  refine im_if_ne C 9 7 dX10_release_4 rfl rfl ?_ ?_
  · refine im_iconst C 10 dX10_release_9 rfl k_ic0 ?_
    refine im_istore_n C 11 [(2, .int (0 : Int32)), (0, .ref (ad 32 0)), (1, .int x1)] dX10_release_10 rfl (by decide) rfl rfl ?_
    refine im_iconst C 12 dX10_release_11 rfl k_ic0 ?_
    refine im_istore_n C 13 [(3, .int (0 : Int32)), (2, .int (0 : Int32)), (0, .ref (ad 32 0)), (1, .int x1)] dX10_release_12 rfl (by decide) rfl rfl ?_
    refine im_sub [2, 3, 1, 0] [(0, .ref (ad 32 0)), (1, .int x1), (2, .int (0 : Int32)), (3, .int (0 : Int32))] rfl ?_
    refine im_lpB (l_X10_release_13 x1 D) (fun z13 => [(0, .ref (ad 32 0)), (1, .int x1), (2, .int z13.1), (3, .int z13.2)]) (fun z13 => D) 76 (fun e2 => [(0, .ref (ad 32 0)), (1, .int x1), (2, .int e2)]) (fun e2 => D) (fun e2 => ?_) (fun z13 X_z13 hX_z13 hE_z13 => ?_) FU ((0 : Int32), (0 : Int32))
    · refine im_aload_n C 77 0 dX10_release_76 rfl rfl rfl ?_
      refine im_iload_n C 78 1 dX10_release_77 rfl rfl rfl ?_
      refine im_cVP C 81 vk_X10_hasBlock gw_1227 (c_X10_hasBlock (x1 := x1) hU h0) (h0 32 (by decide) (by decide)) rfl rfl (rle rfl) rfl (st := []) rfl (Nat.le_of_ble_eq_true rfl) dX10_release_78 rfl (fun o9 => ?_)
      refine im_if_eq C 88 84 dX10_release_81 rfl rfl ?_ ?_
      · refine im_bipush C 90 dX10_release_88 rfl k_bpm2 ?_
        exact im_iret C rfl rfl dX10_release_90
      · refine im_iload_n C 85 2 dX10_release_84 rfl rfl rfl ?_
        refine im_if_eq C 91 88 dX10_release_85 rfl rfl ?_ ?_
        · refine im_aload_n C 92 0 dX10_release_91 rfl rfl rfl ?_
          refine im_cVV C 95 vk_X10_note gw_1172 (c_X10_note  hU h0) (h0 32 (by decide) (by decide)) rfl rfl (rle rfl) rfl (st := []) rfl (Nat.le_of_ble_eq_true rfl) dX10_release_92 rfl (fun D10 => ?_)
          refine im_aload_n C 96 0 dX10_release_95 rfl rfl rfl ?_
          refine im_iload_n C 97 1 dX10_release_96 rfl rfl rfl ?_
          refine im_cVP C 100 vk_X10_hostsOf gw_1235 (c_X10_hostsOf (x1 := x1) hU h0) (h0 32 (by decide) (by decide)) rfl rfl (rle rfl) rfl (st := []) rfl (Nat.le_of_ble_eq_true rfl) dX10_release_97 rfl (fun o11 => ?_)
          refine im_istore_n C 101 [(3, .int o11), (0, .ref (ad 32 0)), (1, .int x1), (2, .int e2)] dX10_release_100 rfl (by decide) rfl rfl ?_
          refine im_aload_n C 102 1 dX10_release_101 rfl rfl rfl ?_
          refine gl_X10_7 C 105 (h0 32 (by decide) (by decide)) dX10_release_102 rfl ?_
          refine im_iload_n C 106 2 dX10_release_105 rfl rfl rfl ?_
          refine im_cSP C 109 sk_X10_net gw_990 (c_X10_net (x0 := x1) hU) (rle rfl) rfl (st := [.ref (ad 33 0)]) rfl (Nat.le_of_ble_eq_true rfl) dX10_release_106 rfl (fun o12 => ?_)
          refine im_iconst C 110 dX10_release_109 rfl k_icm1 ?_
          refine im_wri C 111 170 (h0 33 (by decide) (by decide)) (fun _ => rfl) dX10_release_110 rfl (fun D13 => ?_)
          refine im_aload_n C 112 1 dX10_release_111 rfl rfl rfl ?_
          refine gl_X10_7 C 115 (h0 32 (by decide) (by decide)) dX10_release_112 rfl ?_
          refine im_iload_n C 116 2 dX10_release_115 rfl rfl rfl ?_
          refine im_cSP C 119 sk_X10_net gw_990 (c_X10_net (x0 := x1) hU) (rle rfl) rfl (st := [.ref (ad 33 0)]) rfl (Nat.le_of_ble_eq_true rfl) dX10_release_116 rfl (fun o14 => ?_)
          refine im_iconst C 120 dX10_release_119 rfl k_ic2 ?_
          refine im_iadd C 121 dX10_release_120 rfl ?_
          refine im_iconst C 122 dX10_release_121 rfl k_icm1 ?_
          refine im_wri C 123 170 (h0 33 (by decide) (by decide)) (fun _ => rfl) dX10_release_122 rfl (fun D15 => ?_)
          refine im_iconst C 124 dX10_release_123 rfl k_ic0 ?_
          refine im_istore C 126 [(4, .int (0 : Int32)), (3, .int o11), (0, .ref (ad 32 0)), (1, .int x1), (2, .int e2)] dX10_release_124 (by decide) rfl rfl ?_
          refine im_sub [2, 3, 1, 0] [(0, .ref (ad 32 0)), (1, .int x1), (3, .int o11), (4, .int (0 : Int32))] rfl ?_
          refine im_lpB (l_X10_release_126 x1) (fun z126 => [(0, .ref (ad 32 0)), (1, .int x1), (3, .int o11), (4, .int z126.1)]) (fun z126 => z126.2) 159 (fun e16 => [(3, .int o11)]) (fun e16 => e16) (fun e16 => ?_) (fun z126 X_z126 hX_z126 hE_z126 => ?_) FU ((0 : Int32), D15)
          · refine im_iload_n C 160 0 dX10_release_159 rfl rfl rfl ?_
            exact im_iret C rfl rfl dX10_release_160
          · unfold l_X10_release_126
            refine im_iload C 128 3 dX10_release_126 rfl rfl ?_
            refine im_bipush C 130 dX10_release_128 rfl k_bp16 ?_
            refine im_ic_ge C 159 133 dX10_release_130 rfl rfl ?_ ?_
            · exact im_sub [2] [(3, .int o11)] rfl (hE_z126 z126.2)
            · refine im_aload_n C 134 0 dX10_release_133 rfl rfl rfl ?_
              refine gl_X10_7 C 137 (h0 32 (by decide) (by decide)) dX10_release_134 rfl ?_
              refine im_iload C 139 3 dX10_release_137 rfl rfl ?_
              refine im_cSP C 142 sk_X10_hostAt gw_997 (c_X10_hostAt (x0 := z126.1) hU) (rle rfl) rfl (st := [.ref (ad 33 0)]) rfl (Nat.le_of_ble_eq_true rfl) dX10_release_139 rfl (fun o17 => ?_)
              refine im_rdi C 143 170 (h0 33 (by decide) (by decide)) rfl dX10_release_142 rfl (fun v18 => ?_)
              refine im_iload_n C 144 1 dX10_release_143 rfl rfl rfl ?_
              refine im_ic_ne C 153 147 dX10_release_144 rfl rfl ?_ ?_
              · refine im_iinc C 156 3 [(4, .int (z126.1 + (1 : Int32))), (0, .ref (ad 32 0)), (1, .int x1), (3, .int o11)] dX10_release_153 rfl (k_inc1) (by decide) rfl rfl ?_
                refine im_goto C 126 dX10_release_156 rfl ?_
                exact im_sub [1, 2, 3, 0] [(0, .ref (ad 32 0)), (1, .int x1), (3, .int o11), (4, .int (z126.1 + (1 : Int32)))] rfl (hX_z126 (z126.1 + (1 : Int32), z126.2))
              · refine im_aload_n C 148 0 dX10_release_147 rfl rfl rfl ?_
                refine im_iload C 150 3 dX10_release_148 rfl rfl ?_
                refine im_cVV C 153 vk_X10_leaves gw_993 (c_X10_leaves (x1 := z126.1) hU h0) (h0 32 (by decide) (by decide)) rfl rfl (rle rfl) rfl (st := []) rfl (Nat.le_of_ble_eq_true rfl) dX10_release_150 rfl (fun D19 => ?_)
                refine im_iinc C 156 3 [(4, .int (z126.1 + (1 : Int32))), (0, .ref (ad 32 0)), (1, .int x1), (3, .int o11)] dX10_release_153 rfl (k_inc1) (by decide) rfl rfl ?_
                refine im_goto C 126 dX10_release_156 rfl ?_
                exact im_sub [1, 2, 3, 0] [(0, .ref (ad 32 0)), (1, .int x1), (3, .int o11), (4, .int (z126.1 + (1 : Int32)))] rfl (hX_z126 (z126.1 + (1 : Int32), D19))
        · refine im_bipush C 90 dX10_release_88 rfl k_bpm2 ?_
          exact im_iret C rfl rfl dX10_release_90
    · unfold l_X10_release_13
      refine im_iload_n C 14 3 dX10_release_13 rfl rfl rfl ?_
      refine im_bipush C 16 dX10_release_14 rfl k_bp16 ?_
      refine im_ic_ge C 76 19 dX10_release_16 rfl rfl ?_ ?_
      · exact im_sub [0, 1, 2] [(0, .ref (ad 32 0)), (1, .int x1), (2, .int z13.1)] rfl (hE_z13 z13.1)
      · refine im_iload_n C 20 2 dX10_release_19 rfl rfl rfl ?_
        refine im_if_ne C 64 23 dX10_release_20 rfl rfl ?_ ?_
        · refine im_iconst C 65 dX10_release_64 rfl k_ic1 ?_
          refine im_goto C 69 dX10_release_65 rfl ?_
          refine im_istore_n C 70 [(2, .int (1 : Int32)), (0, .ref (ad 32 0)), (1, .int x1), (3, .int z13.2)] dX10_release_69 rfl (by decide) rfl rfl ?_
          refine im_iinc C 73 3 [(3, .int (z13.2 + (1 : Int32))), (2, .int (1 : Int32)), (0, .ref (ad 32 0)), (1, .int x1)] dX10_release_70 rfl (k_inc1) (by decide) rfl rfl ?_
          refine im_goto C 13 dX10_release_73 rfl ?_
          exact im_sub [2, 3, 1, 0] [(0, .ref (ad 32 0)), (1, .int x1), (2, .int (1 : Int32)), (3, .int (z13.2 + (1 : Int32)))] rfl (hX_z13 ((1 : Int32), z13.2 + (1 : Int32)))
        · refine im_aload_n C 24 0 dX10_release_23 rfl rfl rfl ?_
          refine gl_X10_7 C 27 (h0 32 (by decide) (by decide)) dX10_release_24 rfl ?_
          refine im_iload_n C 28 3 dX10_release_27 rfl rfl rfl ?_
          refine im_cSP C 31 sk_X10_hostAt gw_997 (c_X10_hostAt (x0 := z13.2) hU) (rle rfl) rfl (st := [.ref (ad 33 0)]) rfl (Nat.le_of_ble_eq_true rfl) dX10_release_28 rfl (fun o3 => ?_)
          refine im_rdi C 32 170 (h0 33 (by decide) (by decide)) rfl dX10_release_31 rfl (fun v4 => ?_)
          refine im_iload_n C 33 1 dX10_release_32 rfl rfl rfl ?_
          refine im_ic_ne C 68 36 dX10_release_33 rfl rfl ?_ ?_
          · refine im_iconst C 69 dX10_release_68 rfl k_ic0 ?_
            refine im_istore_n C 70 [(2, .int (0 : Int32)), (0, .ref (ad 32 0)), (1, .int x1), (3, .int z13.2)] dX10_release_69 rfl (by decide) rfl rfl ?_
            refine im_iinc C 73 3 [(3, .int (z13.2 + (1 : Int32))), (2, .int (0 : Int32)), (0, .ref (ad 32 0)), (1, .int x1)] dX10_release_70 rfl (k_inc1) (by decide) rfl rfl ?_
            refine im_goto C 13 dX10_release_73 rfl ?_
            exact im_sub [2, 3, 1, 0] [(0, .ref (ad 32 0)), (1, .int x1), (2, .int (0 : Int32)), (3, .int (z13.2 + (1 : Int32)))] rfl (hX_z13 ((0 : Int32), z13.2 + (1 : Int32)))
          · refine im_aload_n C 37 0 dX10_release_36 rfl rfl rfl ?_
            refine gl_X10_7 C 40 (h0 32 (by decide) (by decide)) dX10_release_37 rfl ?_
            refine im_iload_n C 41 3 dX10_release_40 rfl rfl rfl ?_
            refine im_cSP C 44 sk_X10_hostAt gw_997 (c_X10_hostAt (x0 := z13.2) hU) (rle rfl) rfl (st := [.ref (ad 33 0)]) rfl (Nat.le_of_ble_eq_true rfl) dX10_release_41 rfl (fun o5 => ?_)
            refine im_iconst C 45 dX10_release_44 rfl k_ic2 ?_
            refine im_iadd C 46 dX10_release_45 rfl ?_
            refine im_rdi C 47 170 (h0 33 (by decide) (by decide)) rfl dX10_release_46 rfl (fun v6 => ?_)
            refine im_if_ge C 64 50 dX10_release_47 rfl rfl ?_ ?_
            · refine im_iconst C 65 dX10_release_64 rfl k_ic1 ?_
              refine im_goto C 69 dX10_release_65 rfl ?_
              refine im_istore_n C 70 [(2, .int (1 : Int32)), (0, .ref (ad 32 0)), (1, .int x1), (3, .int z13.2)] dX10_release_69 rfl (by decide) rfl rfl ?_
              refine im_iinc C 73 3 [(3, .int (z13.2 + (1 : Int32))), (2, .int (1 : Int32)), (0, .ref (ad 32 0)), (1, .int x1)] dX10_release_70 rfl (k_inc1) (by decide) rfl rfl ?_
              refine im_goto C 13 dX10_release_73 rfl ?_
              exact im_sub [2, 3, 1, 0] [(0, .ref (ad 32 0)), (1, .int x1), (2, .int (1 : Int32)), (3, .int (z13.2 + (1 : Int32)))] rfl (hX_z13 ((1 : Int32), z13.2 + (1 : Int32)))
            · refine im_aload_n C 51 0 dX10_release_50 rfl rfl rfl ?_
              refine gl_X10_7 C 54 (h0 32 (by decide) (by decide)) dX10_release_51 rfl ?_
              refine im_iload_n C 55 3 dX10_release_54 rfl rfl rfl ?_
              refine im_cSP C 58 sk_X10_hostAt gw_997 (c_X10_hostAt (x0 := z13.2) hU) (rle rfl) rfl (st := [.ref (ad 33 0)]) rfl (Nat.le_of_ble_eq_true rfl) dX10_release_55 rfl (fun o7 => ?_)
              refine im_iconst C 59 dX10_release_58 rfl k_ic4 ?_
              refine im_iadd C 60 dX10_release_59 rfl ?_
              refine im_rdi C 61 170 (h0 33 (by decide) (by decide)) rfl dX10_release_60 rfl (fun v8 => ?_)
              refine im_if_lt C 68 64 dX10_release_61 rfl rfl ?_ ?_
              · refine im_iconst C 69 dX10_release_68 rfl k_ic0 ?_
                refine im_istore_n C 70 [(2, .int (0 : Int32)), (0, .ref (ad 32 0)), (1, .int x1), (3, .int z13.2)] dX10_release_69 rfl (by decide) rfl rfl ?_
                refine im_iinc C 73 3 [(3, .int (z13.2 + (1 : Int32))), (2, .int (0 : Int32)), (0, .ref (ad 32 0)), (1, .int x1)] dX10_release_70 rfl (k_inc1) (by decide) rfl rfl ?_
                refine im_goto C 13 dX10_release_73 rfl ?_
                exact im_sub [2, 3, 1, 0] [(0, .ref (ad 32 0)), (1, .int x1), (2, .int (0 : Int32)), (3, .int (z13.2 + (1 : Int32)))] rfl (hX_z13 ((0 : Int32), z13.2 + (1 : Int32)))
              · refine im_iconst C 65 dX10_release_64 rfl k_ic1 ?_
                refine im_goto C 69 dX10_release_65 rfl ?_
                refine im_istore_n C 70 [(2, .int (1 : Int32)), (0, .ref (ad 32 0)), (1, .int x1), (3, .int z13.2)] dX10_release_69 rfl (by decide) rfl rfl ?_
                refine im_iinc C 73 3 [(3, .int (z13.2 + (1 : Int32))), (2, .int (1 : Int32)), (0, .ref (ad 32 0)), (1, .int x1)] dX10_release_70 rfl (k_inc1) (by decide) rfl rfl ?_
                refine im_goto C 13 dX10_release_73 rfl ?_
                exact im_sub [2, 3, 1, 0] [(0, .ref (ad 32 0)), (1, .int x1), (2, .int (1 : Int32)), (3, .int (z13.2 + (1 : Int32)))] rfl (hX_z13 ((1 : Int32), z13.2 + (1 : Int32)))
  · refine im_iconst C 8 dX10_release_7 rfl k_icm1 ?_
    exact im_iret C rfl rfl dX10_release_8
set_option maxRecDepth 100000 in
set_option maxHeartbeats 4000000 in
theorem c_X10_canLease {l : Launch} {G : va_G} {ad : Nat → Nat → Nat} {U : List (Nat × Nat)} {D : Dt} {x0 : Int32} {x1 : Int32} {x2 : Int32} (hU : Uinj ad U) : MI l G ad U yX10_canLease cX10_canLease 4 .boolean (k2_rm 1 22) [.int x0, .int x1, .int x2] D ((f_X10_canLease x0 x1 x2 D).bind (fun r => some (r, D))) := by
  refine mI_of (lv := [(0, .int x0), (1, .int x1), (2, .int x2)]) (by decide) hU rfl (Nat.le_of_ble_eq_true rfl) (fun A p e s m args below meth c C => ?_)
  have C : Cx G ad U A p s m meth c args cX10_canLease RX10 4 (some .boolean) := C
  unfold f_X10_canLease
  refine im_iload_n C 1 1 dX10_canLease_0 rfl rfl rfl ?_
  refine im_iload_n C 2 2 dX10_canLease_1 rfl rfl rfl ?_
  refine im_cSP C 5 sk_X10_size gw_1113 (c_X10_size (x0 := x2) hU) (rle rfl) rfl (st := [.int x1]) rfl (Nat.le_of_ble_eq_true rfl) dX10_canLease_2 rfl (fun o1 => ?_)
  refine im_iadd C 6 dX10_canLease_5 rfl ?_
  refine im_iconst C 7 dX10_canLease_6 rfl k_ic1 ?_
  refine im_isub C 8 dX10_canLease_7 rfl ?_
  refine im_istore_n C 9 [(3, .int ((x1 + o1) - (1 : Int32))), (0, .int x0), (1, .int x1), (2, .int x2)] dX10_canLease_8 rfl (by decide) rfl rfl ?_
  refine im_iload_n C 10 1 dX10_canLease_9 rfl rfl rfl ?_
  refine im_iload_n C 11 2 dX10_canLease_10 rfl rfl rfl ?_
  refine im_iload_n C 12 0 dX10_canLease_11 rfl rfl rfl ?_
  refine im_cSP C 15 sk_X10_in gw_1066 (c_X10_in (x0 := x0) (x1 := x1) (x2 := (x1 + o1) - (1 : Int32)) hU) (rle rfl) rfl (st := []) rfl (Nat.le_of_ble_eq_true rfl) dX10_canLease_12 rfl (fun o2 => ?_)
  refine im_if_eq C 40 18 dX10_canLease_15 rfl rfl ?_ ?_
  · refine im_iconst C 41 dX10_canLease_40 rfl k_ic0 ?_
    exact im_iret C rfl rfl dX10_canLease_41
  · refine im_iload_n C 19 3 dX10_canLease_18 rfl rfl rfl ?_
    refine im_cSP C 22 sk_X10_size gw_1113 (c_X10_size (x0 := x2) hU) (rle rfl) rfl (st := []) rfl (Nat.le_of_ble_eq_true rfl) dX10_canLease_19 rfl (fun o3 => ?_)
    refine im_iconst C 23 dX10_canLease_22 rfl k_ic4 ?_
    refine im_ic_lt C 36 26 dX10_canLease_23 rfl rfl ?_ ?_
    · refine im_iconst C 37 dX10_canLease_36 rfl k_ic1 ?_
      refine im_goto C 41 dX10_canLease_37 rfl ?_
      exact im_iret C rfl rfl dX10_canLease_41
    · refine im_iload_n C 27 1 dX10_canLease_26 rfl rfl rfl ?_
      refine im_iload_n C 28 2 dX10_canLease_27 rfl rfl rfl ?_
      refine im_ic_le C 40 31 dX10_canLease_28 rfl rfl ?_ ?_
      · refine im_iconst C 41 dX10_canLease_40 rfl k_ic0 ?_
        exact im_iret C rfl rfl dX10_canLease_41
      · refine im_iload_n C 32 1 dX10_canLease_31 rfl rfl rfl ?_
        refine im_iload_n C 33 0 dX10_canLease_32 rfl rfl rfl ?_
        refine im_ic_ge C 40 36 dX10_canLease_33 rfl rfl ?_ ?_
        · refine im_iconst C 41 dX10_canLease_40 rfl k_ic0 ?_
          exact im_iret C rfl rfl dX10_canLease_41
        · refine im_iconst C 37 dX10_canLease_36 rfl k_ic1 ?_
          refine im_goto C 41 dX10_canLease_37 rfl ?_
          exact im_iret C rfl rfl dX10_canLease_41
set_option maxRecDepth 100000 in
set_option maxHeartbeats 4000000 in
theorem c_X10_isInPool {l : Launch} {G : va_G} {ad : Nat → Nat → Nat} {U : List (Nat × Nat)} {D : Dt} {x1 : Int32} {x2 : Int32} (hU : Uinj ad U) (h0 : MoU U) : MI l G ad U yX10_isInPool cX10_isInPool 6 .boolean (k2_rm 1 20) [.ref (ad 32 0), .int x1, .int x2] D ((f_X10_isInPool x1 x2 D).bind (fun r => some (r, D))) := by
  refine mI_of (lv := [(0, .ref (ad 32 0)), (1, .int x1), (2, .int x2)]) (by decide) hU rfl (Nat.le_of_ble_eq_true rfl) (fun A p e s m args below meth c C => ?_)
  have C : Cx G ad U A p s m meth c args cX10_isInPool RX10 6 (some .boolean) := C
  unfold f_X10_isInPool
  refine im_iconst C 1 dX10_isInPool_0 rfl k_ic0 ?_
  refine im_istore_n C 2 [(3, .int (0 : Int32)), (0, .ref (ad 32 0)), (1, .int x1), (2, .int x2)] dX10_isInPool_1 rfl (by decide) rfl rfl ?_
  refine im_iconst C 3 dX10_isInPool_2 rfl k_ic0 ?_
  refine im_istore C 5 [(4, .int (0 : Int32)), (3, .int (0 : Int32)), (0, .ref (ad 32 0)), (1, .int x1), (2, .int x2)] dX10_isInPool_3 (by decide) rfl rfl ?_
  refine im_sub [2, 3, 4, 1, 0] [(0, .ref (ad 32 0)), (1, .int x1), (2, .int x2), (3, .int (0 : Int32)), (4, .int (0 : Int32))] rfl ?_
  refine im_lpB (l_X10_isInPool_5 x1 x2 D) (fun z5 => [(0, .ref (ad 32 0)), (1, .int x1), (2, .int x2), (3, .int z5.1), (4, .int z5.2)]) (fun z5 => D) 81 (fun e1 => [(3, .int e1)]) (fun e1 => D) (fun e1 => ?_) (fun z5 X_z5 hX_z5 hE_z5 => ?_) FU ((0 : Int32), (0 : Int32))
  · refine im_iload_n C 82 0 dX10_isInPool_81 rfl rfl rfl ?_
    refine im_gd (fun hg => ?_)
    exact im_iret C rfl (isb_n hg) dX10_isInPool_82
  · unfold l_X10_isInPool_5
    refine im_iload C 7 4 dX10_isInPool_5 rfl rfl ?_
    refine im_aload_n C 8 0 dX10_isInPool_7 rfl rfl rfl ?_
    refine gl_X10_7 C 11 (h0 32 (by decide) (by decide)) dX10_isInPool_8 rfl ?_
    refine im_iconst C 12 dX10_isInPool_11 rfl k_ic5 ?_
    refine im_rdi C 13 170 (h0 33 (by decide) (by decide)) rfl dX10_isInPool_12 rfl (fun v2 => ?_)
    refine im_ic_ge C 81 16 dX10_isInPool_13 rfl rfl ?_ ?_
    · exact im_sub [3] [(3, .int z5.1)] rfl (hE_z5 z5.1)
    · refine im_aload_n C 17 0 dX10_isInPool_16 rfl rfl rfl ?_
      refine gl_X10_7 C 20 (h0 32 (by decide) (by decide)) dX10_isInPool_17 rfl ?_
      refine im_bipush C 22 dX10_isInPool_20 rfl k_bp6 ?_
      refine im_iconst C 23 dX10_isInPool_22 rfl k_ic2 ?_
      refine im_iload C 25 4 dX10_isInPool_23 rfl rfl ?_
      refine im_imul C 26 dX10_isInPool_25 rfl ?_
      refine im_iadd C 27 dX10_isInPool_26 rfl ?_
      refine im_rdi C 28 170 (h0 33 (by decide) (by decide)) rfl dX10_isInPool_27 rfl (fun v3 => ?_)
      refine im_istore C 30 [(5, .int v3), (0, .ref (ad 32 0)), (1, .int x1), (2, .int x2), (3, .int z5.1), (4, .int z5.2)] dX10_isInPool_28 (by decide) rfl rfl ?_
      refine im_iload_n C 31 4 dX10_isInPool_30 rfl rfl rfl ?_
      refine im_if_ne C 69 34 dX10_isInPool_31 rfl rfl ?_ ?_
      · refine im_iconst C 70 dX10_isInPool_69 rfl k_ic1 ?_
        refine im_goto C 74 dX10_isInPool_70 rfl ?_
        refine im_istore_n C 75 [(3, .int (1 : Int32)), (5, .int v3), (0, .ref (ad 32 0)), (1, .int x1), (2, .int x2), (4, .int z5.2)] dX10_isInPool_74 rfl (by decide) rfl rfl ?_
        refine im_iinc C 78 5 [(4, .int (z5.2 + (1 : Int32))), (3, .int (1 : Int32)), (5, .int v3), (0, .ref (ad 32 0)), (1, .int x1), (2, .int x2)] dX10_isInPool_75 rfl (k_inc1) (by decide) rfl rfl ?_
        refine im_goto C 5 dX10_isInPool_78 rfl ?_
        exact im_sub [3, 4, 5, 1, 0] [(0, .ref (ad 32 0)), (1, .int x1), (2, .int x2), (3, .int (1 : Int32)), (4, .int (z5.2 + (1 : Int32)))] rfl (hX_z5 ((1 : Int32), z5.2 + (1 : Int32)))
      · refine im_iload_n C 35 2 dX10_isInPool_34 rfl rfl rfl ?_
        refine im_iload C 37 0 dX10_isInPool_35 rfl rfl ?_
        refine im_ic_lt C 73 40 dX10_isInPool_37 rfl rfl ?_ ?_
        · refine im_iconst C 74 dX10_isInPool_73 rfl k_ic0 ?_
          refine im_istore_n C 75 [(3, .int (0 : Int32)), (5, .int v3), (0, .ref (ad 32 0)), (1, .int x1), (2, .int x2), (4, .int z5.2)] dX10_isInPool_74 rfl (by decide) rfl rfl ?_
          refine im_iinc C 78 5 [(4, .int (z5.2 + (1 : Int32))), (3, .int (0 : Int32)), (5, .int v3), (0, .ref (ad 32 0)), (1, .int x1), (2, .int x2)] dX10_isInPool_75 rfl (k_inc1) (by decide) rfl rfl ?_
          refine im_goto C 5 dX10_isInPool_78 rfl ?_
          exact im_sub [3, 4, 5, 1, 0] [(0, .ref (ad 32 0)), (1, .int x1), (2, .int x2), (3, .int (0 : Int32)), (4, .int (z5.2 + (1 : Int32)))] rfl (hX_z5 ((0 : Int32), z5.2 + (1 : Int32)))
        · refine im_iload_n C 41 2 dX10_isInPool_40 rfl rfl rfl ?_
          refine im_iload_n C 42 3 dX10_isInPool_41 rfl rfl rfl ?_
          refine im_cSP C 45 sk_X10_size gw_1113 (c_X10_size (x0 := x2) hU) (rle rfl) rfl (st := [.int x1]) rfl (Nat.le_of_ble_eq_true rfl) dX10_isInPool_42 rfl (fun o4 => ?_)
          refine im_iadd C 46 dX10_isInPool_45 rfl ?_
          refine im_iload C 48 0 dX10_isInPool_46 rfl rfl ?_
          refine im_aload_n C 49 1 dX10_isInPool_48 rfl rfl rfl ?_
          refine gl_X10_7 C 52 (h0 32 (by decide) (by decide)) dX10_isInPool_49 rfl ?_
          refine im_bipush C 54 dX10_isInPool_52 rfl k_bp6 ?_
          refine im_iconst C 55 dX10_isInPool_54 rfl k_ic2 ?_
          refine im_iload C 57 5 dX10_isInPool_55 rfl rfl ?_
          refine im_imul C 58 dX10_isInPool_57 rfl ?_
          refine im_iadd C 59 dX10_isInPool_58 rfl ?_
          refine im_iconst C 60 dX10_isInPool_59 rfl k_ic1 ?_
          refine im_iadd C 61 dX10_isInPool_60 rfl ?_
          refine im_rdi C 62 170 (h0 33 (by decide) (by decide)) rfl dX10_isInPool_61 rfl (fun v5 => ?_)
          refine im_cSP C 65 sk_X10_size gw_1113 (c_X10_size (x0 := v5) hU) (rle rfl) rfl (st := [.int v3, .int (x1 + o4)]) rfl (Nat.le_of_ble_eq_true rfl) dX10_isInPool_62 rfl (fun o6 => ?_)
          refine im_iadd C 66 dX10_isInPool_65 rfl ?_
          refine im_ic_gt C 73 69 dX10_isInPool_66 rfl rfl ?_ ?_
          · refine im_iconst C 74 dX10_isInPool_73 rfl k_ic0 ?_
            refine im_istore_n C 75 [(3, .int (0 : Int32)), (5, .int v3), (0, .ref (ad 32 0)), (1, .int x1), (2, .int x2), (4, .int z5.2)] dX10_isInPool_74 rfl (by decide) rfl rfl ?_
            refine im_iinc C 78 5 [(4, .int (z5.2 + (1 : Int32))), (3, .int (0 : Int32)), (5, .int v3), (0, .ref (ad 32 0)), (1, .int x1), (2, .int x2)] dX10_isInPool_75 rfl (k_inc1) (by decide) rfl rfl ?_
            refine im_goto C 5 dX10_isInPool_78 rfl ?_
            exact im_sub [3, 4, 5, 1, 0] [(0, .ref (ad 32 0)), (1, .int x1), (2, .int x2), (3, .int (0 : Int32)), (4, .int (z5.2 + (1 : Int32)))] rfl (hX_z5 ((0 : Int32), z5.2 + (1 : Int32)))
          · refine im_iconst C 70 dX10_isInPool_69 rfl k_ic1 ?_
            refine im_goto C 74 dX10_isInPool_70 rfl ?_
            refine im_istore_n C 75 [(3, .int (1 : Int32)), (5, .int v3), (0, .ref (ad 32 0)), (1, .int x1), (2, .int x2), (4, .int z5.2)] dX10_isInPool_74 rfl (by decide) rfl rfl ?_
            refine im_iinc C 78 5 [(4, .int (z5.2 + (1 : Int32))), (3, .int (1 : Int32)), (5, .int v3), (0, .ref (ad 32 0)), (1, .int x1), (2, .int x2)] dX10_isInPool_75 rfl (k_inc1) (by decide) rfl rfl ?_
            refine im_goto C 5 dX10_isInPool_78 rfl ?_
            exact im_sub [3, 4, 5, 1, 0] [(0, .ref (ad 32 0)), (1, .int x1), (2, .int x2), (3, .int (1 : Int32)), (4, .int (z5.2 + (1 : Int32)))] rfl (hX_z5 ((1 : Int32), z5.2 + (1 : Int32)))
set_option maxRecDepth 100000 in
set_option maxHeartbeats 4000000 in
theorem c_X10_resize {l : Launch} {G : va_G} {ad : Nat → Nat → Nat} {U : List (Nat × Nat)} {D : Dt} {x1 : Int32} {x2 : Int32} (hU : Uinj ad U) (h0 : MoU U) : MI l G ad U yX10_resize cX10_resize 7 .int (k2_rm 3 68) [.ref (ad 32 0), .int x1, .int x2] D (f_X10_resize x1 x2 D) := by
  refine mI_of0 (lv := [(0, .ref (ad 32 0)), (1, .int x1), (2, .int x2)]) (by decide) hU rfl (Nat.le_of_ble_eq_true rfl) (fun A p e s m args below meth c C => ?_)
  have C : Cx G ad U A p s m meth c args cX10_resize RX10 7 (some .int) := C
  unfold f_X10_resize
  refine im_iload_n C 1 1 dX10_resize_0 rfl rfl rfl ?_
  refine im_cSP C 4 sk_X10_isNet gw_1224 (c_X10_isNet (x0 := x1) hU) (rle rfl) rfl (st := []) rfl (Nat.le_of_ble_eq_true rfl) dX10_resize_1 rfl (fun o1 => ?_)
  refine im_if_eq C 17 7 dX10_resize_4 rfl rfl ?_ ?_
  · refine im_iconst C 18 dX10_resize_17 rfl k_icm1 ?_
    exact im_iret C rfl rfl dX10_resize_18
  · refine im_iload_n C 8 2 dX10_resize_7 rfl rfl rfl ?_
    refine im_iconst C 9 dX10_resize_8 rfl k_ic5 ?_
    refine im_bipush C 11 dX10_resize_9 rfl k_bp16 ?_
    refine im_cSP C 14 sk_X10_in gw_1066 (c_X10_in (x0 := x2) (x1 := (5 : Int32)) (x2 := (16 : Int32)) hU) (rle rfl) rfl (st := []) rfl (Nat.le_of_ble_eq_true rfl) dX10_resize_11 rfl (fun o2 => ?_)
    refine im_if_ne C 19 17 dX10_resize_14 rfl rfl ?_ ?_
    · refine im_iload_n C 20 1 dX10_resize_19 rfl rfl rfl ?_
      refine im_cSP C 23 sk_X10_net gw_990 (c_X10_net (x0 := x1) hU) (rle rfl) rfl (st := []) rfl (Nat.le_of_ble_eq_true rfl) dX10_resize_20 rfl (fun o3 => ?_)
      refine im_istore_n C 24 [(3, .int o3), (0, .ref (ad 32 0)), (1, .int x1), (2, .int x2)] dX10_resize_23 rfl (by decide) rfl rfl ?_
      refine im_aload_n C 25 1 dX10_resize_24 rfl rfl rfl ?_
      refine im_iload_n C 26 2 dX10_resize_25 rfl rfl rfl ?_
      refine im_cVP C 29 vk_X10_hasBlock gw_1227 (c_X10_hasBlock (x1 := x1) hU h0) (h0 32 (by decide) (by decide)) rfl rfl (rle rfl) rfl (st := []) rfl (Nat.le_of_ble_eq_true rfl) dX10_resize_26 rfl (fun o4 => ?_)
      refine im_if_eq C 44 32 dX10_resize_29 rfl rfl ?_ ?_
      · refine im_bipush C 46 dX10_resize_44 rfl k_bpm2 ?_
        exact im_iret C rfl rfl dX10_resize_46
      · refine im_aload_n C 33 1 dX10_resize_32 rfl rfl rfl ?_
        refine gl_X10_7 C 36 (h0 32 (by decide) (by decide)) dX10_resize_33 rfl ?_
        refine im_iload_n C 37 0 dX10_resize_36 rfl rfl rfl ?_
        refine im_iconst C 38 dX10_resize_37 rfl k_ic1 ?_
        refine im_iadd C 39 dX10_resize_38 rfl ?_
        refine im_rdi C 40 170 (h0 33 (by decide) (by decide)) rfl dX10_resize_39 rfl (fun v5 => ?_)
        refine im_iload_n C 41 3 dX10_resize_40 rfl rfl rfl ?_
        refine im_ic_ne C 47 44 dX10_resize_41 rfl rfl ?_ ?_
        · refine im_aload_n C 48 1 dX10_resize_47 rfl rfl rfl ?_
          refine gl_X10_7 C 51 (h0 32 (by decide) (by decide)) dX10_resize_48 rfl ?_
          refine im_iload_n C 52 0 dX10_resize_51 rfl rfl rfl ?_
          refine im_rdi C 53 170 (h0 33 (by decide) (by decide)) rfl dX10_resize_52 rfl (fun v6 => ?_)
          refine im_aload_n C 54 1 dX10_resize_53 rfl rfl rfl ?_
          refine gl_X10_7 C 57 (h0 32 (by decide) (by decide)) dX10_resize_54 rfl ?_
          refine im_iload_n C 58 0 dX10_resize_57 rfl rfl rfl ?_
          refine im_rdi C 59 170 (h0 33 (by decide) (by decide)) rfl dX10_resize_58 rfl (fun v7 => ?_)
          refine im_iload_n C 60 3 dX10_resize_59 rfl rfl rfl ?_
          refine im_cSP C 63 sk_X10_size gw_1113 (c_X10_size (x0 := x2) hU) (rle rfl) rfl (st := [.int v7, .int v6]) rfl (Nat.le_of_ble_eq_true rfl) dX10_resize_60 rfl (fun o8 => ?_)
          refine im_irem C 64 dX10_resize_63 rfl ?_
          refine im_isub C 65 dX10_resize_64 rfl ?_
          refine im_istore C 67 [(4, .int (v6 - (v7 - v7 / o8 * o8))), (3, .int o3), (0, .ref (ad 32 0)), (1, .int x1), (2, .int x2)] dX10_resize_65 (by decide) rfl rfl ?_
          refine im_iload_n C 68 4 dX10_resize_67 rfl rfl rfl ?_
          refine im_aload_n C 69 2 dX10_resize_68 rfl rfl rfl ?_
          refine gl_X10_7 C 72 (h0 32 (by decide) (by decide)) dX10_resize_69 rfl ?_
          refine im_iload_n C 73 1 dX10_resize_72 rfl rfl rfl ?_
          refine im_iconst C 74 dX10_resize_73 rfl k_ic1 ?_
          refine im_iadd C 75 dX10_resize_74 rfl ?_
          refine im_rdi C 76 170 (h0 33 (by decide) (by decide)) rfl dX10_resize_75 rfl (fun v9 => ?_)
          refine im_ic_ge C 113 79 dX10_resize_76 rfl rfl ?_ ?_
          · refine im_iconst C 114 dX10_resize_113 rfl k_ic0 ?_
            refine im_istore C 116 [(5, .int (0 : Int32)), (4, .int (v6 - (v7 - v7 / o8 * o8))), (3, .int o3), (0, .ref (ad 32 0)), (1, .int x1), (2, .int x2)] dX10_resize_114 (by decide) rfl rfl ?_
            refine im_sub [3, 4, 5, 2, 1, 0] [(0, .ref (ad 32 0)), (1, .int x1), (2, .int x2), (3, .int o3), (4, .int (v6 - (v7 - v7 / o8 * o8))), (5, .int (0 : Int32))] rfl ?_
            refine im_lpI (l_X10_resize_116 x1 x2 D o3 v6 v7 o8) (fun z116 => [(0, .ref (ad 32 0)), (1, .int x1), (2, .int x2), (3, .int o3), (4, .int (v6 - (v7 - v7 / o8 * o8))), (5, .int z116)]) (fun z116 => D) (fun z116 X_z116 hX_z116 => ?_) FU (0 : Int32)
            unfold l_X10_resize_116
            refine im_iload C 118 5 dX10_resize_116 rfl rfl ?_
            refine im_bipush C 120 dX10_resize_118 rfl k_bp16 ?_
            refine im_ic_ge C 176 123 dX10_resize_120 rfl rfl ?_ ?_
            · refine im_aload_n C 177 0 dX10_resize_176 rfl rfl rfl ?_
              refine im_cVV C 180 vk_X10_note gw_1172 (c_X10_note  hU h0) (h0 32 (by decide) (by decide)) rfl rfl (rle rfl) rfl (st := []) rfl (Nat.le_of_ble_eq_true rfl) dX10_resize_177 rfl (fun D10 => ?_)
              refine im_aload_n C 181 0 dX10_resize_180 rfl rfl rfl ?_
              refine gl_X10_7 C 184 (h0 32 (by decide) (by decide)) dX10_resize_181 rfl ?_
              refine im_iload_n C 185 3 dX10_resize_184 rfl rfl rfl ?_
              refine im_iload C 187 4 dX10_resize_185 rfl rfl ?_
              refine im_wri C 188 170 (h0 33 (by decide) (by decide)) (fun _ => rfl) dX10_resize_187 rfl (fun D11 => ?_)
              refine im_aload_n C 189 0 dX10_resize_188 rfl rfl rfl ?_
              refine gl_X10_7 C 192 (h0 32 (by decide) (by decide)) dX10_resize_189 rfl ?_
              refine im_iload_n C 193 3 dX10_resize_192 rfl rfl rfl ?_
              refine im_iconst C 194 dX10_resize_193 rfl k_ic1 ?_
              refine im_iadd C 195 dX10_resize_194 rfl ?_
              refine im_iload_n C 196 2 dX10_resize_195 rfl rfl rfl ?_
              refine im_wri C 197 170 (h0 33 (by decide) (by decide)) (fun _ => rfl) dX10_resize_196 rfl (fun D12 => ?_)
              refine im_iload C 199 4 dX10_resize_197 rfl rfl ?_
              exact im_iret C rfl rfl dX10_resize_199
            · refine im_aload_n C 124 0 dX10_resize_123 rfl rfl rfl ?_
              refine gl_X10_7 C 127 (h0 32 (by decide) (by decide)) dX10_resize_124 rfl ?_
              refine im_iload C 129 5 dX10_resize_127 rfl rfl ?_
              refine im_cSP C 132 sk_X10_hostAt gw_997 (c_X10_hostAt (x0 := z116) hU) (rle rfl) rfl (st := [.ref (ad 33 0)]) rfl (Nat.le_of_ble_eq_true rfl) dX10_resize_129 rfl (fun o13 => ?_)
              refine im_iconst C 133 dX10_resize_132 rfl k_ic2 ?_
              refine im_iadd C 134 dX10_resize_133 rfl ?_
              refine im_rdi C 135 170 (h0 33 (by decide) (by decide)) rfl dX10_resize_134 rfl (fun v14 => ?_)
              refine im_istore C 137 [(6, .int v14), (0, .ref (ad 32 0)), (1, .int x1), (2, .int x2), (3, .int o3), (4, .int (v6 - (v7 - v7 / o8 * o8))), (5, .int z116)] dX10_resize_135 (by decide) rfl rfl ?_
              refine im_aload_n C 138 1 dX10_resize_137 rfl rfl rfl ?_
              refine gl_X10_7 C 141 (h0 32 (by decide) (by decide)) dX10_resize_138 rfl ?_
              refine im_iload C 143 6 dX10_resize_141 rfl rfl ?_
              refine im_cSP C 146 sk_X10_hostAt gw_997 (c_X10_hostAt (x0 := z116) hU) (rle rfl) rfl (st := [.ref (ad 33 0)]) rfl (Nat.le_of_ble_eq_true rfl) dX10_resize_143 rfl (fun o15 => ?_)
              refine im_rdi C 147 170 (h0 33 (by decide) (by decide)) rfl dX10_resize_146 rfl (fun v16 => ?_)
              refine im_iload_n C 148 2 dX10_resize_147 rfl rfl rfl ?_
              refine im_ic_ne C 170 151 dX10_resize_148 rfl rfl ?_ ?_
              · refine im_iinc C 173 6 [(5, .int (z116 + (1 : Int32))), (6, .int v14), (0, .ref (ad 32 0)), (1, .int x1), (2, .int x2), (3, .int o3), (4, .int (v6 - (v7 - v7 / o8 * o8)))] dX10_resize_170 rfl (k_inc1) (by decide) rfl rfl ?_
                refine im_goto C 116 dX10_resize_173 rfl ?_
                exact im_sub [2, 3, 4, 5, 6, 0] [(0, .ref (ad 32 0)), (1, .int x1), (2, .int x2), (3, .int o3), (4, .int (v6 - (v7 - v7 / o8 * o8))), (5, .int (z116 + (1 : Int32)))] rfl (hX_z116 (z116 + (1 : Int32)))
              · refine im_iload C 153 0 dX10_resize_151 rfl rfl ?_
                refine im_if_lt C 170 156 dX10_resize_153 rfl rfl ?_ ?_
                · refine im_iinc C 173 6 [(5, .int (z116 + (1 : Int32))), (6, .int v14), (0, .ref (ad 32 0)), (1, .int x1), (2, .int x2), (3, .int o3), (4, .int (v6 - (v7 - v7 / o8 * o8)))] dX10_resize_170 rfl (k_inc1) (by decide) rfl rfl ?_
                  refine im_goto C 116 dX10_resize_173 rfl ?_
                  exact im_sub [2, 3, 4, 5, 6, 0] [(0, .ref (ad 32 0)), (1, .int x1), (2, .int x2), (3, .int o3), (4, .int (v6 - (v7 - v7 / o8 * o8))), (5, .int (z116 + (1 : Int32)))] rfl (hX_z116 (z116 + (1 : Int32)))
                · refine im_iload C 158 0 dX10_resize_156 rfl rfl ?_
                  refine im_iload C 160 5 dX10_resize_158 rfl rfl ?_
                  refine im_iload_n C 161 3 dX10_resize_160 rfl rfl rfl ?_
                  refine im_cSP C 164 sk_X10_canLease gw_1247 (c_X10_canLease (x0 := v14) (x1 := v6 - (v7 - v7 / o8 * o8)) (x2 := x2) hU) (rle rfl) rfl (st := []) rfl (Nat.le_of_ble_eq_true rfl) dX10_resize_161 rfl (fun o17 => ?_)
                  refine im_if_ne C 170 167 dX10_resize_164 rfl rfl ?_ ?_
                  · refine im_iinc C 173 6 [(5, .int (z116 + (1 : Int32))), (6, .int v14), (0, .ref (ad 32 0)), (1, .int x1), (2, .int x2), (3, .int o3), (4, .int (v6 - (v7 - v7 / o8 * o8)))] dX10_resize_170 rfl (k_inc1) (by decide) rfl rfl ?_
                    refine im_goto C 116 dX10_resize_173 rfl ?_
                    exact im_sub [2, 3, 4, 5, 6, 0] [(0, .ref (ad 32 0)), (1, .int x1), (2, .int x2), (3, .int o3), (4, .int (v6 - (v7 - v7 / o8 * o8))), (5, .int (z116 + (1 : Int32)))] rfl (hX_z116 (z116 + (1 : Int32)))
                  · refine im_bipush C 169 dX10_resize_167 rfl k_bpm2 ?_
                    exact im_iret C rfl rfl dX10_resize_169
          · refine im_aload_n C 80 2 dX10_resize_79 rfl rfl rfl ?_
            refine im_iload C 82 0 dX10_resize_80 rfl rfl ?_
            refine im_iload_n C 83 4 dX10_resize_82 rfl rfl rfl ?_
            refine im_cVP C 86 vk_X10_isInPool gw_1243 (c_X10_isInPool (x1 := v6 - (v7 - v7 / o8 * o8)) (x2 := x2) hU h0) (h0 32 (by decide) (by decide)) rfl rfl (rle rfl) rfl (st := []) rfl (Nat.le_of_ble_eq_true rfl) dX10_resize_83 rfl (fun o18 => ?_)
            refine im_if_eq C 110 89 dX10_resize_86 rfl rfl ?_ ?_
            · refine im_bipush C 112 dX10_resize_110 rfl k_bpm2 ?_
              exact im_iret C rfl rfl dX10_resize_112
            · refine im_aload_n C 90 2 dX10_resize_89 rfl rfl rfl ?_
              refine im_iload C 92 0 dX10_resize_90 rfl rfl ?_
              refine im_iload_n C 93 4 dX10_resize_92 rfl rfl rfl ?_
              refine im_cVP C 96 vk_X10_assignedIn gw_1137 (c_X10_assignedIn (x1 := v6 - (v7 - v7 / o8 * o8)) (x2 := x2) hU h0) (h0 32 (by decide) (by decide)) rfl rfl (rle rfl) rfl (st := []) rfl (Nat.le_of_ble_eq_true rfl) dX10_resize_93 rfl (fun o19 => ?_)
              refine im_aload_n C 97 2 dX10_resize_96 rfl rfl rfl ?_
              refine gl_X10_7 C 100 (h0 32 (by decide) (by decide)) dX10_resize_97 rfl ?_
              refine im_iload_n C 101 1 dX10_resize_100 rfl rfl rfl ?_
              refine im_iconst C 102 dX10_resize_101 rfl k_ic1 ?_
              refine im_iadd C 103 dX10_resize_102 rfl ?_
              refine im_rdi C 104 170 (h0 33 (by decide) (by decide)) rfl dX10_resize_103 rfl (fun v20 => ?_)
              refine im_cSP C 107 sk_X10_size gw_1113 (c_X10_size (x0 := v20) hU) (rle rfl) rfl (st := [.int o19]) rfl (Nat.le_of_ble_eq_true rfl) dX10_resize_104 rfl (fun o21 => ?_)
              refine im_ic_le C 113 110 dX10_resize_107 rfl rfl ?_ ?_
              · refine im_iconst C 114 dX10_resize_113 rfl k_ic0 ?_
                refine im_istore C 116 [(5, .int (0 : Int32)), (4, .int (v6 - (v7 - v7 / o8 * o8))), (3, .int o3), (0, .ref (ad 32 0)), (1, .int x1), (2, .int x2)] dX10_resize_114 (by decide) rfl rfl ?_
                refine im_sub [3, 4, 5, 2, 1, 0] [(0, .ref (ad 32 0)), (1, .int x1), (2, .int x2), (3, .int o3), (4, .int (v6 - (v7 - v7 / o8 * o8))), (5, .int (0 : Int32))] rfl ?_
                refine im_lpI (l_X10_resize_116_22 x1 x2 D o3 v6 v7 o8) (fun z116_22 => [(0, .ref (ad 32 0)), (1, .int x1), (2, .int x2), (3, .int o3), (4, .int (v6 - (v7 - v7 / o8 * o8))), (5, .int z116_22)]) (fun z116_22 => D) (fun z116_22 X_z116_22 hX_z116_22 => ?_) FU (0 : Int32)
                unfold l_X10_resize_116_22
                refine im_iload C 118 5 dX10_resize_116 rfl rfl ?_
                refine im_bipush C 120 dX10_resize_118 rfl k_bp16 ?_
                refine im_ic_ge C 176 123 dX10_resize_120 rfl rfl ?_ ?_
                · refine im_aload_n C 177 0 dX10_resize_176 rfl rfl rfl ?_
                  refine im_cVV C 180 vk_X10_note gw_1172 (c_X10_note  hU h0) (h0 32 (by decide) (by decide)) rfl rfl (rle rfl) rfl (st := []) rfl (Nat.le_of_ble_eq_true rfl) dX10_resize_177 rfl (fun D23 => ?_)
                  refine im_aload_n C 181 0 dX10_resize_180 rfl rfl rfl ?_
                  refine gl_X10_7 C 184 (h0 32 (by decide) (by decide)) dX10_resize_181 rfl ?_
                  refine im_iload_n C 185 3 dX10_resize_184 rfl rfl rfl ?_
                  refine im_iload C 187 4 dX10_resize_185 rfl rfl ?_
                  refine im_wri C 188 170 (h0 33 (by decide) (by decide)) (fun _ => rfl) dX10_resize_187 rfl (fun D24 => ?_)
                  refine im_aload_n C 189 0 dX10_resize_188 rfl rfl rfl ?_
                  refine gl_X10_7 C 192 (h0 32 (by decide) (by decide)) dX10_resize_189 rfl ?_
                  refine im_iload_n C 193 3 dX10_resize_192 rfl rfl rfl ?_
                  refine im_iconst C 194 dX10_resize_193 rfl k_ic1 ?_
                  refine im_iadd C 195 dX10_resize_194 rfl ?_
                  refine im_iload_n C 196 2 dX10_resize_195 rfl rfl rfl ?_
                  refine im_wri C 197 170 (h0 33 (by decide) (by decide)) (fun _ => rfl) dX10_resize_196 rfl (fun D25 => ?_)
                  refine im_iload C 199 4 dX10_resize_197 rfl rfl ?_
                  exact im_iret C rfl rfl dX10_resize_199
                · refine im_aload_n C 124 0 dX10_resize_123 rfl rfl rfl ?_
                  refine gl_X10_7 C 127 (h0 32 (by decide) (by decide)) dX10_resize_124 rfl ?_
                  refine im_iload C 129 5 dX10_resize_127 rfl rfl ?_
                  refine im_cSP C 132 sk_X10_hostAt gw_997 (c_X10_hostAt (x0 := z116_22) hU) (rle rfl) rfl (st := [.ref (ad 33 0)]) rfl (Nat.le_of_ble_eq_true rfl) dX10_resize_129 rfl (fun o26 => ?_)
                  refine im_iconst C 133 dX10_resize_132 rfl k_ic2 ?_
                  refine im_iadd C 134 dX10_resize_133 rfl ?_
                  refine im_rdi C 135 170 (h0 33 (by decide) (by decide)) rfl dX10_resize_134 rfl (fun v27 => ?_)
                  refine im_istore C 137 [(6, .int v27), (0, .ref (ad 32 0)), (1, .int x1), (2, .int x2), (3, .int o3), (4, .int (v6 - (v7 - v7 / o8 * o8))), (5, .int z116_22)] dX10_resize_135 (by decide) rfl rfl ?_
                  refine im_aload_n C 138 1 dX10_resize_137 rfl rfl rfl ?_
                  refine gl_X10_7 C 141 (h0 32 (by decide) (by decide)) dX10_resize_138 rfl ?_
                  refine im_iload C 143 6 dX10_resize_141 rfl rfl ?_
                  refine im_cSP C 146 sk_X10_hostAt gw_997 (c_X10_hostAt (x0 := z116_22) hU) (rle rfl) rfl (st := [.ref (ad 33 0)]) rfl (Nat.le_of_ble_eq_true rfl) dX10_resize_143 rfl (fun o28 => ?_)
                  refine im_rdi C 147 170 (h0 33 (by decide) (by decide)) rfl dX10_resize_146 rfl (fun v29 => ?_)
                  refine im_iload_n C 148 2 dX10_resize_147 rfl rfl rfl ?_
                  refine im_ic_ne C 170 151 dX10_resize_148 rfl rfl ?_ ?_
                  · refine im_iinc C 173 6 [(5, .int (z116_22 + (1 : Int32))), (6, .int v27), (0, .ref (ad 32 0)), (1, .int x1), (2, .int x2), (3, .int o3), (4, .int (v6 - (v7 - v7 / o8 * o8)))] dX10_resize_170 rfl (k_inc1) (by decide) rfl rfl ?_
                    refine im_goto C 116 dX10_resize_173 rfl ?_
                    exact im_sub [2, 3, 4, 5, 6, 0] [(0, .ref (ad 32 0)), (1, .int x1), (2, .int x2), (3, .int o3), (4, .int (v6 - (v7 - v7 / o8 * o8))), (5, .int (z116_22 + (1 : Int32)))] rfl (hX_z116_22 (z116_22 + (1 : Int32)))
                  · refine im_iload C 153 0 dX10_resize_151 rfl rfl ?_
                    refine im_if_lt C 170 156 dX10_resize_153 rfl rfl ?_ ?_
                    · refine im_iinc C 173 6 [(5, .int (z116_22 + (1 : Int32))), (6, .int v27), (0, .ref (ad 32 0)), (1, .int x1), (2, .int x2), (3, .int o3), (4, .int (v6 - (v7 - v7 / o8 * o8)))] dX10_resize_170 rfl (k_inc1) (by decide) rfl rfl ?_
                      refine im_goto C 116 dX10_resize_173 rfl ?_
                      exact im_sub [2, 3, 4, 5, 6, 0] [(0, .ref (ad 32 0)), (1, .int x1), (2, .int x2), (3, .int o3), (4, .int (v6 - (v7 - v7 / o8 * o8))), (5, .int (z116_22 + (1 : Int32)))] rfl (hX_z116_22 (z116_22 + (1 : Int32)))
                    · refine im_iload C 158 0 dX10_resize_156 rfl rfl ?_
                      refine im_iload C 160 5 dX10_resize_158 rfl rfl ?_
                      refine im_iload_n C 161 3 dX10_resize_160 rfl rfl rfl ?_
                      refine im_cSP C 164 sk_X10_canLease gw_1247 (c_X10_canLease (x0 := v27) (x1 := v6 - (v7 - v7 / o8 * o8)) (x2 := x2) hU) (rle rfl) rfl (st := []) rfl (Nat.le_of_ble_eq_true rfl) dX10_resize_161 rfl (fun o30 => ?_)
                      refine im_if_ne C 170 167 dX10_resize_164 rfl rfl ?_ ?_
                      · refine im_iinc C 173 6 [(5, .int (z116_22 + (1 : Int32))), (6, .int v27), (0, .ref (ad 32 0)), (1, .int x1), (2, .int x2), (3, .int o3), (4, .int (v6 - (v7 - v7 / o8 * o8)))] dX10_resize_170 rfl (k_inc1) (by decide) rfl rfl ?_
                        refine im_goto C 116 dX10_resize_173 rfl ?_
                        exact im_sub [2, 3, 4, 5, 6, 0] [(0, .ref (ad 32 0)), (1, .int x1), (2, .int x2), (3, .int o3), (4, .int (v6 - (v7 - v7 / o8 * o8))), (5, .int (z116_22 + (1 : Int32)))] rfl (hX_z116_22 (z116_22 + (1 : Int32)))
                      · refine im_bipush C 169 dX10_resize_167 rfl k_bpm2 ?_
                        exact im_iret C rfl rfl dX10_resize_169
              · refine im_bipush C 112 dX10_resize_110 rfl k_bpm2 ?_
                exact im_iret C rfl rfl dX10_resize_112
        · refine im_bipush C 46 dX10_resize_44 rfl k_bpm2 ?_
          exact im_iret C rfl rfl dX10_resize_46
    · refine im_iconst C 18 dX10_resize_17 rfl k_icm1 ?_
      exact im_iret C rfl rfl dX10_resize_18
set_option maxRecDepth 100000 in
set_option maxHeartbeats 4000000 in
theorem c_X10_givesUp {l : Launch} {G : va_G} {ad : Nat → Nat → Nat} {U : List (Nat × Nat)} {D : Dt} {x1 : Int32} (hU : Uinj ad U) (h0 : MoU U) : MI l G ad U yX10_givesUp cX10_givesUp 4 .int (k2_rm 1 20) [.ref (ad 32 0), .int x1] D (f_X10_givesUp x1 D) := by
  refine mI_of0 (lv := [(0, .ref (ad 32 0)), (1, .int x1)]) (by decide) hU rfl (Nat.le_of_ble_eq_true rfl) (fun A p e s m args below meth c C => ?_)
  have C : Cx G ad U A p s m meth c args cX10_givesUp RX10 4 (some .int) := C
  unfold f_X10_givesUp
  refine im_iconst C 1 dX10_givesUp_0 rfl k_ic0 ?_
  refine im_istore_n C 2 [(2, .int (0 : Int32)), (0, .ref (ad 32 0)), (1, .int x1)] dX10_givesUp_1 rfl (by decide) rfl rfl ?_
  refine im_iconst C 3 dX10_givesUp_2 rfl k_ic0 ?_
  refine im_istore_n C 4 [(3, .int (0 : Int32)), (2, .int (0 : Int32)), (0, .ref (ad 32 0)), (1, .int x1)] dX10_givesUp_3 rfl (by decide) rfl rfl ?_
  refine im_sub [2, 3, 1, 0] [(0, .ref (ad 32 0)), (1, .int x1), (2, .int (0 : Int32)), (3, .int (0 : Int32))] rfl ?_
  refine im_lpB (l_X10_givesUp_4 x1) (fun z4 => [(0, .ref (ad 32 0)), (1, .int x1), (2, .int z4.1), (3, .int z4.2.1)]) (fun z4 => z4.2.2) 58 (fun e1 => [(0, .ref (ad 32 0)), (1, .int x1), (2, .int e1.1)]) (fun e1 => e1.2) (fun e1 => ?_) (fun z4 X_z4 hX_z4 hE_z4 => ?_) FU ((0 : Int32), (0 : Int32), D)
  · refine im_aload_n C 59 0 dX10_givesUp_58 rfl rfl rfl ?_
    refine gl_X10_7 C 62 (h0 32 (by decide) (by decide)) dX10_givesUp_59 rfl ?_
    refine im_iload_n C 63 1 dX10_givesUp_62 rfl rfl rfl ?_
    refine im_cSP C 66 sk_X10_net gw_990 (c_X10_net (x0 := x1) hU) (rle rfl) rfl (st := [.ref (ad 33 0)]) rfl (Nat.le_of_ble_eq_true rfl) dX10_givesUp_63 rfl (fun o8 => ?_)
    refine im_iconst C 67 dX10_givesUp_66 rfl k_ic2 ?_
    refine im_iadd C 68 dX10_givesUp_67 rfl ?_
    refine im_iconst C 69 dX10_givesUp_68 rfl k_icm1 ?_
    refine im_wri C 70 170 (h0 33 (by decide) (by decide)) (fun _ => rfl) dX10_givesUp_69 rfl (fun D9 => ?_)
    refine im_aload_n C 71 0 dX10_givesUp_70 rfl rfl rfl ?_
    refine gl_X10_7 C 74 (h0 32 (by decide) (by decide)) dX10_givesUp_71 rfl ?_
    refine im_iconst C 75 dX10_givesUp_74 rfl k_ic4 ?_
    refine im_dup2 C 76 dX10_givesUp_75 rfl rfl rfl ?_
    refine im_rdi C 77 170 (h0 33 (by decide) (by decide)) rfl dX10_givesUp_76 rfl (fun v10 => ?_)
    refine im_iload_n C 78 2 dX10_givesUp_77 rfl rfl rfl ?_
    refine im_iadd C 79 dX10_givesUp_78 rfl ?_
    refine im_wri C 80 170 (h0 33 (by decide) (by decide)) (fun _ => rfl) dX10_givesUp_79 rfl (fun D11 => ?_)
    refine im_iload_n C 81 2 dX10_givesUp_80 rfl rfl rfl ?_
    exact im_iret C rfl rfl dX10_givesUp_81
  · unfold l_X10_givesUp_4
    refine im_iload_n C 5 3 dX10_givesUp_4 rfl rfl rfl ?_
    refine im_bipush C 7 dX10_givesUp_5 rfl k_bp16 ?_
    refine im_ic_ge C 58 10 dX10_givesUp_7 rfl rfl ?_ ?_
    · exact im_sub [0, 1, 2] [(0, .ref (ad 32 0)), (1, .int x1), (2, .int z4.1)] rfl (hE_z4 (z4.1, z4.2.2))
    · refine im_aload_n C 11 0 dX10_givesUp_10 rfl rfl rfl ?_
      refine gl_X10_7 C 14 (h0 32 (by decide) (by decide)) dX10_givesUp_11 rfl ?_
      refine im_iload_n C 15 3 dX10_givesUp_14 rfl rfl rfl ?_
      refine im_cSP C 18 sk_X10_hostAt gw_997 (c_X10_hostAt (x0 := z4.2.1) hU) (rle rfl) rfl (st := [.ref (ad 33 0)]) rfl (Nat.le_of_ble_eq_true rfl) dX10_givesUp_15 rfl (fun o2 => ?_)
      refine im_rdi C 19 170 (h0 33 (by decide) (by decide)) rfl dX10_givesUp_18 rfl (fun v3 => ?_)
      refine im_iload_n C 20 1 dX10_givesUp_19 rfl rfl rfl ?_
      refine im_ic_ne C 52 23 dX10_givesUp_20 rfl rfl ?_ ?_
      · refine im_iinc C 55 3 [(3, .int (z4.2.1 + (1 : Int32))), (0, .ref (ad 32 0)), (1, .int x1), (2, .int z4.1)] dX10_givesUp_52 rfl (k_inc1) (by decide) rfl rfl ?_
        refine im_goto C 4 dX10_givesUp_55 rfl ?_
        exact im_sub [1, 2, 3, 0] [(0, .ref (ad 32 0)), (1, .int x1), (2, .int z4.1), (3, .int (z4.2.1 + (1 : Int32)))] rfl (hX_z4 (z4.1, z4.2.1 + (1 : Int32), z4.2.2))
      · refine im_aload_n C 24 0 dX10_givesUp_23 rfl rfl rfl ?_
        refine gl_X10_7 C 27 (h0 32 (by decide) (by decide)) dX10_givesUp_24 rfl ?_
        refine im_iload_n C 28 3 dX10_givesUp_27 rfl rfl rfl ?_
        refine im_cSP C 31 sk_X10_hostAt gw_997 (c_X10_hostAt (x0 := z4.2.1) hU) (rle rfl) rfl (st := [.ref (ad 33 0)]) rfl (Nat.le_of_ble_eq_true rfl) dX10_givesUp_28 rfl (fun o4 => ?_)
        refine im_iconst C 32 dX10_givesUp_31 rfl k_ic4 ?_
        refine im_iadd C 33 dX10_givesUp_32 rfl ?_
        refine im_rdi C 34 170 (h0 33 (by decide) (by decide)) rfl dX10_givesUp_33 rfl (fun v5 => ?_)
        refine im_if_lt C 52 37 dX10_givesUp_34 rfl rfl ?_ ?_
        · refine im_iinc C 55 3 [(3, .int (z4.2.1 + (1 : Int32))), (0, .ref (ad 32 0)), (1, .int x1), (2, .int z4.1)] dX10_givesUp_52 rfl (k_inc1) (by decide) rfl rfl ?_
          refine im_goto C 4 dX10_givesUp_55 rfl ?_
          exact im_sub [1, 2, 3, 0] [(0, .ref (ad 32 0)), (1, .int x1), (2, .int z4.1), (3, .int (z4.2.1 + (1 : Int32)))] rfl (hX_z4 (z4.1, z4.2.1 + (1 : Int32), z4.2.2))
        · refine im_aload_n C 38 0 dX10_givesUp_37 rfl rfl rfl ?_
          refine gl_X10_7 C 41 (h0 32 (by decide) (by decide)) dX10_givesUp_38 rfl ?_
          refine im_iload_n C 42 3 dX10_givesUp_41 rfl rfl rfl ?_
          refine im_cSP C 45 sk_X10_hostAt gw_997 (c_X10_hostAt (x0 := z4.2.1) hU) (rle rfl) rfl (st := [.ref (ad 33 0)]) rfl (Nat.le_of_ble_eq_true rfl) dX10_givesUp_42 rfl (fun o6 => ?_)
          refine im_iconst C 46 dX10_givesUp_45 rfl k_ic4 ?_
          refine im_iadd C 47 dX10_givesUp_46 rfl ?_
          refine im_iconst C 48 dX10_givesUp_47 rfl k_icm1 ?_
          refine im_wri C 49 170 (h0 33 (by decide) (by decide)) (fun _ => rfl) dX10_givesUp_48 rfl (fun D7 => ?_)
          refine im_iinc C 52 2 [(2, .int (z4.1 + (1 : Int32))), (0, .ref (ad 32 0)), (1, .int x1), (3, .int z4.2.1)] dX10_givesUp_49 rfl (k_inc1) (by decide) rfl rfl ?_
          refine im_iinc C 55 3 [(3, .int (z4.2.1 + (1 : Int32))), (2, .int (z4.1 + (1 : Int32))), (0, .ref (ad 32 0)), (1, .int x1)] dX10_givesUp_52 rfl (k_inc1) (by decide) rfl rfl ?_
          refine im_goto C 4 dX10_givesUp_55 rfl ?_
          exact im_sub [2, 3, 1, 0] [(0, .ref (ad 32 0)), (1, .int x1), (2, .int (z4.1 + (1 : Int32))), (3, .int (z4.2.1 + (1 : Int32)))] rfl (hX_z4 (z4.1 + (1 : Int32), z4.2.1 + (1 : Int32), D7))
set_option maxRecDepth 100000 in
set_option maxHeartbeats 4000000 in
theorem c_X10_moves {l : Launch} {G : va_G} {ad : Nat → Nat → Nat} {U : List (Nat × Nat)} {D : Dt} {x1 : Int32} {x2 : Int32} {x3 : Int32} (hU : Uinj ad U) (h0 : MoU U) : MV l G ad U yX10_moves cX10_moves 7 (k2_rm 2 43) [.ref (ad 32 0), .int x1, .int x2, .int x3] D (f_X10_moves x1 x2 x3 D) := by
  refine mV_of0 (lv := [(0, .ref (ad 32 0)), (1, .int x1), (2, .int x2), (3, .int x3)]) (by decide) hU rfl (Nat.le_of_ble_eq_true rfl) (fun A p e s m args below meth c C => ?_)
  have C : Cx G ad U A p s m meth c args cX10_moves RX10 7 none := C
  unfold f_X10_moves
  refine im_iload_n C 1 1 dX10_moves_0 rfl rfl rfl ?_
  refine im_cSP C 4 sk_X10_net gw_990 (c_X10_net (x0 := x1) hU) (rle rfl) rfl (st := []) rfl (Nat.le_of_ble_eq_true rfl) dX10_moves_1 rfl (fun o1 => ?_)
  refine im_istore C 6 [(4, .int o1), (0, .ref (ad 32 0)), (1, .int x1), (2, .int x2), (3, .int x3)] dX10_moves_4 (by decide) rfl rfl ?_
  refine im_aload_n C 7 1 dX10_moves_6 rfl rfl rfl ?_
  refine gl_X10_7 C 10 (h0 32 (by decide) (by decide)) dX10_moves_7 rfl ?_
  refine im_iload C 12 0 dX10_moves_10 rfl rfl ?_
  refine im_iconst C 13 dX10_moves_12 rfl k_ic2 ?_
  refine im_iadd C 14 dX10_moves_13 rfl ?_
  refine im_aload_n C 15 1 dX10_moves_14 rfl rfl rfl ?_
  refine gl_X10_7 C 18 (h0 32 (by decide) (by decide)) dX10_moves_15 rfl ?_
  refine im_iload C 20 0 dX10_moves_18 rfl rfl ?_
  refine im_rdi C 21 170 (h0 33 (by decide) (by decide)) rfl dX10_moves_20 rfl (fun v2 => ?_)
  refine im_wri C 22 170 (h0 33 (by decide) (by decide)) (fun _ => rfl) dX10_moves_21 rfl (fun D3 => ?_)
  refine im_aload_n C 23 1 dX10_moves_22 rfl rfl rfl ?_
  refine gl_X10_7 C 26 (h0 32 (by decide) (by decide)) dX10_moves_23 rfl ?_
  refine im_iload C 28 0 dX10_moves_26 rfl rfl ?_
  refine im_iconst C 29 dX10_moves_28 rfl k_ic2 ?_
  refine im_iadd C 30 dX10_moves_29 rfl ?_
  refine im_iconst C 31 dX10_moves_30 rfl k_ic1 ?_
  refine im_iadd C 32 dX10_moves_31 rfl ?_
  refine im_aload_n C 33 1 dX10_moves_32 rfl rfl rfl ?_
  refine gl_X10_7 C 36 (h0 32 (by decide) (by decide)) dX10_moves_33 rfl ?_
  refine im_iload C 38 0 dX10_moves_36 rfl rfl ?_
  refine im_iconst C 39 dX10_moves_38 rfl k_ic1 ?_
  refine im_iadd C 40 dX10_moves_39 rfl ?_
  refine im_rdi C 41 170 (h0 33 (by decide) (by decide)) rfl dX10_moves_40 rfl (fun v4 => ?_)
  refine im_wri C 42 170 (h0 33 (by decide) (by decide)) (fun _ => rfl) dX10_moves_41 rfl (fun D5 => ?_)
  refine im_aload_n C 43 1 dX10_moves_42 rfl rfl rfl ?_
  refine gl_X10_7 C 46 (h0 32 (by decide) (by decide)) dX10_moves_43 rfl ?_
  refine im_iload C 48 0 dX10_moves_46 rfl rfl ?_
  refine im_iconst C 49 dX10_moves_48 rfl k_ic4 ?_
  refine im_iadd C 50 dX10_moves_49 rfl ?_
  refine im_aload_n C 51 1 dX10_moves_50 rfl rfl rfl ?_
  refine gl_X10_7 C 54 (h0 32 (by decide) (by decide)) dX10_moves_51 rfl ?_
  refine im_iconst C 55 dX10_moves_54 rfl k_ic0 ?_
  refine im_rdi C 56 170 (h0 33 (by decide) (by decide)) rfl dX10_moves_55 rfl (fun v6 => ?_)
  refine im_aload_n C 57 1 dX10_moves_56 rfl rfl rfl ?_
  refine gl_X10_7 C 60 (h0 32 (by decide) (by decide)) dX10_moves_57 rfl ?_
  refine im_iconst C 61 dX10_moves_60 rfl k_ic2 ?_
  refine im_rdi C 62 170 (h0 33 (by decide) (by decide)) rfl dX10_moves_61 rfl (fun v7 => ?_)
  refine im_iadd C 63 dX10_moves_62 rfl ?_
  refine im_wri C 64 170 (h0 33 (by decide) (by decide)) (fun _ => rfl) dX10_moves_63 rfl (fun D8 => ?_)
  refine im_aload_n C 65 1 dX10_moves_64 rfl rfl rfl ?_
  refine gl_X10_7 C 68 (h0 32 (by decide) (by decide)) dX10_moves_65 rfl ?_
  refine im_iload C 70 0 dX10_moves_68 rfl rfl ?_
  refine im_iload_n C 71 3 dX10_moves_70 rfl rfl rfl ?_
  refine im_wri C 72 170 (h0 33 (by decide) (by decide)) (fun _ => rfl) dX10_moves_71 rfl (fun D9 => ?_)
  refine im_aload_n C 73 1 dX10_moves_72 rfl rfl rfl ?_
  refine gl_X10_7 C 76 (h0 32 (by decide) (by decide)) dX10_moves_73 rfl ?_
  refine im_iload C 78 0 dX10_moves_76 rfl rfl ?_
  refine im_iconst C 79 dX10_moves_78 rfl k_ic1 ?_
  refine im_iadd C 80 dX10_moves_79 rfl ?_
  refine im_iload_n C 81 4 dX10_moves_80 rfl rfl rfl ?_
  refine im_wri C 82 170 (h0 33 (by decide) (by decide)) (fun _ => rfl) dX10_moves_81 rfl (fun D10 => ?_)
  refine im_iconst C 83 dX10_moves_82 rfl k_ic0 ?_
  refine im_istore C 85 [(5, .int (0 : Int32)), (4, .int o1), (0, .ref (ad 32 0)), (1, .int x1), (2, .int x2), (3, .int x3)] dX10_moves_83 (by decide) rfl rfl ?_
  refine im_sub [2, 3, 0] [(0, .ref (ad 32 0)), (1, .int x1), (5, .int (0 : Int32))] rfl ?_
  refine im_lpB (l_X10_moves_85 x1) (fun z85 => [(0, .ref (ad 32 0)), (1, .int x1), (5, .int z85.1)]) (fun z85 => z85.2) 166 (fun e11 => [(0, .ref (ad 32 0)), (1, .int x1)]) (fun e11 => e11) (fun e11 => ?_) (fun z85 X_z85 hX_z85 hE_z85 => ?_) FU ((0 : Int32), D10)
  · refine im_aload_n C 167 0 dX10_moves_166 rfl rfl rfl ?_
    refine gl_X10_7 C 170 (h0 32 (by decide) (by decide)) dX10_moves_167 rfl ?_
    refine im_iconst C 171 dX10_moves_170 rfl k_ic2 ?_
    refine im_rdi C 172 170 (h0 33 (by decide) (by decide)) rfl dX10_moves_171 rfl (fun v19 => ?_)
    refine im_if_ne C 181 175 dX10_moves_172 rfl rfl ?_ ?_
    · exact im_vret C rfl dX10_moves_181
    · refine im_aload_n C 176 0 dX10_moves_175 rfl rfl rfl ?_
      refine im_iload_n C 177 1 dX10_moves_176 rfl rfl rfl ?_
      refine im_cVI C 180 vk_X10_givesUp gw_1262 (c_X10_givesUp (x1 := x1) hU h0) (h0 32 (by decide) (by decide)) rfl rfl (rle rfl) rfl (st := []) rfl (Nat.le_of_ble_eq_true rfl) dX10_moves_177 rfl (fun o20 => ?_)
      refine im_pop C 181 dX10_moves_180 rfl rfl ?_
      exact im_vret C rfl dX10_moves_181
  · unfold l_X10_moves_85
    refine im_iload C 87 2 dX10_moves_85 rfl rfl ?_
    refine im_bipush C 89 dX10_moves_87 rfl k_bp16 ?_
    refine im_ic_ge C 166 92 dX10_moves_89 rfl rfl ?_ ?_
    · exact im_sub [0, 1] [(0, .ref (ad 32 0)), (1, .int x1)] rfl (hE_z85 z85.2)
    · refine im_iload C 94 2 dX10_moves_92 rfl rfl ?_
      refine im_cSP C 97 sk_X10_hostAt gw_997 (c_X10_hostAt (x0 := z85.1) hU) (rle rfl) rfl (st := []) rfl (Nat.le_of_ble_eq_true rfl) dX10_moves_94 rfl (fun o12 => ?_)
      refine im_istore C 99 [(6, .int o12), (0, .ref (ad 32 0)), (1, .int x1), (5, .int z85.1)] dX10_moves_97 (by decide) rfl rfl ?_
      refine im_aload_n C 100 1 dX10_moves_99 rfl rfl rfl ?_
      refine gl_X10_7 C 103 (h0 32 (by decide) (by decide)) dX10_moves_100 rfl ?_
      refine im_iload C 105 0 dX10_moves_103 rfl rfl ?_
      refine im_rdi C 106 170 (h0 33 (by decide) (by decide)) rfl dX10_moves_105 rfl (fun v13 => ?_)
      refine im_iload_n C 107 2 dX10_moves_106 rfl rfl rfl ?_
      refine im_ic_ne C 160 110 dX10_moves_107 rfl rfl ?_ ?_
      · refine im_iinc C 163 3 [(5, .int (z85.1 + (1 : Int32))), (6, .int o12), (0, .ref (ad 32 0)), (1, .int x1)] dX10_moves_160 rfl (k_inc1) (by decide) rfl rfl ?_
        refine im_goto C 85 dX10_moves_163 rfl ?_
        exact im_sub [2, 3, 0] [(0, .ref (ad 32 0)), (1, .int x1), (5, .int (z85.1 + (1 : Int32)))] rfl (hX_z85 (z85.1 + (1 : Int32), z85.2))
      · refine im_aload_n C 111 1 dX10_moves_110 rfl rfl rfl ?_
        refine gl_X10_7 C 114 (h0 32 (by decide) (by decide)) dX10_moves_111 rfl ?_
        refine im_iload C 116 0 dX10_moves_114 rfl rfl ?_
        refine im_iconst C 117 dX10_moves_116 rfl k_ic4 ?_
        refine im_iadd C 118 dX10_moves_117 rfl ?_
        refine im_aload_n C 119 1 dX10_moves_118 rfl rfl rfl ?_
        refine gl_X10_7 C 122 (h0 32 (by decide) (by decide)) dX10_moves_119 rfl ?_
        refine im_iload C 124 0 dX10_moves_122 rfl rfl ?_
        refine im_iconst C 125 dX10_moves_124 rfl k_ic2 ?_
        refine im_iadd C 126 dX10_moves_125 rfl ?_
        refine im_rdi C 127 170 (h0 33 (by decide) (by decide)) rfl dX10_moves_126 rfl (fun v14 => ?_)
        refine im_wri C 128 170 (h0 33 (by decide) (by decide)) (fun _ => rfl) dX10_moves_127 rfl (fun D15 => ?_)
        refine im_aload_n C 129 1 dX10_moves_128 rfl rfl rfl ?_
        refine gl_X10_7 C 132 (h0 32 (by decide) (by decide)) dX10_moves_129 rfl ?_
        refine im_iload C 134 0 dX10_moves_132 rfl rfl ?_
        refine im_iconst C 135 dX10_moves_134 rfl k_ic4 ?_
        refine im_iadd C 136 dX10_moves_135 rfl ?_
        refine im_iconst C 137 dX10_moves_136 rfl k_ic1 ?_
        refine im_iadd C 138 dX10_moves_137 rfl ?_
        refine im_aload_n C 139 1 dX10_moves_138 rfl rfl rfl ?_
        refine gl_X10_7 C 142 (h0 32 (by decide) (by decide)) dX10_moves_139 rfl ?_
        refine im_iload C 144 0 dX10_moves_142 rfl rfl ?_
        refine im_iconst C 145 dX10_moves_144 rfl k_ic2 ?_
        refine im_iadd C 146 dX10_moves_145 rfl ?_
        refine im_iconst C 147 dX10_moves_146 rfl k_ic1 ?_
        refine im_iadd C 148 dX10_moves_147 rfl ?_
        refine im_rdi C 149 170 (h0 33 (by decide) (by decide)) rfl dX10_moves_148 rfl (fun v16 => ?_)
        refine im_wri C 150 170 (h0 33 (by decide) (by decide)) (fun _ => rfl) dX10_moves_149 rfl (fun D17 => ?_)
        refine im_aload_n C 151 1 dX10_moves_150 rfl rfl rfl ?_
        refine gl_X10_7 C 154 (h0 32 (by decide) (by decide)) dX10_moves_151 rfl ?_
        refine im_iload C 156 0 dX10_moves_154 rfl rfl ?_
        refine im_iconst C 157 dX10_moves_156 rfl k_ic2 ?_
        refine im_iadd C 158 dX10_moves_157 rfl ?_
        refine im_iconst C 159 dX10_moves_158 rfl k_icm1 ?_
        refine im_wri C 160 170 (h0 33 (by decide) (by decide)) (fun _ => rfl) dX10_moves_159 rfl (fun D18 => ?_)
        refine im_iinc C 163 3 [(5, .int (z85.1 + (1 : Int32))), (6, .int o12), (0, .ref (ad 32 0)), (1, .int x1)] dX10_moves_160 rfl (k_inc1) (by decide) rfl rfl ?_
        refine im_goto C 85 dX10_moves_163 rfl ?_
        exact im_sub [2, 3, 0] [(0, .ref (ad 32 0)), (1, .int x1), (5, .int (z85.1 + (1 : Int32)))] rfl (hX_z85 (z85.1 + (1 : Int32), D18))
set_option maxRecDepth 100000 in
set_option maxHeartbeats 4000000 in
theorem c_X10_renumber {l : Launch} {G : va_G} {ad : Nat → Nat → Nat} {U : List (Nat × Nat)} {D : Dt} {x1 : Int32} {x2 : Int32} (hU : Uinj ad U) (h0 : MoU U) : MI l G ad U yX10_renumber cX10_renumber 4 .int (k2_rm 6 136) [.ref (ad 32 0), .int x1, .int x2] D (f_X10_renumber x1 x2 D) := by
  refine mI_of0 (lv := [(0, .ref (ad 32 0)), (1, .int x1), (2, .int x2)]) (by decide) hU rfl (Nat.le_of_ble_eq_true rfl) (fun A p e s m args below meth c C => ?_)
  have C : Cx G ad U A p s m meth c args cX10_renumber RX10 4 (some .int) := C
  unfold f_X10_renumber
  refine im_iload_n C 1 1 dX10_renumber_0 rfl rfl rfl ?_
  refine im_cSP C 4 sk_X10_isNet gw_1224 (c_X10_isNet (x0 := x1) hU) (rle rfl) rfl (st := []) rfl (Nat.le_of_ble_eq_true rfl) dX10_renumber_1 rfl (fun o1 => ?_)
  refine im_if_eq C 17 7 dX10_renumber_4 rfl rfl ?_ ?_
  · refine im_iconst C 18 dX10_renumber_17 rfl k_icm1 ?_
    exact im_iret C rfl rfl dX10_renumber_18
  · refine im_iload_n C 8 2 dX10_renumber_7 rfl rfl rfl ?_
    refine im_iconst C 9 dX10_renumber_8 rfl k_ic5 ?_
    refine im_bipush C 11 dX10_renumber_9 rfl k_bp16 ?_
    refine im_cSP C 14 sk_X10_in gw_1066 (c_X10_in (x0 := x2) (x1 := (5 : Int32)) (x2 := (16 : Int32)) hU) (rle rfl) rfl (st := []) rfl (Nat.le_of_ble_eq_true rfl) dX10_renumber_11 rfl (fun o2 => ?_)
    refine im_if_ne C 19 17 dX10_renumber_14 rfl rfl ?_ ?_
    · refine im_aload_n C 20 0 dX10_renumber_19 rfl rfl rfl ?_
      refine im_iload_n C 21 1 dX10_renumber_20 rfl rfl rfl ?_
      refine im_cVP C 24 vk_X10_hasBlock gw_1227 (c_X10_hasBlock (x1 := x1) hU h0) (h0 32 (by decide) (by decide)) rfl rfl (rle rfl) rfl (st := []) rfl (Nat.le_of_ble_eq_true rfl) dX10_renumber_21 rfl (fun o3 => ?_)
      refine im_if_eq C 35 27 dX10_renumber_24 rfl rfl ?_ ?_
      · refine im_bipush C 37 dX10_renumber_35 rfl k_bpm2 ?_
        exact im_iret C rfl rfl dX10_renumber_37
      · refine im_aload_n C 28 0 dX10_renumber_27 rfl rfl rfl ?_
        refine im_iload_n C 29 1 dX10_renumber_28 rfl rfl rfl ?_
        refine im_cVP C 32 vk_X10_hasOld gw_1254 (c_X10_hasOld (x1 := x1) hU h0) (h0 32 (by decide) (by decide)) rfl rfl (rle rfl) rfl (st := []) rfl (Nat.le_of_ble_eq_true rfl) dX10_renumber_29 rfl (fun o4 => ?_)
        refine im_if_eq C 38 35 dX10_renumber_32 rfl rfl ?_ ?_
        · refine im_aload_n C 39 0 dX10_renumber_38 rfl rfl rfl ?_
          refine im_iload_n C 40 2 dX10_renumber_39 rfl rfl rfl ?_
          refine im_cVI C 43 vk_X10_places gw_1125 (c_X10_places (x1 := x2) hU h0) (h0 32 (by decide) (by decide)) rfl rfl (rle rfl) rfl (st := []) rfl (Nat.le_of_ble_eq_true rfl) dX10_renumber_40 rfl (fun o5 => ?_)
          refine im_istore_n C 44 [(3, .int o5.1), (0, .ref (ad 32 0)), (1, .int x1), (2, .int x2)] dX10_renumber_43 rfl (by decide) rfl rfl ?_
          refine im_iload_n C 45 0 dX10_renumber_44 rfl rfl rfl ?_
          refine im_if_ge C 51 48 dX10_renumber_45 rfl rfl ?_ ?_
          · refine im_aload_n C 52 1 dX10_renumber_51 rfl rfl rfl ?_
            refine im_cVV C 55 vk_X10_note gw_1172 (c_X10_note  hU h0) (h0 32 (by decide) (by decide)) rfl rfl (rle rfl) rfl (st := []) rfl (Nat.le_of_ble_eq_true rfl) dX10_renumber_52 rfl (fun D6 => ?_)
            refine im_aload_n C 56 1 dX10_renumber_55 rfl rfl rfl ?_
            refine im_iload_n C 57 2 dX10_renumber_56 rfl rfl rfl ?_
            refine im_iload_n C 58 0 dX10_renumber_57 rfl rfl rfl ?_
            refine im_iload_n C 59 3 dX10_renumber_58 rfl rfl rfl ?_
            refine im_cVV C 62 vk_X10_moves gw_1258 (c_X10_moves (x1 := x1) (x2 := o5.1) (x3 := x2) hU h0) (h0 32 (by decide) (by decide)) rfl rfl (rle rfl) rfl (st := []) rfl (Nat.le_of_ble_eq_true rfl) dX10_renumber_59 rfl (fun D7 => ?_)
            refine im_iload_n C 63 0 dX10_renumber_62 rfl rfl rfl ?_
            exact im_iret C rfl rfl dX10_renumber_63
          · refine im_bipush C 50 dX10_renumber_48 rfl k_bpm3 ?_
            exact im_iret C rfl rfl dX10_renumber_50
        · refine im_bipush C 37 dX10_renumber_35 rfl k_bpm2 ?_
          exact im_iret C rfl rfl dX10_renumber_37
    · refine im_iconst C 18 dX10_renumber_17 rfl k_icm1 ?_
      exact im_iret C rfl rfl dX10_renumber_18
set_option maxRecDepth 100000 in
set_option maxHeartbeats 4000000 in
theorem c_X10_highest {l : Launch} {G : va_G} {ad : Nat → Nat → Nat} {U : List (Nat × Nat)} {D : Dt} {x1 : Int32} (hU : Uinj ad U) (h0 : MoU U) : MI l G ad U yX10_highest cX10_highest 6 .int (k2_rm 1 20) [.ref (ad 32 0), .int x1] D ((f_X10_highest x1 D).bind (fun r => some (r, D))) := by
  refine mI_of (lv := [(0, .ref (ad 32 0)), (1, .int x1)]) (by decide) hU rfl (Nat.le_of_ble_eq_true rfl) (fun A p e s m args below meth c C => ?_)
  have C : Cx G ad U A p s m meth c args cX10_highest RX10 6 (some .int) := C
  unfold f_X10_highest
  refine im_iconst C 1 dX10_highest_0 rfl k_icm1 ?_
  refine im_istore_n C 2 [(2, .int (-1 : Int32)), (0, .ref (ad 32 0)), (1, .int x1)] dX10_highest_1 rfl (by decide) rfl rfl ?_
  refine im_iconst C 3 dX10_highest_2 rfl k_ic0 ?_
  refine im_istore_n C 4 [(3, .int (0 : Int32)), (2, .int (-1 : Int32)), (0, .ref (ad 32 0)), (1, .int x1)] dX10_highest_3 rfl (by decide) rfl rfl ?_
  refine im_sub [2, 3, 1, 0] [(0, .ref (ad 32 0)), (1, .int x1), (2, .int (-1 : Int32)), (3, .int (0 : Int32))] rfl ?_
  refine im_lpB (l_X10_highest_4 x1 D) (fun z4 => [(0, .ref (ad 32 0)), (1, .int x1), (2, .int z4.1), (3, .int z4.2)]) (fun z4 => D) 88 (fun e1 => [(2, .int e1)]) (fun e1 => D) (fun e1 => ?_) (fun z4 X_z4 hX_z4 hE_z4 => ?_) FU ((-1 : Int32), (0 : Int32))
  · refine im_iload_n C 89 0 dX10_highest_88 rfl rfl rfl ?_
    exact im_iret C rfl rfl dX10_highest_89
  · unfold l_X10_highest_4
    refine im_iload_n C 5 3 dX10_highest_4 rfl rfl rfl ?_
    refine im_bipush C 7 dX10_highest_5 rfl k_bp12 ?_
    refine im_ic_ge C 88 10 dX10_highest_7 rfl rfl ?_ ?_
    · exact im_sub [2] [(2, .int z4.1)] rfl (hE_z4 z4.1)
    · refine im_aload_n C 11 0 dX10_highest_10 rfl rfl rfl ?_
      refine gl_X10_20 C 14 (h0 32 (by decide) (by decide)) dX10_highest_11 rfl ?_
      refine im_iload_n C 15 3 dX10_highest_14 rfl rfl rfl ?_
      refine im_cSP C 18 sk_X10_net gw_990 (c_X10_net (x0 := z4.2) hU) (rle rfl) rfl (st := [.ref (ad 36 0)]) rfl (Nat.le_of_ble_eq_true rfl) dX10_highest_15 rfl (fun o2 => ?_)
      refine im_rdi C 19 170 (h0 36 (by decide) (by decide)) rfl dX10_highest_18 rfl (fun v3 => ?_)
      refine im_istore C 21 [(4, .int v3), (0, .ref (ad 32 0)), (1, .int x1), (2, .int z4.1), (3, .int z4.2)] dX10_highest_19 (by decide) rfl rfl ?_
      refine im_iload C 23 0 dX10_highest_21 rfl rfl ?_
      refine im_jn 51 (fun t4 => [(0, .ref (ad 32 0)), (1, .int x1), (2, .int z4.1), (3, .int z4.2), (4, .int v3)]) (fun t4 => [.int t4]) (fun t4 => D) (fun t4 => j_X10_highest_51_t4 D z4 v3 t4) (fun t4 => ?_) (fun ht4 => ?_)
      · unfold j_X10_highest_51_t4
        refine im_istore C 53 [(5, .int t4), (0, .ref (ad 32 0)), (1, .int x1), (2, .int z4.1), (3, .int z4.2), (4, .int v3)] dX10_highest_51 (by decide) rfl rfl ?_
        refine im_iload C 55 0 dX10_highest_53 rfl rfl ?_
        refine im_if_eq C 80 58 dX10_highest_55 rfl rfl ?_ ?_
        · refine im_iload_n C 81 3 dX10_highest_80 rfl rfl rfl ?_
          refine im_istore_n C 82 [(2, .int z4.1), (5, .int t4), (0, .ref (ad 32 0)), (1, .int x1), (3, .int z4.2), (4, .int v3)] dX10_highest_81 rfl (by decide) rfl rfl ?_
          refine im_iinc C 85 4 [(3, .int (z4.2 + (1 : Int32))), (2, .int z4.1), (5, .int t4), (0, .ref (ad 32 0)), (1, .int x1), (4, .int v3)] dX10_highest_82 rfl (k_inc1) (by decide) rfl rfl ?_
          refine im_goto C 4 dX10_highest_85 rfl ?_
          exact im_sub [3, 4, 1, 0] [(0, .ref (ad 32 0)), (1, .int x1), (2, .int z4.1), (3, .int (z4.2 + (1 : Int32)))] rfl (hX_z4 (z4.1, z4.2 + (1 : Int32)))
        · refine im_iload_n C 59 3 dX10_highest_58 rfl rfl rfl ?_
          refine im_if_lt C 76 62 dX10_highest_59 rfl rfl ?_ ?_
          · refine im_iload_n C 77 4 dX10_highest_76 rfl rfl rfl ?_
            refine im_goto C 81 dX10_highest_77 rfl ?_
            refine im_istore_n C 82 [(2, .int z4.2), (5, .int t4), (0, .ref (ad 32 0)), (1, .int x1), (3, .int z4.2), (4, .int v3)] dX10_highest_81 rfl (by decide) rfl rfl ?_
            refine im_iinc C 85 4 [(3, .int (z4.2 + (1 : Int32))), (2, .int z4.2), (5, .int t4), (0, .ref (ad 32 0)), (1, .int x1), (4, .int v3)] dX10_highest_82 rfl (k_inc1) (by decide) rfl rfl ?_
            refine im_goto C 4 dX10_highest_85 rfl ?_
            exact im_sub [3, 4, 1, 0] [(0, .ref (ad 32 0)), (1, .int x1), (2, .int z4.2), (3, .int (z4.2 + (1 : Int32)))] rfl (hX_z4 (z4.2, z4.2 + (1 : Int32)))
          · refine im_iload C 64 5 dX10_highest_62 rfl rfl ?_
            refine im_aload_n C 65 1 dX10_highest_64 rfl rfl rfl ?_
            refine gl_X10_20 C 68 (h0 32 (by decide) (by decide)) dX10_highest_65 rfl ?_
            refine im_iload_n C 69 3 dX10_highest_68 rfl rfl rfl ?_
            refine im_cSP C 72 sk_X10_net gw_990 (c_X10_net (x0 := z4.1) hU) (rle rfl) rfl (st := [.ref (ad 36 0), .int v3]) rfl (Nat.le_of_ble_eq_true rfl) dX10_highest_69 rfl (fun o5 => ?_)
            refine im_rdi C 73 170 (h0 36 (by decide) (by decide)) rfl dX10_highest_72 rfl (fun v6 => ?_)
            refine im_ic_le C 80 76 dX10_highest_73 rfl rfl ?_ ?_
            · refine im_iload_n C 81 3 dX10_highest_80 rfl rfl rfl ?_
              refine im_istore_n C 82 [(2, .int z4.1), (5, .int t4), (0, .ref (ad 32 0)), (1, .int x1), (3, .int z4.2), (4, .int v3)] dX10_highest_81 rfl (by decide) rfl rfl ?_
              refine im_iinc C 85 4 [(3, .int (z4.2 + (1 : Int32))), (2, .int z4.1), (5, .int t4), (0, .ref (ad 32 0)), (1, .int x1), (4, .int v3)] dX10_highest_82 rfl (k_inc1) (by decide) rfl rfl ?_
              refine im_goto C 4 dX10_highest_85 rfl ?_
              exact im_sub [3, 4, 1, 0] [(0, .ref (ad 32 0)), (1, .int x1), (2, .int z4.1), (3, .int (z4.2 + (1 : Int32)))] rfl (hX_z4 (z4.1, z4.2 + (1 : Int32)))
            · refine im_iload_n C 77 4 dX10_highest_76 rfl rfl rfl ?_
              refine im_goto C 81 dX10_highest_77 rfl ?_
              refine im_istore_n C 82 [(2, .int z4.2), (5, .int t4), (0, .ref (ad 32 0)), (1, .int x1), (3, .int z4.2), (4, .int v3)] dX10_highest_81 rfl (by decide) rfl rfl ?_
              refine im_iinc C 85 4 [(3, .int (z4.2 + (1 : Int32))), (2, .int z4.2), (5, .int t4), (0, .ref (ad 32 0)), (1, .int x1), (4, .int v3)] dX10_highest_82 rfl (k_inc1) (by decide) rfl rfl ?_
              refine im_goto C 4 dX10_highest_85 rfl ?_
              exact im_sub [3, 4, 1, 0] [(0, .ref (ad 32 0)), (1, .int x1), (2, .int z4.2), (3, .int (z4.2 + (1 : Int32)))] rfl (hX_z4 (z4.2, z4.2 + (1 : Int32)))
      · refine im_if_lt C 50 26 dX10_highest_23 rfl rfl ?_ ?_
        · refine im_iconst C 51 dX10_highest_50 rfl k_ic0 ?_
          exact im_sub [1, 2, 3, 4, 0] [(0, .ref (ad 32 0)), (1, .int x1), (2, .int z4.1), (3, .int z4.2), (4, .int v3)] rfl (ht4 (0 : Int32))
        · refine im_aload_n C 27 1 dX10_highest_26 rfl rfl rfl ?_
          refine gl_X10_20 C 30 (h0 32 (by decide) (by decide)) dX10_highest_27 rfl ?_
          refine im_iload_n C 31 4 dX10_highest_30 rfl rfl rfl ?_
          refine im_cSP C 34 sk_X10_net gw_990 (c_X10_net (x0 := z4.2) hU) (rle rfl) rfl (st := [.ref (ad 36 0)]) rfl (Nat.le_of_ble_eq_true rfl) dX10_highest_31 rfl (fun o7 => ?_)
          refine im_iconst C 35 dX10_highest_34 rfl k_ic2 ?_
          refine im_iadd C 36 dX10_highest_35 rfl ?_
          refine im_rdi C 37 170 (h0 36 (by decide) (by decide)) rfl dX10_highest_36 rfl (fun v8 => ?_)
          refine im_if_ge C 50 40 dX10_highest_37 rfl rfl ?_ ?_
          · refine im_iconst C 51 dX10_highest_50 rfl k_ic0 ?_
            exact im_sub [1, 2, 3, 4, 0] [(0, .ref (ad 32 0)), (1, .int x1), (2, .int z4.1), (3, .int z4.2), (4, .int v3)] rfl (ht4 (0 : Int32))
          · refine im_iload C 42 0 dX10_highest_40 rfl rfl ?_
            refine im_iload_n C 43 2 dX10_highest_42 rfl rfl rfl ?_
            refine im_ic_ge C 50 46 dX10_highest_43 rfl rfl ?_ ?_
            · refine im_iconst C 51 dX10_highest_50 rfl k_ic0 ?_
              exact im_sub [1, 2, 3, 4, 0] [(0, .ref (ad 32 0)), (1, .int x1), (2, .int z4.1), (3, .int z4.2), (4, .int v3)] rfl (ht4 (0 : Int32))
            · refine im_iconst C 47 dX10_highest_46 rfl k_ic1 ?_
              refine im_goto C 51 dX10_highest_47 rfl ?_
              exact im_sub [1, 2, 3, 4, 0] [(0, .ref (ad 32 0)), (1, .int x1), (2, .int z4.1), (3, .int z4.2), (4, .int v3)] rfl (ht4 (1 : Int32))
set_option maxRecDepth 100000 in
set_option maxHeartbeats 4000000 in
theorem c_X10_wave {l : Launch} {G : va_G} {ad : Nat → Nat → Nat} {U : List (Nat × Nat)} {D : Dt} {x1 : Int32} (hU : Uinj ad U) (h0 : MoU U) : MI l G ad U yX10_wave cX10_wave 5 .int (k2_rm 6 136) [.ref (ad 32 0), .int x1] D (f_X10_wave x1 D) := by
  refine mI_of0 (lv := [(0, .ref (ad 32 0)), (1, .int x1)]) (by decide) hU rfl (Nat.le_of_ble_eq_true rfl) (fun A p e s m args below meth c C => ?_)
  have C : Cx G ad U A p s m meth c args cX10_wave RX10 5 (some .int) := C
  unfold f_X10_wave
  refine im_iload_n C 1 1 dX10_wave_0 rfl rfl rfl ?_
  refine im_iconst C 2 dX10_wave_1 rfl k_ic1 ?_
  refine im_bipush C 4 dX10_wave_2 rfl k_bp12 ?_
  refine im_cSP C 7 sk_X10_in gw_1066 (c_X10_in (x0 := x1) (x1 := (1 : Int32)) (x2 := (12 : Int32)) hU) (rle rfl) rfl (st := []) rfl (Nat.le_of_ble_eq_true rfl) dX10_wave_4 rfl (fun o1 => ?_)
  refine im_if_ne C 12 10 dX10_wave_7 rfl rfl ?_ ?_
  · refine im_aload_n C 13 0 dX10_wave_12 rfl rfl rfl ?_
    refine im_cVV C 16 vk_X10_keepsApart gw_1077 (c_X10_keepsApart  hU h0) (h0 32 (by decide) (by decide)) rfl rfl (rle rfl) rfl (st := []) rfl (Nat.le_of_ble_eq_true rfl) dX10_wave_13 rfl (fun D2 => ?_)
    refine im_iconst C 17 dX10_wave_16 rfl k_ic0 ?_
    refine im_istore_n C 18 [(2, .int (0 : Int32)), (0, .ref (ad 32 0)), (1, .int x1)] dX10_wave_17 rfl (by decide) rfl rfl ?_
    refine im_aload_n C 19 1 dX10_wave_18 rfl rfl rfl ?_
    refine im_ldc C 21 gw_1270 dX10_wave_19 rfl ?_
    refine im_cVP C 24 vk_X10_highest gw_1271 (c_X10_highest (x1 := (65536 : Int32)) hU h0) (h0 32 (by decide) (by decide)) rfl rfl (rle rfl) rfl (st := []) rfl (Nat.le_of_ble_eq_true rfl) dX10_wave_21 rfl (fun o3 => ?_)
    refine im_istore_n C 25 [(3, .int o3), (2, .int (0 : Int32)), (0, .ref (ad 32 0)), (1, .int x1)] dX10_wave_24 rfl (by decide) rfl rfl ?_
    refine im_sub [2, 3, 1, 0] [(0, .ref (ad 32 0)), (1, .int x1), (2, .int (0 : Int32)), (3, .int o3)] rfl ?_
    refine im_lpB (l_X10_wave_25 x1) (fun z25 => [(0, .ref (ad 32 0)), (1, .int x1), (2, .int z25.1), (3, .int z25.2.1)]) (fun z25 => z25.2.2) 108 (fun e4 => [(0, .ref (ad 32 0)), (2, .int e4.1)]) (fun e4 => e4.2) (fun e4 => ?_) (fun z25 X_z25 hX_z25 hE_z25 => ?_) FU ((0 : Int32), o3, D2)
    · refine im_iload_n C 109 1 dX10_wave_108 rfl rfl rfl ?_
      refine im_if_ne C 115 112 dX10_wave_109 rfl rfl ?_ ?_
      · refine im_aload_n C 116 0 dX10_wave_115 rfl rfl rfl ?_
        refine im_cVV C 119 vk_X10_exchanges gw_1168 (c_X10_exchanges  hU h0) (h0 32 (by decide) (by decide)) rfl rfl (rle rfl) rfl (st := []) rfl (Nat.le_of_ble_eq_true rfl) dX10_wave_116 rfl (fun D22 => ?_)
        refine im_aload_n C 120 0 dX10_wave_119 rfl rfl rfl ?_
        refine im_cVV C 123 vk_X10_note gw_1172 (c_X10_note  hU h0) (h0 32 (by decide) (by decide)) rfl rfl (rle rfl) rfl (st := []) rfl (Nat.le_of_ble_eq_true rfl) dX10_wave_120 rfl (fun D23 => ?_)
        refine im_aload_n C 124 0 dX10_wave_123 rfl rfl rfl ?_
        refine im_cVV C 127 vk_X10_exchanges gw_1168 (c_X10_exchanges  hU h0) (h0 32 (by decide) (by decide)) rfl rfl (rle rfl) rfl (st := []) rfl (Nat.le_of_ble_eq_true rfl) dX10_wave_124 rfl (fun D24 => ?_)
        refine im_iload_n C 128 1 dX10_wave_127 rfl rfl rfl ?_
        exact im_iret C rfl rfl dX10_wave_128
      · refine im_bipush C 114 dX10_wave_112 rfl k_bpm2 ?_
        exact im_iret C rfl rfl dX10_wave_114
    · unfold l_X10_wave_25
      refine im_iload_n C 26 3 dX10_wave_25 rfl rfl rfl ?_
      refine im_if_lt C 108 29 dX10_wave_26 rfl rfl ?_ ?_
      · exact im_sub [0, 2] [(0, .ref (ad 32 0)), (2, .int z25.1)] rfl (hE_z25 (z25.1, z25.2.2))
      · refine im_iload_n C 30 2 dX10_wave_29 rfl rfl rfl ?_
        refine im_iload_n C 31 1 dX10_wave_30 rfl rfl rfl ?_
        refine im_ic_ge C 108 34 dX10_wave_31 rfl rfl ?_ ?_
        · exact im_sub [0, 2] [(0, .ref (ad 32 0)), (2, .int z25.1)] rfl (hE_z25 (z25.1, z25.2.2))
        · refine im_aload_n C 35 0 dX10_wave_34 rfl rfl rfl ?_
          refine im_aload_n C 36 0 dX10_wave_35 rfl rfl rfl ?_
          refine gl_X10_7 C 39 (h0 32 (by decide) (by decide)) dX10_wave_36 rfl ?_
          refine im_iload_n C 40 3 dX10_wave_39 rfl rfl rfl ?_
          refine im_cSP C 43 sk_X10_net gw_990 (c_X10_net (x0 := z25.2.1) hU) (rle rfl) rfl (st := [.ref (ad 33 0), .ref (ad 32 0)]) rfl (Nat.le_of_ble_eq_true rfl) dX10_wave_40 rfl (fun o5 => ?_)
          refine im_iconst C 44 dX10_wave_43 rfl k_ic1 ?_
          refine im_iadd C 45 dX10_wave_44 rfl ?_
          refine im_rdi C 46 170 (h0 33 (by decide) (by decide)) rfl dX10_wave_45 rfl (fun v6 => ?_)
          refine im_cVI C 49 vk_X10_places gw_1125 (c_X10_places (x1 := v6) hU h0) (h0 32 (by decide) (by decide)) rfl rfl (rle rfl) rfl (st := []) rfl (Nat.le_of_ble_eq_true rfl) dX10_wave_46 rfl (fun o7 => ?_)
          refine im_istore C 51 [(4, .int o7.1), (0, .ref (ad 32 0)), (1, .int x1), (2, .int z25.1), (3, .int z25.2.1)] dX10_wave_49 (by decide) rfl rfl ?_
          refine im_iload C 53 0 dX10_wave_51 rfl rfl ?_
          refine im_if_lt C 91 56 dX10_wave_53 rfl rfl ?_ ?_
          · refine im_aload_n C 92 1 dX10_wave_91 rfl rfl rfl ?_
            refine im_aload_n C 93 1 dX10_wave_92 rfl rfl rfl ?_
            refine gl_X10_20 C 96 (h0 32 (by decide) (by decide)) dX10_wave_93 rfl ?_
            refine im_iload_n C 97 4 dX10_wave_96 rfl rfl rfl ?_
            refine im_cSP C 100 sk_X10_net gw_990 (c_X10_net (x0 := z25.2.1) hU) (rle rfl) rfl (st := [.ref (ad 36 0), .ref (ad 32 0)]) rfl (Nat.le_of_ble_eq_true rfl) dX10_wave_97 rfl (fun o8 => ?_)
            refine im_rdi C 101 170 (h0 36 (by decide) (by decide)) rfl dX10_wave_100 rfl (fun v9 => ?_)
            refine im_cVP C 104 vk_X10_highest gw_1271 (c_X10_highest (x1 := v9) hU h0) (h0 32 (by decide) (by decide)) rfl rfl (rle rfl) rfl (st := []) rfl (Nat.le_of_ble_eq_true rfl) dX10_wave_101 rfl (fun o10 => ?_)
            refine im_istore_n C 105 [(3, .int o10), (4, .int o7.1), (0, .ref (ad 32 0)), (1, .int x1), (2, .int z25.1)] dX10_wave_104 rfl (by decide) rfl rfl ?_
            refine im_goto C 25 dX10_wave_105 rfl ?_
            exact im_sub [2, 3, 4, 0] [(0, .ref (ad 32 0)), (1, .int x1), (2, .int z25.1), (3, .int o10)] rfl (hX_z25 (z25.1, o10, o7.2))
          · refine im_iload C 58 0 dX10_wave_56 rfl rfl ?_
            refine im_aload_n C 59 1 dX10_wave_58 rfl rfl rfl ?_
            refine gl_X10_7 C 62 (h0 32 (by decide) (by decide)) dX10_wave_59 rfl ?_
            refine im_iload_n C 63 4 dX10_wave_62 rfl rfl rfl ?_
            refine im_cSP C 66 sk_X10_net gw_990 (c_X10_net (x0 := z25.2.1) hU) (rle rfl) rfl (st := [.ref (ad 33 0), .int o7.1]) rfl (Nat.le_of_ble_eq_true rfl) dX10_wave_63 rfl (fun o11 => ?_)
            refine im_rdi C 67 170 (h0 33 (by decide) (by decide)) rfl dX10_wave_66 rfl (fun v12 => ?_)
            refine im_ic_ge C 91 70 dX10_wave_67 rfl rfl ?_ ?_
            · refine im_aload_n C 92 1 dX10_wave_91 rfl rfl rfl ?_
              refine im_aload_n C 93 1 dX10_wave_92 rfl rfl rfl ?_
              refine gl_X10_20 C 96 (h0 32 (by decide) (by decide)) dX10_wave_93 rfl ?_
              refine im_iload_n C 97 4 dX10_wave_96 rfl rfl rfl ?_
              refine im_cSP C 100 sk_X10_net gw_990 (c_X10_net (x0 := z25.2.1) hU) (rle rfl) rfl (st := [.ref (ad 36 0), .ref (ad 32 0)]) rfl (Nat.le_of_ble_eq_true rfl) dX10_wave_97 rfl (fun o13 => ?_)
              refine im_rdi C 101 170 (h0 36 (by decide) (by decide)) rfl dX10_wave_100 rfl (fun v14 => ?_)
              refine im_cVP C 104 vk_X10_highest gw_1271 (c_X10_highest (x1 := v14) hU h0) (h0 32 (by decide) (by decide)) rfl rfl (rle rfl) rfl (st := []) rfl (Nat.le_of_ble_eq_true rfl) dX10_wave_101 rfl (fun o15 => ?_)
              refine im_istore_n C 105 [(3, .int o15), (4, .int o7.1), (0, .ref (ad 32 0)), (1, .int x1), (2, .int z25.1)] dX10_wave_104 rfl (by decide) rfl rfl ?_
              refine im_goto C 25 dX10_wave_105 rfl ?_
              exact im_sub [2, 3, 4, 0] [(0, .ref (ad 32 0)), (1, .int x1), (2, .int z25.1), (3, .int o15)] rfl (hX_z25 (z25.1, o15, o7.2))
            · refine im_aload_n C 71 1 dX10_wave_70 rfl rfl rfl ?_
              refine im_iload_n C 72 4 dX10_wave_71 rfl rfl rfl ?_
              refine im_iload C 74 0 dX10_wave_72 rfl rfl ?_
              refine im_aload_n C 75 1 dX10_wave_74 rfl rfl rfl ?_
              refine gl_X10_7 C 78 (h0 32 (by decide) (by decide)) dX10_wave_75 rfl ?_
              refine im_iload_n C 79 4 dX10_wave_78 rfl rfl rfl ?_
              refine im_cSP C 82 sk_X10_net gw_990 (c_X10_net (x0 := z25.2.1) hU) (rle rfl) rfl (st := [.ref (ad 33 0), .int o7.1, .int z25.2.1, .ref (ad 32 0)]) rfl (Nat.le_of_ble_eq_true rfl) dX10_wave_79 rfl (fun o16 => ?_)
              refine im_iconst C 83 dX10_wave_82 rfl k_ic1 ?_
              refine im_iadd C 84 dX10_wave_83 rfl ?_
              refine im_rdi C 85 170 (h0 33 (by decide) (by decide)) rfl dX10_wave_84 rfl (fun v17 => ?_)
              refine im_cVV C 88 vk_X10_moves gw_1258 (c_X10_moves (x1 := z25.2.1) (x2 := o7.1) (x3 := v17) hU h0) (h0 32 (by decide) (by decide)) rfl rfl (rle rfl) rfl (st := []) rfl (Nat.le_of_ble_eq_true rfl) dX10_wave_85 rfl (fun D18 => ?_)
              refine im_iinc C 91 3 [(2, .int (z25.1 + (1 : Int32))), (4, .int o7.1), (0, .ref (ad 32 0)), (1, .int x1), (3, .int z25.2.1)] dX10_wave_88 rfl (k_inc1) (by decide) rfl rfl ?_
              refine im_aload_n C 92 2 dX10_wave_91 rfl rfl rfl ?_
              refine im_aload_n C 93 2 dX10_wave_92 rfl rfl rfl ?_
              refine gl_X10_20 C 96 (h0 32 (by decide) (by decide)) dX10_wave_93 rfl ?_
              refine im_iload_n C 97 4 dX10_wave_96 rfl rfl rfl ?_
              refine im_cSP C 100 sk_X10_net gw_990 (c_X10_net (x0 := z25.2.1) hU) (rle rfl) rfl (st := [.ref (ad 36 0), .ref (ad 32 0)]) rfl (Nat.le_of_ble_eq_true rfl) dX10_wave_97 rfl (fun o19 => ?_)
              refine im_rdi C 101 170 (h0 36 (by decide) (by decide)) rfl dX10_wave_100 rfl (fun v20 => ?_)
              refine im_cVP C 104 vk_X10_highest gw_1271 (c_X10_highest (x1 := v20) hU h0) (h0 32 (by decide) (by decide)) rfl rfl (rle rfl) rfl (st := []) rfl (Nat.le_of_ble_eq_true rfl) dX10_wave_101 rfl (fun o21 => ?_)
              refine im_istore_n C 105 [(3, .int o21), (2, .int (z25.1 + (1 : Int32))), (4, .int o7.1), (0, .ref (ad 32 0)), (1, .int x1)] dX10_wave_104 rfl (by decide) rfl rfl ?_
              refine im_goto C 25 dX10_wave_105 rfl ?_
              exact im_sub [3, 4, 1, 0] [(0, .ref (ad 32 0)), (1, .int x1), (2, .int (z25.1 + (1 : Int32))), (3, .int o21)] rfl (hX_z25 (z25.1 + (1 : Int32), o21, D18))
  · refine im_iconst C 11 dX10_wave_10 rfl k_icm1 ?_
    exact im_iret C rfl rfl dX10_wave_11
set_option maxRecDepth 100000 in
set_option maxHeartbeats 4000000 in
theorem c_X10_network {l : Launch} {G : va_G} {ad : Nat → Nat → Nat} {U : List (Nat × Nat)} {D : Dt} {x1 : Int32} {x2 : Int32} (hU : Uinj ad U) (h0 : MoU U) : MI l G ad U yX10_network cX10_network 3 .int (k2_rm 2 43) [.ref (ad 32 0), .int x1, .int x2] D ((f_X10_network x1 x2 D).bind (fun r => some (r, D))) := by
  refine mI_of (lv := [(0, .ref (ad 32 0)), (1, .int x1), (2, .int x2)]) (by decide) hU rfl (Nat.le_of_ble_eq_true rfl) (fun A p e s m args below meth c C => ?_)
  have C : Cx G ad U A p s m meth c args cX10_network RX10 3 (some .int) := C
  unfold f_X10_network
  refine im_iload_n C 1 1 dX10_network_0 rfl rfl rfl ?_
  refine im_cSP C 4 sk_X10_isNet gw_1224 (c_X10_isNet (x0 := x1) hU) (rle rfl) rfl (st := []) rfl (Nat.le_of_ble_eq_true rfl) dX10_network_1 rfl (fun o1 => ?_)
  refine im_if_eq C 16 7 dX10_network_4 rfl rfl ?_ ?_
  · refine im_iconst C 17 dX10_network_16 rfl k_icm1 ?_
    exact im_iret C rfl rfl dX10_network_17
  · refine im_iload_n C 8 2 dX10_network_7 rfl rfl rfl ?_
    refine im_iconst C 9 dX10_network_8 rfl k_ic0 ?_
    refine im_iconst C 10 dX10_network_9 rfl k_ic5 ?_
    refine im_cSP C 13 sk_X10_in gw_1066 (c_X10_in (x0 := x2) (x1 := (0 : Int32)) (x2 := (5 : Int32)) hU) (rle rfl) rfl (st := []) rfl (Nat.le_of_ble_eq_true rfl) dX10_network_10 rfl (fun o2 => ?_)
    refine im_if_ne C 18 16 dX10_network_13 rfl rfl ?_ ?_
    · refine im_iload_n C 19 2 dX10_network_18 rfl rfl rfl ?_
      refine im_iconst C 20 dX10_network_19 rfl k_ic5 ?_
      refine im_ic_ne C 29 23 dX10_network_20 rfl rfl ?_ ?_
      · refine im_iload_n C 30 2 dX10_network_29 rfl rfl rfl ?_
        refine im_iconst C 31 dX10_network_30 rfl k_ic2 ?_
        refine im_ic_ge C 45 34 dX10_network_31 rfl rfl ?_ ?_
        · refine im_aload_n C 46 0 dX10_network_45 rfl rfl rfl ?_
          refine im_iload_n C 47 1 dX10_network_46 rfl rfl rfl ?_
          refine im_cVP C 50 vk_X10_hasOld gw_1254 (c_X10_hasOld (x1 := x1) hU h0) (h0 32 (by decide) (by decide)) rfl rfl (rle rfl) rfl (st := []) rfl (Nat.le_of_ble_eq_true rfl) dX10_network_47 rfl (fun o3 => ?_)
          refine im_if_eq C 67 53 dX10_network_50 rfl rfl ?_ ?_
          · refine im_bipush C 69 dX10_network_67 rfl k_bpm9 ?_
            exact im_iret C rfl rfl dX10_network_69
          · refine im_aload_n C 54 0 dX10_network_53 rfl rfl rfl ?_
            refine gl_X10_7 C 57 (h0 32 (by decide) (by decide)) dX10_network_54 rfl ?_
            refine im_iload_n C 58 1 dX10_network_57 rfl rfl rfl ?_
            refine im_cSP C 61 sk_X10_net gw_990 (c_X10_net (x0 := x1) hU) (rle rfl) rfl (st := [.ref (ad 33 0)]) rfl (Nat.le_of_ble_eq_true rfl) dX10_network_58 rfl (fun o4 => ?_)
            refine im_iload_n C 62 2 dX10_network_61 rfl rfl rfl ?_
            refine im_iadd C 63 dX10_network_62 rfl ?_
            refine im_rdi C 64 170 (h0 33 (by decide) (by decide)) rfl dX10_network_63 rfl (fun v5 => ?_)
            refine im_goto C 69 dX10_network_64 rfl ?_
            exact im_iret C rfl rfl dX10_network_69
        · refine im_aload_n C 35 0 dX10_network_34 rfl rfl rfl ?_
          refine im_iload_n C 36 1 dX10_network_35 rfl rfl rfl ?_
          refine im_cVP C 39 vk_X10_hasBlock gw_1227 (c_X10_hasBlock (x1 := x1) hU h0) (h0 32 (by decide) (by decide)) rfl rfl (rle rfl) rfl (st := []) rfl (Nat.le_of_ble_eq_true rfl) dX10_network_36 rfl (fun o6 => ?_)
          refine im_if_eq C 67 42 dX10_network_39 rfl rfl ?_ ?_
          · refine im_bipush C 69 dX10_network_67 rfl k_bpm9 ?_
            exact im_iret C rfl rfl dX10_network_69
          · refine im_goto C 53 dX10_network_42 rfl ?_
            refine im_aload_n C 54 0 dX10_network_53 rfl rfl rfl ?_
            refine gl_X10_7 C 57 (h0 32 (by decide) (by decide)) dX10_network_54 rfl ?_
            refine im_iload_n C 58 1 dX10_network_57 rfl rfl rfl ?_
            refine im_cSP C 61 sk_X10_net gw_990 (c_X10_net (x0 := x1) hU) (rle rfl) rfl (st := [.ref (ad 33 0)]) rfl (Nat.le_of_ble_eq_true rfl) dX10_network_58 rfl (fun o7 => ?_)
            refine im_iload_n C 62 2 dX10_network_61 rfl rfl rfl ?_
            refine im_iadd C 63 dX10_network_62 rfl ?_
            refine im_rdi C 64 170 (h0 33 (by decide) (by decide)) rfl dX10_network_63 rfl (fun v8 => ?_)
            refine im_goto C 69 dX10_network_64 rfl ?_
            exact im_iret C rfl rfl dX10_network_69
      · refine im_aload_n C 24 0 dX10_network_23 rfl rfl rfl ?_
        refine im_iload_n C 25 1 dX10_network_24 rfl rfl rfl ?_
        refine im_cVP C 28 vk_X10_hostsOf gw_1235 (c_X10_hostsOf (x1 := x1) hU h0) (h0 32 (by decide) (by decide)) rfl rfl (rle rfl) rfl (st := []) rfl (Nat.le_of_ble_eq_true rfl) dX10_network_25 rfl (fun o9 => ?_)
        exact im_iret C rfl rfl dX10_network_28
    · refine im_iconst C 17 dX10_network_16 rfl k_icm1 ?_
      exact im_iret C rfl rfl dX10_network_17
set_option maxRecDepth 100000 in
set_option maxHeartbeats 4000000 in
theorem c_X10_owner {l : Launch} {G : va_G} {ad : Nat → Nat → Nat} {U : List (Nat × Nat)} {D : Dt} {x1 : Int32} (hU : Uinj ad U) (h0 : MoU U) : MI l G ad U yX10_owner cX10_owner 3 .int (k2_rm 2 41) [.ref (ad 32 0), .int x1] D ((f_X10_owner x1 D).bind (fun r => some (r, D))) := by
  refine mI_of (lv := [(0, .ref (ad 32 0)), (1, .int x1)]) (by decide) hU rfl (Nat.le_of_ble_eq_true rfl) (fun A p e s m args below meth c C => ?_)
  have C : Cx G ad U A p s m meth c args cX10_owner RX10 3 (some .int) := C
  unfold f_X10_owner
  refine im_iload_n C 1 1 dX10_owner_0 rfl rfl rfl ?_
  refine im_iconst C 2 dX10_owner_1 rfl k_ic0 ?_
  refine im_ldc C 4 gw_1112 dX10_owner_2 rfl ?_
  refine im_cSP C 7 sk_X10_in gw_1066 (c_X10_in (x0 := x1) (x1 := (0 : Int32)) (x2 := (65535 : Int32)) hU) (rle rfl) rfl (st := []) rfl (Nat.le_of_ble_eq_true rfl) dX10_owner_4 rfl (fun o1 => ?_)
  refine im_if_ne C 12 10 dX10_owner_7 rfl rfl ?_ ?_
  · refine im_iconst C 13 dX10_owner_12 rfl k_ic0 ?_
    refine im_istore_n C 14 [(2, .int (0 : Int32)), (0, .ref (ad 32 0)), (1, .int x1)] dX10_owner_13 rfl (by decide) rfl rfl ?_
    refine im_sub [1, 2, 0] [(0, .ref (ad 32 0)), (1, .int x1), (2, .int (0 : Int32))] rfl ?_
    refine im_lpI (l_X10_owner_14 x1 D) (fun z14 => [(0, .ref (ad 32 0)), (1, .int x1), (2, .int z14)]) (fun z14 => D) (fun z14 X_z14 hX_z14 => ?_) FU (0 : Int32)
    unfold l_X10_owner_14
    refine im_iload_n C 15 2 dX10_owner_14 rfl rfl rfl ?_
    refine im_bipush C 17 dX10_owner_15 rfl k_bp24 ?_
    refine im_ic_ge C 66 20 dX10_owner_17 rfl rfl ?_ ?_
    · refine im_bipush C 68 dX10_owner_66 rfl k_bpm9 ?_
      exact im_iret C rfl rfl dX10_owner_68
    · refine im_aload_n C 21 0 dX10_owner_20 rfl rfl rfl ?_
      refine im_iload_n C 22 2 dX10_owner_21 rfl rfl rfl ?_
      refine im_cVP C 25 vk_X10_blockAt gw_1141 (c_X10_blockAt (x1 := z14) hU h0) (h0 32 (by decide) (by decide)) rfl rfl (rle rfl) rfl (st := []) rfl (Nat.le_of_ble_eq_true rfl) dX10_owner_22 rfl (fun o2 => ?_)
      refine im_if_lt C 60 28 dX10_owner_25 rfl rfl ?_ ?_
      · refine im_iinc C 63 2 [(2, .int (z14 + (1 : Int32))), (0, .ref (ad 32 0)), (1, .int x1)] dX10_owner_60 rfl (k_inc1) (by decide) rfl rfl ?_
        refine im_goto C 14 dX10_owner_63 rfl ?_
        exact im_sub [1, 2, 0] [(0, .ref (ad 32 0)), (1, .int x1), (2, .int (z14 + (1 : Int32)))] rfl (hX_z14 (z14 + (1 : Int32)))
      · refine im_iload_n C 29 1 dX10_owner_28 rfl rfl rfl ?_
        refine im_aload_n C 30 0 dX10_owner_29 rfl rfl rfl ?_
        refine im_iload_n C 31 2 dX10_owner_30 rfl rfl rfl ?_
        refine im_cVP C 34 vk_X10_blockAt gw_1141 (c_X10_blockAt (x1 := z14) hU h0) (h0 32 (by decide) (by decide)) rfl rfl (rle rfl) rfl (st := [.int x1]) rfl (Nat.le_of_ble_eq_true rfl) dX10_owner_31 rfl (fun o3 => ?_)
        refine im_aload_n C 35 0 dX10_owner_34 rfl rfl rfl ?_
        refine im_iload_n C 36 2 dX10_owner_35 rfl rfl rfl ?_
        refine im_cVP C 39 vk_X10_blockAt gw_1141 (c_X10_blockAt (x1 := z14) hU h0) (h0 32 (by decide) (by decide)) rfl rfl (rle rfl) rfl (st := [.int o3, .int x1]) rfl (Nat.le_of_ble_eq_true rfl) dX10_owner_36 rfl (fun o4 => ?_)
        refine im_aload_n C 40 0 dX10_owner_39 rfl rfl rfl ?_
        refine im_iload_n C 41 2 dX10_owner_40 rfl rfl rfl ?_
        refine im_cVP C 44 vk_X10_lengthAt gw_1145 (c_X10_lengthAt (x1 := z14) hU h0) (h0 32 (by decide) (by decide)) rfl rfl (rle rfl) rfl (st := [.int o4, .int o3, .int x1]) rfl (Nat.le_of_ble_eq_true rfl) dX10_owner_41 rfl (fun o5 => ?_)
        refine im_cSP C 47 sk_X10_size gw_1113 (c_X10_size (x0 := o5) hU) (rle rfl) rfl (st := [.int o4, .int o3, .int x1]) rfl (Nat.le_of_ble_eq_true rfl) dX10_owner_44 rfl (fun o6 => ?_)
        refine im_iadd C 48 dX10_owner_47 rfl ?_
        refine im_iconst C 49 dX10_owner_48 rfl k_ic1 ?_
        refine im_isub C 50 dX10_owner_49 rfl ?_
        refine im_cSP C 53 sk_X10_in gw_1066 (c_X10_in (x0 := x1) (x1 := o3) (x2 := (o4 + o6) - (1 : Int32)) hU) (rle rfl) rfl (st := []) rfl (Nat.le_of_ble_eq_true rfl) dX10_owner_50 rfl (fun o7 => ?_)
        refine im_if_eq C 60 56 dX10_owner_53 rfl rfl ?_ ?_
        · refine im_iinc C 63 2 [(2, .int (z14 + (1 : Int32))), (0, .ref (ad 32 0)), (1, .int x1)] dX10_owner_60 rfl (k_inc1) (by decide) rfl rfl ?_
          refine im_goto C 14 dX10_owner_63 rfl ?_
          exact im_sub [1, 2, 0] [(0, .ref (ad 32 0)), (1, .int x1), (2, .int (z14 + (1 : Int32)))] rfl (hX_z14 (z14 + (1 : Int32)))
        · refine im_iload_n C 57 2 dX10_owner_56 rfl rfl rfl ?_
          refine im_iconst C 58 dX10_owner_57 rfl k_ic2 ?_
          refine im_idiv C 59 dX10_owner_58 rfl ?_
          exact im_iret C rfl rfl dX10_owner_59
  · refine im_iconst C 11 dX10_owner_10 rfl k_icm1 ?_
    exact im_iret C rfl rfl dX10_owner_11
set_option maxRecDepth 100000 in
set_option maxHeartbeats 4000000 in
theorem c_X10_isHost {l : Launch} {G : va_G} {ad : Nat → Nat → Nat} {U : List (Nat × Nat)} {D : Dt} {x0 : Int32} (hU : Uinj ad U) : MI l G ad U yX10_isHost cX10_isHost 1 .boolean (k2_rm 1 22) [.int x0] D ((f_X10_isHost x0 D).bind (fun r => some (r, D))) := by
  refine mI_of (lv := [(0, .int x0)]) (by decide) hU rfl (Nat.le_of_ble_eq_true rfl) (fun A p e s m args below meth c C => ?_)
  have C : Cx G ad U A p s m meth c args cX10_isHost RX10 1 (some .boolean) := C
  unfold f_X10_isHost
  refine im_iload_n C 1 0 dX10_isHost_0 rfl rfl rfl ?_
  refine im_iconst C 2 dX10_isHost_1 rfl k_ic0 ?_
  refine im_bipush C 4 dX10_isHost_2 rfl k_bp15 ?_
  refine im_cSP C 7 sk_X10_in gw_1066 (c_X10_in (x0 := x0) (x1 := (0 : Int32)) (x2 := (15 : Int32)) hU) (rle rfl) rfl (st := []) rfl (Nat.le_of_ble_eq_true rfl) dX10_isHost_4 rfl (fun o1 => ?_)
  refine im_gd (fun hg => ?_)
  exact im_iret C rfl (isb_n hg) dX10_isHost_7
set_option maxRecDepth 100000 in
set_option maxHeartbeats 4000000 in
theorem c_X10_addHost {l : Launch} {G : va_G} {ad : Nat → Nat → Nat} {U : List (Nat × Nat)} {D : Dt} {x1 : Int32} {x2 : Int32} {x3 : Int32} (hU : Uinj ad U) (h0 : MoU U) : MI l G ad U yX10_addHost cX10_addHost 4 .int (k2_rm 2 43) [.ref (ad 32 0), .int x1, .int x2, .int x3] D (f_X10_addHost x1 x2 x3 D) := by
  refine mI_of0 (lv := [(0, .ref (ad 32 0)), (1, .int x1), (2, .int x2), (3, .int x3)]) (by decide) hU rfl (Nat.le_of_ble_eq_true rfl) (fun A p e s m args below meth c C => ?_)
  have C : Cx G ad U A p s m meth c args cX10_addHost RX10 4 (some .int) := C
  unfold f_X10_addHost
  refine im_iload_n C 1 1 dX10_addHost_0 rfl rfl rfl ?_
  refine im_cSP C 4 sk_X10_isHost gw_1287 (c_X10_isHost (x0 := x1) hU) (rle rfl) rfl (st := []) rfl (Nat.le_of_ble_eq_true rfl) dX10_addHost_1 rfl (fun o1 => ?_)
  refine im_if_eq C 23 7 dX10_addHost_4 rfl rfl ?_ ?_
  · refine im_iconst C 24 dX10_addHost_23 rfl k_icm1 ?_
    exact im_iret C rfl rfl dX10_addHost_24
  · refine im_iload_n C 8 2 dX10_addHost_7 rfl rfl rfl ?_
    refine im_cSP C 11 sk_X10_isNet gw_1224 (c_X10_isNet (x0 := x2) hU) (rle rfl) rfl (st := []) rfl (Nat.le_of_ble_eq_true rfl) dX10_addHost_8 rfl (fun o2 => ?_)
    refine im_if_eq C 23 14 dX10_addHost_11 rfl rfl ?_ ?_
    · refine im_iconst C 24 dX10_addHost_23 rfl k_icm1 ?_
      exact im_iret C rfl rfl dX10_addHost_24
    · refine im_iload_n C 15 3 dX10_addHost_14 rfl rfl rfl ?_
      refine im_iconst C 16 dX10_addHost_15 rfl k_ic0 ?_
      refine im_iconst C 17 dX10_addHost_16 rfl k_ic1 ?_
      refine im_cSP C 20 sk_X10_in gw_1066 (c_X10_in (x0 := x3) (x1 := (0 : Int32)) (x2 := (1 : Int32)) hU) (rle rfl) rfl (st := []) rfl (Nat.le_of_ble_eq_true rfl) dX10_addHost_17 rfl (fun o3 => ?_)
      refine im_if_ne C 25 23 dX10_addHost_20 rfl rfl ?_ ?_
      · refine im_aload_n C 26 0 dX10_addHost_25 rfl rfl rfl ?_
        refine gl_X10_7 C 29 (h0 32 (by decide) (by decide)) dX10_addHost_26 rfl ?_
        refine im_iload_n C 30 1 dX10_addHost_29 rfl rfl rfl ?_
        refine im_cSP C 33 sk_X10_hostAt gw_997 (c_X10_hostAt (x0 := x1) hU) (rle rfl) rfl (st := [.ref (ad 33 0)]) rfl (Nat.le_of_ble_eq_true rfl) dX10_addHost_30 rfl (fun o4 => ?_)
        refine im_rdi C 34 170 (h0 33 (by decide) (by decide)) rfl dX10_addHost_33 rfl (fun v5 => ?_)
        refine im_if_ge C 45 37 dX10_addHost_34 rfl rfl ?_ ?_
        · refine im_bipush C 47 dX10_addHost_45 rfl k_bpm2 ?_
          exact im_iret C rfl rfl dX10_addHost_47
        · refine im_aload_n C 38 0 dX10_addHost_37 rfl rfl rfl ?_
          refine im_iload_n C 39 2 dX10_addHost_38 rfl rfl rfl ?_
          refine im_cVP C 42 vk_X10_hasBlock gw_1227 (c_X10_hasBlock (x1 := x2) hU h0) (h0 32 (by decide) (by decide)) rfl rfl (rle rfl) rfl (st := []) rfl (Nat.le_of_ble_eq_true rfl) dX10_addHost_39 rfl (fun o6 => ?_)
          refine im_if_ne C 48 45 dX10_addHost_42 rfl rfl ?_ ?_
          · refine im_aload_n C 49 0 dX10_addHost_48 rfl rfl rfl ?_
            refine im_cVV C 52 vk_X10_note gw_1172 (c_X10_note  hU h0) (h0 32 (by decide) (by decide)) rfl rfl (rle rfl) rfl (st := []) rfl (Nat.le_of_ble_eq_true rfl) dX10_addHost_49 rfl (fun D7 => ?_)
            refine im_aload_n C 53 0 dX10_addHost_52 rfl rfl rfl ?_
            refine gl_X10_7 C 56 (h0 32 (by decide) (by decide)) dX10_addHost_53 rfl ?_
            refine im_iload_n C 57 1 dX10_addHost_56 rfl rfl rfl ?_
            refine im_cSP C 60 sk_X10_hostAt gw_997 (c_X10_hostAt (x0 := x1) hU) (rle rfl) rfl (st := [.ref (ad 33 0)]) rfl (Nat.le_of_ble_eq_true rfl) dX10_addHost_57 rfl (fun o8 => ?_)
            refine im_iload_n C 61 2 dX10_addHost_60 rfl rfl rfl ?_
            refine im_wri C 62 170 (h0 33 (by decide) (by decide)) (fun _ => rfl) dX10_addHost_61 rfl (fun D9 => ?_)
            refine im_aload_n C 63 0 dX10_addHost_62 rfl rfl rfl ?_
            refine gl_X10_7 C 66 (h0 32 (by decide) (by decide)) dX10_addHost_63 rfl ?_
            refine im_iload_n C 67 1 dX10_addHost_66 rfl rfl rfl ?_
            refine im_cSP C 70 sk_X10_hostAt gw_997 (c_X10_hostAt (x0 := x1) hU) (rle rfl) rfl (st := [.ref (ad 33 0)]) rfl (Nat.le_of_ble_eq_true rfl) dX10_addHost_67 rfl (fun o10 => ?_)
            refine im_iconst C 71 dX10_addHost_70 rfl k_ic1 ?_
            refine im_iadd C 72 dX10_addHost_71 rfl ?_
            refine im_iload_n C 73 3 dX10_addHost_72 rfl rfl rfl ?_
            refine im_wri C 74 170 (h0 33 (by decide) (by decide)) (fun _ => rfl) dX10_addHost_73 rfl (fun D11 => ?_)
            refine im_aload_n C 75 0 dX10_addHost_74 rfl rfl rfl ?_
            refine im_iload_n C 76 2 dX10_addHost_75 rfl rfl rfl ?_
            refine im_cVP C 79 vk_X10_hostsOf gw_1235 (c_X10_hostsOf (x1 := x2) hU h0) (h0 32 (by decide) (by decide)) rfl rfl (rle rfl) rfl (st := []) rfl (Nat.le_of_ble_eq_true rfl) dX10_addHost_76 rfl (fun o12 => ?_)
            exact im_iret C rfl rfl dX10_addHost_79
          · refine im_bipush C 47 dX10_addHost_45 rfl k_bpm2 ?_
            exact im_iret C rfl rfl dX10_addHost_47
      · refine im_iconst C 24 dX10_addHost_23 rfl k_icm1 ?_
        exact im_iret C rfl rfl dX10_addHost_24
set_option maxRecDepth 100000 in
set_option maxHeartbeats 4000000 in
theorem c_X10_removeHost {l : Launch} {G : va_G} {ad : Nat → Nat → Nat} {U : List (Nat × Nat)} {D : Dt} {x1 : Int32} (hU : Uinj ad U) (h0 : MoU U) : MI l G ad U yX10_removeHost cX10_removeHost 4 .int (k2_rm 2 42) [.ref (ad 32 0), .int x1] D (f_X10_removeHost x1 D) := by
  refine mI_of0 (lv := [(0, .ref (ad 32 0)), (1, .int x1)]) (by decide) hU rfl (Nat.le_of_ble_eq_true rfl) (fun A p e s m args below meth c C => ?_)
  have C : Cx G ad U A p s m meth c args cX10_removeHost RX10 4 (some .int) := C
  unfold f_X10_removeHost
  refine im_iload_n C 1 1 dX10_removeHost_0 rfl rfl rfl ?_
  refine im_cSP C 4 sk_X10_isHost gw_1287 (c_X10_isHost (x0 := x1) hU) (rle rfl) rfl (st := []) rfl (Nat.le_of_ble_eq_true rfl) dX10_removeHost_1 rfl (fun o1 => ?_)
  refine im_if_ne C 9 7 dX10_removeHost_4 rfl rfl ?_ ?_
  · refine im_iload_n C 10 1 dX10_removeHost_9 rfl rfl rfl ?_
    refine im_cSP C 13 sk_X10_hostAt gw_997 (c_X10_hostAt (x0 := x1) hU) (rle rfl) rfl (st := []) rfl (Nat.le_of_ble_eq_true rfl) dX10_removeHost_10 rfl (fun o2 => ?_)
    refine im_istore_n C 14 [(2, .int o2), (0, .ref (ad 32 0)), (1, .int x1)] dX10_removeHost_13 rfl (by decide) rfl rfl ?_
    refine im_aload_n C 15 1 dX10_removeHost_14 rfl rfl rfl ?_
    refine gl_X10_7 C 18 (h0 32 (by decide) (by decide)) dX10_removeHost_15 rfl ?_
    refine im_iload_n C 19 0 dX10_removeHost_18 rfl rfl rfl ?_
    refine im_rdi C 20 170 (h0 33 (by decide) (by decide)) rfl dX10_removeHost_19 rfl (fun v3 => ?_)
    refine im_if_ge C 26 23 dX10_removeHost_20 rfl rfl ?_ ?_
    · refine im_aload_n C 27 1 dX10_removeHost_26 rfl rfl rfl ?_
      refine im_cVV C 30 vk_X10_note gw_1172 (c_X10_note  hU h0) (h0 32 (by decide) (by decide)) rfl rfl (rle rfl) rfl (st := []) rfl (Nat.le_of_ble_eq_true rfl) dX10_removeHost_27 rfl (fun D4 => ?_)
      refine im_aload_n C 31 1 dX10_removeHost_30 rfl rfl rfl ?_
      refine gl_X10_7 C 34 (h0 32 (by decide) (by decide)) dX10_removeHost_31 rfl ?_
      refine im_iload_n C 35 0 dX10_removeHost_34 rfl rfl rfl ?_
      refine im_iconst C 36 dX10_removeHost_35 rfl k_ic2 ?_
      refine im_iadd C 37 dX10_removeHost_36 rfl ?_
      refine im_rdi C 38 170 (h0 33 (by decide) (by decide)) rfl dX10_removeHost_37 rfl (fun v5 => ?_)
      refine im_jn 46 (fun t6 => [(0, .ref (ad 32 0)), (1, .int x1), (2, .int o2)]) (fun t6 => [.int t6]) (fun t6 => D4) (fun t6 => j_X10_removeHost_46_t6 x1 o2 D4 t6) (fun t6 => ?_) (fun ht6 => ?_)
      · unfold j_X10_removeHost_46_t6
        refine im_aload_n C 47 0 dX10_removeHost_46 rfl rfl rfl ?_
        refine gl_X10_7 C 50 (h0 32 (by decide) (by decide)) dX10_removeHost_47 rfl ?_
        refine im_iload_n C 51 2 dX10_removeHost_50 rfl rfl rfl ?_
        refine im_iconst C 52 dX10_removeHost_51 rfl k_ic4 ?_
        refine im_iadd C 53 dX10_removeHost_52 rfl ?_
        refine im_rdi C 54 170 (h0 33 (by decide) (by decide)) rfl dX10_removeHost_53 rfl (fun v7 => ?_)
        refine im_if_lt C 61 57 dX10_removeHost_54 rfl rfl ?_ ?_
        · refine im_iconst C 62 dX10_removeHost_61 rfl k_ic0 ?_
          refine im_iadd C 63 dX10_removeHost_62 rfl ?_
          refine im_istore_n C 64 [(3, .int (t6 + (0 : Int32))), (0, .ref (ad 32 0)), (1, .int x1), (2, .int o2)] dX10_removeHost_63 rfl (by decide) rfl rfl ?_
          refine im_aload_n C 65 1 dX10_removeHost_64 rfl rfl rfl ?_
          refine im_iload_n C 66 2 dX10_removeHost_65 rfl rfl rfl ?_
          refine im_cVV C 69 vk_X10_leaves gw_993 (c_X10_leaves (x1 := x1) hU h0) (h0 32 (by decide) (by decide)) rfl rfl (rle rfl) rfl (st := []) rfl (Nat.le_of_ble_eq_true rfl) dX10_removeHost_66 rfl (fun D8 => ?_)
          refine im_iload_n C 70 0 dX10_removeHost_69 rfl rfl rfl ?_
          exact im_iret C rfl rfl dX10_removeHost_70
        · refine im_iconst C 58 dX10_removeHost_57 rfl k_ic1 ?_
          refine im_goto C 62 dX10_removeHost_58 rfl ?_
          refine im_iadd C 63 dX10_removeHost_62 rfl ?_
          refine im_istore_n C 64 [(3, .int (t6 + (1 : Int32))), (0, .ref (ad 32 0)), (1, .int x1), (2, .int o2)] dX10_removeHost_63 rfl (by decide) rfl rfl ?_
          refine im_aload_n C 65 1 dX10_removeHost_64 rfl rfl rfl ?_
          refine im_iload_n C 66 2 dX10_removeHost_65 rfl rfl rfl ?_
          refine im_cVV C 69 vk_X10_leaves gw_993 (c_X10_leaves (x1 := x1) hU h0) (h0 32 (by decide) (by decide)) rfl rfl (rle rfl) rfl (st := []) rfl (Nat.le_of_ble_eq_true rfl) dX10_removeHost_66 rfl (fun D9 => ?_)
          refine im_iload_n C 70 0 dX10_removeHost_69 rfl rfl rfl ?_
          exact im_iret C rfl rfl dX10_removeHost_70
      · refine im_if_lt C 45 41 dX10_removeHost_38 rfl rfl ?_ ?_
        · refine im_iconst C 46 dX10_removeHost_45 rfl k_ic0 ?_
          exact im_sub [1, 2, 0] [(0, .ref (ad 32 0)), (1, .int x1), (2, .int o2)] rfl (ht6 (0 : Int32))
        · refine im_iconst C 42 dX10_removeHost_41 rfl k_ic1 ?_
          refine im_goto C 46 dX10_removeHost_42 rfl ?_
          exact im_sub [1, 2, 0] [(0, .ref (ad 32 0)), (1, .int x1), (2, .int o2)] rfl (ht6 (1 : Int32))
    · refine im_bipush C 25 dX10_removeHost_23 rfl k_bpm2 ?_
      exact im_iret C rfl rfl dX10_removeHost_25
  · refine im_iconst C 8 dX10_removeHost_7 rfl k_icm1 ?_
    exact im_iret C rfl rfl dX10_removeHost_8
set_option maxRecDepth 100000 in
set_option maxHeartbeats 4000000 in
theorem c_X10_holder {l : Launch} {G : va_G} {ad : Nat → Nat → Nat} {U : List (Nat × Nat)} {D : Dt} {x1 : Int32} (hU : Uinj ad U) (h0 : MoU U) : MI l G ad U yX10_holder cX10_holder 3 .int (k2_rm 1 20) [.ref (ad 32 0), .int x1] D ((f_X10_holder x1 D).bind (fun r => some (r, D))) := by
  refine mI_of (lv := [(0, .ref (ad 32 0)), (1, .int x1)]) (by decide) hU rfl (Nat.le_of_ble_eq_true rfl) (fun A p e s m args below meth c C => ?_)
  have C : Cx G ad U A p s m meth c args cX10_holder RX10 3 (some .int) := C
  unfold f_X10_holder
  refine im_iconst C 1 dX10_holder_0 rfl k_ic0 ?_
  refine im_istore_n C 2 [(2, .int (0 : Int32)), (0, .ref (ad 32 0)), (1, .int x1)] dX10_holder_1 rfl (by decide) rfl rfl ?_
  refine im_sub [1, 2, 0] [(0, .ref (ad 32 0)), (1, .int x1), (2, .int (0 : Int32))] rfl ?_
  refine im_lpI (l_X10_holder_2 x1 D) (fun z2 => [(0, .ref (ad 32 0)), (1, .int x1), (2, .int z2)]) (fun z2 => D) (fun z2 X_z2 hX_z2 => ?_) FU (0 : Int32)
  unfold l_X10_holder_2
  refine im_iload_n C 3 2 dX10_holder_2 rfl rfl rfl ?_
  refine im_bipush C 5 dX10_holder_3 rfl k_bp16 ?_
  refine im_ic_ge C 46 8 dX10_holder_5 rfl rfl ?_ ?_
  · refine im_bipush C 48 dX10_holder_46 rfl k_bpm9 ?_
    exact im_iret C rfl rfl dX10_holder_48
  · refine im_aload_n C 9 0 dX10_holder_8 rfl rfl rfl ?_
    refine gl_X10_7 C 12 (h0 32 (by decide) (by decide)) dX10_holder_9 rfl ?_
    refine im_iload_n C 13 2 dX10_holder_12 rfl rfl rfl ?_
    refine im_cSP C 16 sk_X10_hostAt gw_997 (c_X10_hostAt (x0 := z2) hU) (rle rfl) rfl (st := [.ref (ad 33 0)]) rfl (Nat.le_of_ble_eq_true rfl) dX10_holder_13 rfl (fun o1 => ?_)
    refine im_iconst C 17 dX10_holder_16 rfl k_ic2 ?_
    refine im_iadd C 18 dX10_holder_17 rfl ?_
    refine im_rdi C 19 170 (h0 33 (by decide) (by decide)) rfl dX10_holder_18 rfl (fun v2 => ?_)
    refine im_iload_n C 20 1 dX10_holder_19 rfl rfl rfl ?_
    refine im_ic_eq C 38 23 dX10_holder_20 rfl rfl ?_ ?_
    · refine im_iload_n C 39 2 dX10_holder_38 rfl rfl rfl ?_
      exact im_iret C rfl rfl dX10_holder_39
    · refine im_aload_n C 24 0 dX10_holder_23 rfl rfl rfl ?_
      refine gl_X10_7 C 27 (h0 32 (by decide) (by decide)) dX10_holder_24 rfl ?_
      refine im_iload_n C 28 2 dX10_holder_27 rfl rfl rfl ?_
      refine im_cSP C 31 sk_X10_hostAt gw_997 (c_X10_hostAt (x0 := z2) hU) (rle rfl) rfl (st := [.ref (ad 33 0)]) rfl (Nat.le_of_ble_eq_true rfl) dX10_holder_28 rfl (fun o3 => ?_)
      refine im_iconst C 32 dX10_holder_31 rfl k_ic4 ?_
      refine im_iadd C 33 dX10_holder_32 rfl ?_
      refine im_rdi C 34 170 (h0 33 (by decide) (by decide)) rfl dX10_holder_33 rfl (fun v4 => ?_)
      refine im_iload_n C 35 1 dX10_holder_34 rfl rfl rfl ?_
      refine im_ic_ne C 40 38 dX10_holder_35 rfl rfl ?_ ?_
      · refine im_iinc C 43 2 [(2, .int (z2 + (1 : Int32))), (0, .ref (ad 32 0)), (1, .int x1)] dX10_holder_40 rfl (k_inc1) (by decide) rfl rfl ?_
        refine im_goto C 2 dX10_holder_43 rfl ?_
        exact im_sub [1, 2, 0] [(0, .ref (ad 32 0)), (1, .int x1), (2, .int (z2 + (1 : Int32)))] rfl (hX_z2 (z2 + (1 : Int32)))
      · refine im_iload_n C 39 2 dX10_holder_38 rfl rfl rfl ?_
        exact im_iret C rfl rfl dX10_holder_39
set_option maxRecDepth 100000 in
set_option maxHeartbeats 4000000 in
theorem c_X10_newAddress {l : Launch} {G : va_G} {ad : Nat → Nat → Nat} {U : List (Nat × Nat)} {D : Dt} {x1 : Int32} (hU : Uinj ad U) (h0 : MoU U) : MI l G ad U yX10_newAddress cX10_newAddress 5 .int (k2_rm 2 45) [.ref (ad 32 0), .int x1] D ((f_X10_newAddress x1 D).bind (fun r => some (r, D))) := by
  refine mI_of (lv := [(0, .ref (ad 32 0)), (1, .int x1)]) (by decide) hU rfl (Nat.le_of_ble_eq_true rfl) (fun A p e s m args below meth c C => ?_)
  have C : Cx G ad U A p s m meth c args cX10_newAddress RX10 5 (some .int) := C
  unfold f_X10_newAddress
  refine im_iload_n C 1 1 dX10_newAddress_0 rfl rfl rfl ?_
  refine im_cSP C 4 sk_X10_hostAt gw_997 (c_X10_hostAt (x0 := x1) hU) (rle rfl) rfl (st := []) rfl (Nat.le_of_ble_eq_true rfl) dX10_newAddress_1 rfl (fun o1 => ?_)
  refine im_istore_n C 5 [(2, .int o1), (0, .ref (ad 32 0)), (1, .int x1)] dX10_newAddress_4 rfl (by decide) rfl rfl ?_
  refine im_aload_n C 6 1 dX10_newAddress_5 rfl rfl rfl ?_
  refine gl_X10_7 C 9 (h0 32 (by decide) (by decide)) dX10_newAddress_6 rfl ?_
  refine im_iload_n C 10 0 dX10_newAddress_9 rfl rfl rfl ?_
  refine im_rdi C 11 170 (h0 33 (by decide) (by decide)) rfl dX10_newAddress_10 rfl (fun v2 => ?_)
  refine im_cSP C 14 sk_X10_net gw_990 (c_X10_net (x0 := v2) hU) (rle rfl) rfl (st := []) rfl (Nat.le_of_ble_eq_true rfl) dX10_newAddress_11 rfl (fun o3 => ?_)
  refine im_istore_n C 15 [(3, .int o3), (2, .int o1), (0, .ref (ad 32 0)), (1, .int x1)] dX10_newAddress_14 rfl (by decide) rfl rfl ?_
  refine im_aload_n C 16 2 dX10_newAddress_15 rfl rfl rfl ?_
  refine gl_X10_7 C 19 (h0 32 (by decide) (by decide)) dX10_newAddress_16 rfl ?_
  refine im_iload_n C 20 1 dX10_newAddress_19 rfl rfl rfl ?_
  refine im_iconst C 21 dX10_newAddress_20 rfl k_ic4 ?_
  refine im_iadd C 22 dX10_newAddress_21 rfl ?_
  refine im_rdi C 23 170 (h0 33 (by decide) (by decide)) rfl dX10_newAddress_22 rfl (fun v4 => ?_)
  refine im_if_lt C 88 26 dX10_newAddress_23 rfl rfl ?_ ?_
  · refine im_aload_n C 89 2 dX10_newAddress_88 rfl rfl rfl ?_
    refine gl_X10_7 C 92 (h0 32 (by decide) (by decide)) dX10_newAddress_89 rfl ?_
    refine im_iload_n C 93 0 dX10_newAddress_92 rfl rfl rfl ?_
    refine im_rdi C 94 170 (h0 33 (by decide) (by decide)) rfl dX10_newAddress_93 rfl (fun v5 => ?_)
    refine im_istore C 96 [(4, .int v5), (3, .int o3), (2, .int o1), (0, .ref (ad 32 0)), (1, .int x1)] dX10_newAddress_94 (by decide) rfl rfl ?_
    refine im_sub [3, 1, 0] [(0, .ref (ad 32 0)), (3, .int o3), (4, .int v5)] rfl ?_
    refine im_lpI (l_X10_newAddress_96 D o3) (fun z96 => [(0, .ref (ad 32 0)), (3, .int o3), (4, .int z96)]) (fun z96 => D) (fun z96 X_z96 hX_z96 => ?_) FU v5
    unfold l_X10_newAddress_96
    refine im_iload C 98 2 dX10_newAddress_96 rfl rfl ?_
    refine im_aload_n C 99 0 dX10_newAddress_98 rfl rfl rfl ?_
    refine gl_X10_7 C 102 (h0 32 (by decide) (by decide)) dX10_newAddress_99 rfl ?_
    refine im_iload_n C 103 1 dX10_newAddress_102 rfl rfl rfl ?_
    refine im_rdi C 104 170 (h0 33 (by decide) (by decide)) rfl dX10_newAddress_103 rfl (fun v6 => ?_)
    refine im_aload_n C 105 0 dX10_newAddress_104 rfl rfl rfl ?_
    refine gl_X10_7 C 108 (h0 32 (by decide) (by decide)) dX10_newAddress_105 rfl ?_
    refine im_iload_n C 109 1 dX10_newAddress_108 rfl rfl rfl ?_
    refine im_iconst C 110 dX10_newAddress_109 rfl k_ic1 ?_
    refine im_iadd C 111 dX10_newAddress_110 rfl ?_
    refine im_rdi C 112 170 (h0 33 (by decide) (by decide)) rfl dX10_newAddress_111 rfl (fun v7 => ?_)
    refine im_cSP C 115 sk_X10_size gw_1113 (c_X10_size (x0 := v7) hU) (rle rfl) rfl (st := [.int v6, .int z96]) rfl (Nat.le_of_ble_eq_true rfl) dX10_newAddress_112 rfl (fun o8 => ?_)
    refine im_iadd C 116 dX10_newAddress_115 rfl ?_
    refine im_ic_ge C 161 119 dX10_newAddress_116 rfl rfl ?_ ?_
    · refine im_iconst C 162 dX10_newAddress_161 rfl k_icm1 ?_
      exact im_iret C rfl rfl dX10_newAddress_162
    · refine im_iload C 121 2 dX10_newAddress_119 rfl rfl ?_
      refine im_aload_n C 122 0 dX10_newAddress_121 rfl rfl rfl ?_
      refine gl_X10_7 C 125 (h0 32 (by decide) (by decide)) dX10_newAddress_122 rfl ?_
      refine im_iload_n C 126 1 dX10_newAddress_125 rfl rfl rfl ?_
      refine im_rdi C 127 170 (h0 33 (by decide) (by decide)) rfl dX10_newAddress_126 rfl (fun v9 => ?_)
      refine im_aload_n C 128 0 dX10_newAddress_127 rfl rfl rfl ?_
      refine gl_X10_7 C 131 (h0 32 (by decide) (by decide)) dX10_newAddress_128 rfl ?_
      refine im_iload_n C 132 1 dX10_newAddress_131 rfl rfl rfl ?_
      refine im_iconst C 133 dX10_newAddress_132 rfl k_ic1 ?_
      refine im_iadd C 134 dX10_newAddress_133 rfl ?_
      refine im_rdi C 135 170 (h0 33 (by decide) (by decide)) rfl dX10_newAddress_134 rfl (fun v10 => ?_)
      refine im_cSP C 138 sk_X10_canLease gw_1247 (c_X10_canLease (x0 := z96) (x1 := v9) (x2 := v10) hU) (rle rfl) rfl (st := []) rfl (Nat.le_of_ble_eq_true rfl) dX10_newAddress_135 rfl (fun o11 => ?_)
      refine im_if_eq C 155 141 dX10_newAddress_138 rfl rfl ?_ ?_
      · refine im_iinc C 158 2 [(4, .int (z96 + (1 : Int32))), (0, .ref (ad 32 0)), (3, .int o3)] dX10_newAddress_155 rfl (k_inc1) (by decide) rfl rfl ?_
        refine im_goto C 96 dX10_newAddress_158 rfl ?_
        exact im_sub [1, 2, 0] [(0, .ref (ad 32 0)), (3, .int o3), (4, .int (z96 + (1 : Int32)))] rfl (hX_z96 (z96 + (1 : Int32)))
      · refine im_aload_n C 142 0 dX10_newAddress_141 rfl rfl rfl ?_
        refine im_iload C 144 2 dX10_newAddress_142 rfl rfl ?_
        refine im_cVP C 147 vk_X10_holder gw_1302 (c_X10_holder (x1 := z96) hU h0) (h0 32 (by decide) (by decide)) rfl rfl (rle rfl) rfl (st := []) rfl (Nat.le_of_ble_eq_true rfl) dX10_newAddress_144 rfl (fun o12 => ?_)
        refine im_bipush C 149 dX10_newAddress_147 rfl k_bpm9 ?_
        refine im_ic_ne C 155 152 dX10_newAddress_149 rfl rfl ?_ ?_
        · refine im_iinc C 158 2 [(4, .int (z96 + (1 : Int32))), (0, .ref (ad 32 0)), (3, .int o3)] dX10_newAddress_155 rfl (k_inc1) (by decide) rfl rfl ?_
          refine im_goto C 96 dX10_newAddress_158 rfl ?_
          exact im_sub [1, 2, 0] [(0, .ref (ad 32 0)), (3, .int o3), (4, .int (z96 + (1 : Int32)))] rfl (hX_z96 (z96 + (1 : Int32)))
        · refine im_iload C 154 2 dX10_newAddress_152 rfl rfl ?_
          exact im_iret C rfl rfl dX10_newAddress_154
  · refine im_aload_n C 27 2 dX10_newAddress_26 rfl rfl rfl ?_
    refine gl_X10_7 C 30 (h0 32 (by decide) (by decide)) dX10_newAddress_27 rfl ?_
    refine im_iload_n C 31 0 dX10_newAddress_30 rfl rfl rfl ?_
    refine im_rdi C 32 170 (h0 33 (by decide) (by decide)) rfl dX10_newAddress_31 rfl (fun v13 => ?_)
    refine im_aload_n C 33 2 dX10_newAddress_32 rfl rfl rfl ?_
    refine gl_X10_7 C 36 (h0 32 (by decide) (by decide)) dX10_newAddress_33 rfl ?_
    refine im_iload_n C 37 1 dX10_newAddress_36 rfl rfl rfl ?_
    refine im_iconst C 38 dX10_newAddress_37 rfl k_ic4 ?_
    refine im_iadd C 39 dX10_newAddress_38 rfl ?_
    refine im_rdi C 40 170 (h0 33 (by decide) (by decide)) rfl dX10_newAddress_39 rfl (fun v14 => ?_)
    refine im_iadd C 41 dX10_newAddress_40 rfl ?_
    refine im_aload_n C 42 2 dX10_newAddress_41 rfl rfl rfl ?_
    refine gl_X10_7 C 45 (h0 32 (by decide) (by decide)) dX10_newAddress_42 rfl ?_
    refine im_iload_n C 46 0 dX10_newAddress_45 rfl rfl rfl ?_
    refine im_iconst C 47 dX10_newAddress_46 rfl k_ic2 ?_
    refine im_iadd C 48 dX10_newAddress_47 rfl ?_
    refine im_rdi C 49 170 (h0 33 (by decide) (by decide)) rfl dX10_newAddress_48 rfl (fun v15 => ?_)
    refine im_isub C 50 dX10_newAddress_49 rfl ?_
    refine im_istore C 52 [(4, .int ((v13 + v14) - v15)), (3, .int o3), (2, .int o1), (0, .ref (ad 32 0)), (1, .int x1)] dX10_newAddress_50 (by decide) rfl rfl ?_
    refine im_iload C 54 0 dX10_newAddress_52 rfl rfl ?_
    refine im_aload_n C 55 3 dX10_newAddress_54 rfl rfl rfl ?_
    refine gl_X10_7 C 58 (h0 32 (by decide) (by decide)) dX10_newAddress_55 rfl ?_
    refine im_iload_n C 59 1 dX10_newAddress_58 rfl rfl rfl ?_
    refine im_rdi C 60 170 (h0 33 (by decide) (by decide)) rfl dX10_newAddress_59 rfl (fun v16 => ?_)
    refine im_aload_n C 61 3 dX10_newAddress_60 rfl rfl rfl ?_
    refine gl_X10_7 C 64 (h0 32 (by decide) (by decide)) dX10_newAddress_61 rfl ?_
    refine im_iload_n C 65 1 dX10_newAddress_64 rfl rfl rfl ?_
    refine im_iconst C 66 dX10_newAddress_65 rfl k_ic1 ?_
    refine im_iadd C 67 dX10_newAddress_66 rfl ?_
    refine im_rdi C 68 170 (h0 33 (by decide) (by decide)) rfl dX10_newAddress_67 rfl (fun v17 => ?_)
    refine im_cSP C 71 sk_X10_canLease gw_1247 (c_X10_canLease (x0 := (v13 + v14) - v15) (x1 := v16) (x2 := v17) hU) (rle rfl) rfl (st := []) rfl (Nat.le_of_ble_eq_true rfl) dX10_newAddress_68 rfl (fun o18 => ?_)
    refine im_if_eq C 88 74 dX10_newAddress_71 rfl rfl ?_ ?_
    · refine im_aload_n C 89 3 dX10_newAddress_88 rfl rfl rfl ?_
      refine gl_X10_7 C 92 (h0 32 (by decide) (by decide)) dX10_newAddress_89 rfl ?_
      refine im_iload_n C 93 1 dX10_newAddress_92 rfl rfl rfl ?_
      refine im_rdi C 94 170 (h0 33 (by decide) (by decide)) rfl dX10_newAddress_93 rfl (fun v19 => ?_)
      refine im_istore C 96 [(4, .int v19), (3, .int o3), (2, .int o1), (0, .ref (ad 32 0)), (1, .int x1)] dX10_newAddress_94 (by decide) rfl rfl ?_
      refine im_sub [3, 1, 0] [(0, .ref (ad 32 0)), (3, .int o3), (4, .int v19)] rfl ?_
      refine im_lpI (l_X10_newAddress_96_20 D o3) (fun z96_20 => [(0, .ref (ad 32 0)), (3, .int o3), (4, .int z96_20)]) (fun z96_20 => D) (fun z96_20 X_z96_20 hX_z96_20 => ?_) FU v19
      unfold l_X10_newAddress_96_20
      refine im_iload C 98 2 dX10_newAddress_96 rfl rfl ?_
      refine im_aload_n C 99 0 dX10_newAddress_98 rfl rfl rfl ?_
      refine gl_X10_7 C 102 (h0 32 (by decide) (by decide)) dX10_newAddress_99 rfl ?_
      refine im_iload_n C 103 1 dX10_newAddress_102 rfl rfl rfl ?_
      refine im_rdi C 104 170 (h0 33 (by decide) (by decide)) rfl dX10_newAddress_103 rfl (fun v21 => ?_)
      refine im_aload_n C 105 0 dX10_newAddress_104 rfl rfl rfl ?_
      refine gl_X10_7 C 108 (h0 32 (by decide) (by decide)) dX10_newAddress_105 rfl ?_
      refine im_iload_n C 109 1 dX10_newAddress_108 rfl rfl rfl ?_
      refine im_iconst C 110 dX10_newAddress_109 rfl k_ic1 ?_
      refine im_iadd C 111 dX10_newAddress_110 rfl ?_
      refine im_rdi C 112 170 (h0 33 (by decide) (by decide)) rfl dX10_newAddress_111 rfl (fun v22 => ?_)
      refine im_cSP C 115 sk_X10_size gw_1113 (c_X10_size (x0 := v22) hU) (rle rfl) rfl (st := [.int v21, .int z96_20]) rfl (Nat.le_of_ble_eq_true rfl) dX10_newAddress_112 rfl (fun o23 => ?_)
      refine im_iadd C 116 dX10_newAddress_115 rfl ?_
      refine im_ic_ge C 161 119 dX10_newAddress_116 rfl rfl ?_ ?_
      · refine im_iconst C 162 dX10_newAddress_161 rfl k_icm1 ?_
        exact im_iret C rfl rfl dX10_newAddress_162
      · refine im_iload C 121 2 dX10_newAddress_119 rfl rfl ?_
        refine im_aload_n C 122 0 dX10_newAddress_121 rfl rfl rfl ?_
        refine gl_X10_7 C 125 (h0 32 (by decide) (by decide)) dX10_newAddress_122 rfl ?_
        refine im_iload_n C 126 1 dX10_newAddress_125 rfl rfl rfl ?_
        refine im_rdi C 127 170 (h0 33 (by decide) (by decide)) rfl dX10_newAddress_126 rfl (fun v24 => ?_)
        refine im_aload_n C 128 0 dX10_newAddress_127 rfl rfl rfl ?_
        refine gl_X10_7 C 131 (h0 32 (by decide) (by decide)) dX10_newAddress_128 rfl ?_
        refine im_iload_n C 132 1 dX10_newAddress_131 rfl rfl rfl ?_
        refine im_iconst C 133 dX10_newAddress_132 rfl k_ic1 ?_
        refine im_iadd C 134 dX10_newAddress_133 rfl ?_
        refine im_rdi C 135 170 (h0 33 (by decide) (by decide)) rfl dX10_newAddress_134 rfl (fun v25 => ?_)
        refine im_cSP C 138 sk_X10_canLease gw_1247 (c_X10_canLease (x0 := z96_20) (x1 := v24) (x2 := v25) hU) (rle rfl) rfl (st := []) rfl (Nat.le_of_ble_eq_true rfl) dX10_newAddress_135 rfl (fun o26 => ?_)
        refine im_if_eq C 155 141 dX10_newAddress_138 rfl rfl ?_ ?_
        · refine im_iinc C 158 2 [(4, .int (z96_20 + (1 : Int32))), (0, .ref (ad 32 0)), (3, .int o3)] dX10_newAddress_155 rfl (k_inc1) (by decide) rfl rfl ?_
          refine im_goto C 96 dX10_newAddress_158 rfl ?_
          exact im_sub [1, 2, 0] [(0, .ref (ad 32 0)), (3, .int o3), (4, .int (z96_20 + (1 : Int32)))] rfl (hX_z96_20 (z96_20 + (1 : Int32)))
        · refine im_aload_n C 142 0 dX10_newAddress_141 rfl rfl rfl ?_
          refine im_iload C 144 2 dX10_newAddress_142 rfl rfl ?_
          refine im_cVP C 147 vk_X10_holder gw_1302 (c_X10_holder (x1 := z96_20) hU h0) (h0 32 (by decide) (by decide)) rfl rfl (rle rfl) rfl (st := []) rfl (Nat.le_of_ble_eq_true rfl) dX10_newAddress_144 rfl (fun o27 => ?_)
          refine im_bipush C 149 dX10_newAddress_147 rfl k_bpm9 ?_
          refine im_ic_ne C 155 152 dX10_newAddress_149 rfl rfl ?_ ?_
          · refine im_iinc C 158 2 [(4, .int (z96_20 + (1 : Int32))), (0, .ref (ad 32 0)), (3, .int o3)] dX10_newAddress_155 rfl (k_inc1) (by decide) rfl rfl ?_
            refine im_goto C 96 dX10_newAddress_158 rfl ?_
            exact im_sub [1, 2, 0] [(0, .ref (ad 32 0)), (3, .int o3), (4, .int (z96_20 + (1 : Int32)))] rfl (hX_z96_20 (z96_20 + (1 : Int32)))
          · refine im_iload C 154 2 dX10_newAddress_152 rfl rfl ?_
            exact im_iret C rfl rfl dX10_newAddress_154
    · refine im_aload_n C 75 3 dX10_newAddress_74 rfl rfl rfl ?_
      refine im_iload C 77 0 dX10_newAddress_75 rfl rfl ?_
      refine im_cVP C 80 vk_X10_holder gw_1302 (c_X10_holder (x1 := (v13 + v14) - v15) hU h0) (h0 32 (by decide) (by decide)) rfl rfl (rle rfl) rfl (st := []) rfl (Nat.le_of_ble_eq_true rfl) dX10_newAddress_77 rfl (fun o28 => ?_)
      refine im_bipush C 82 dX10_newAddress_80 rfl k_bpm9 ?_
      refine im_ic_ne C 88 85 dX10_newAddress_82 rfl rfl ?_ ?_
      · refine im_aload_n C 89 3 dX10_newAddress_88 rfl rfl rfl ?_
        refine gl_X10_7 C 92 (h0 32 (by decide) (by decide)) dX10_newAddress_89 rfl ?_
        refine im_iload_n C 93 1 dX10_newAddress_92 rfl rfl rfl ?_
        refine im_rdi C 94 170 (h0 33 (by decide) (by decide)) rfl dX10_newAddress_93 rfl (fun v29 => ?_)
        refine im_istore C 96 [(4, .int v29), (3, .int o3), (2, .int o1), (0, .ref (ad 32 0)), (1, .int x1)] dX10_newAddress_94 (by decide) rfl rfl ?_
        refine im_sub [3, 1, 0] [(0, .ref (ad 32 0)), (3, .int o3), (4, .int v29)] rfl ?_
        refine im_lpI (l_X10_newAddress_96_30 D o3) (fun z96_30 => [(0, .ref (ad 32 0)), (3, .int o3), (4, .int z96_30)]) (fun z96_30 => D) (fun z96_30 X_z96_30 hX_z96_30 => ?_) FU v29
        unfold l_X10_newAddress_96_30
        refine im_iload C 98 2 dX10_newAddress_96 rfl rfl ?_
        refine im_aload_n C 99 0 dX10_newAddress_98 rfl rfl rfl ?_
        refine gl_X10_7 C 102 (h0 32 (by decide) (by decide)) dX10_newAddress_99 rfl ?_
        refine im_iload_n C 103 1 dX10_newAddress_102 rfl rfl rfl ?_
        refine im_rdi C 104 170 (h0 33 (by decide) (by decide)) rfl dX10_newAddress_103 rfl (fun v31 => ?_)
        refine im_aload_n C 105 0 dX10_newAddress_104 rfl rfl rfl ?_
        refine gl_X10_7 C 108 (h0 32 (by decide) (by decide)) dX10_newAddress_105 rfl ?_
        refine im_iload_n C 109 1 dX10_newAddress_108 rfl rfl rfl ?_
        refine im_iconst C 110 dX10_newAddress_109 rfl k_ic1 ?_
        refine im_iadd C 111 dX10_newAddress_110 rfl ?_
        refine im_rdi C 112 170 (h0 33 (by decide) (by decide)) rfl dX10_newAddress_111 rfl (fun v32 => ?_)
        refine im_cSP C 115 sk_X10_size gw_1113 (c_X10_size (x0 := v32) hU) (rle rfl) rfl (st := [.int v31, .int z96_30]) rfl (Nat.le_of_ble_eq_true rfl) dX10_newAddress_112 rfl (fun o33 => ?_)
        refine im_iadd C 116 dX10_newAddress_115 rfl ?_
        refine im_ic_ge C 161 119 dX10_newAddress_116 rfl rfl ?_ ?_
        · refine im_iconst C 162 dX10_newAddress_161 rfl k_icm1 ?_
          exact im_iret C rfl rfl dX10_newAddress_162
        · refine im_iload C 121 2 dX10_newAddress_119 rfl rfl ?_
          refine im_aload_n C 122 0 dX10_newAddress_121 rfl rfl rfl ?_
          refine gl_X10_7 C 125 (h0 32 (by decide) (by decide)) dX10_newAddress_122 rfl ?_
          refine im_iload_n C 126 1 dX10_newAddress_125 rfl rfl rfl ?_
          refine im_rdi C 127 170 (h0 33 (by decide) (by decide)) rfl dX10_newAddress_126 rfl (fun v34 => ?_)
          refine im_aload_n C 128 0 dX10_newAddress_127 rfl rfl rfl ?_
          refine gl_X10_7 C 131 (h0 32 (by decide) (by decide)) dX10_newAddress_128 rfl ?_
          refine im_iload_n C 132 1 dX10_newAddress_131 rfl rfl rfl ?_
          refine im_iconst C 133 dX10_newAddress_132 rfl k_ic1 ?_
          refine im_iadd C 134 dX10_newAddress_133 rfl ?_
          refine im_rdi C 135 170 (h0 33 (by decide) (by decide)) rfl dX10_newAddress_134 rfl (fun v35 => ?_)
          refine im_cSP C 138 sk_X10_canLease gw_1247 (c_X10_canLease (x0 := z96_30) (x1 := v34) (x2 := v35) hU) (rle rfl) rfl (st := []) rfl (Nat.le_of_ble_eq_true rfl) dX10_newAddress_135 rfl (fun o36 => ?_)
          refine im_if_eq C 155 141 dX10_newAddress_138 rfl rfl ?_ ?_
          · refine im_iinc C 158 2 [(4, .int (z96_30 + (1 : Int32))), (0, .ref (ad 32 0)), (3, .int o3)] dX10_newAddress_155 rfl (k_inc1) (by decide) rfl rfl ?_
            refine im_goto C 96 dX10_newAddress_158 rfl ?_
            exact im_sub [1, 2, 0] [(0, .ref (ad 32 0)), (3, .int o3), (4, .int (z96_30 + (1 : Int32)))] rfl (hX_z96_30 (z96_30 + (1 : Int32)))
          · refine im_aload_n C 142 0 dX10_newAddress_141 rfl rfl rfl ?_
            refine im_iload C 144 2 dX10_newAddress_142 rfl rfl ?_
            refine im_cVP C 147 vk_X10_holder gw_1302 (c_X10_holder (x1 := z96_30) hU h0) (h0 32 (by decide) (by decide)) rfl rfl (rle rfl) rfl (st := []) rfl (Nat.le_of_ble_eq_true rfl) dX10_newAddress_144 rfl (fun o37 => ?_)
            refine im_bipush C 149 dX10_newAddress_147 rfl k_bpm9 ?_
            refine im_ic_ne C 155 152 dX10_newAddress_149 rfl rfl ?_ ?_
            · refine im_iinc C 158 2 [(4, .int (z96_30 + (1 : Int32))), (0, .ref (ad 32 0)), (3, .int o3)] dX10_newAddress_155 rfl (k_inc1) (by decide) rfl rfl ?_
              refine im_goto C 96 dX10_newAddress_158 rfl ?_
              exact im_sub [1, 2, 0] [(0, .ref (ad 32 0)), (3, .int o3), (4, .int (z96_30 + (1 : Int32)))] rfl (hX_z96_30 (z96_30 + (1 : Int32)))
            · refine im_iload C 154 2 dX10_newAddress_152 rfl rfl ?_
              exact im_iret C rfl rfl dX10_newAddress_154
      · refine im_iload C 87 0 dX10_newAddress_85 rfl rfl ?_
        exact im_iret C rfl rfl dX10_newAddress_87
