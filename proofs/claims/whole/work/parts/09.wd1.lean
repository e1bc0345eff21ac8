set_option maxRecDepth 100000 in
set_option maxHeartbeats 4000000 in
theorem c_X8_isWord {l : Launch} {G : va_G} {ad : Nat → Nat → Nat} {U : List (Nat × Nat)} {D : Dt} {i1 : Nat} (hU : Uinj ad U) (h0 : ToU U) (hii1 : i1 < 5) : MI l G ad U yX8_isWord cX8_isWord 4 .boolean (k2_rm 5 141) [.ref (ad 22 0), .ref (ad 101 i1)] D ((f_X8_isWord i1 D).bind (fun r => some (r, D))) := by
  refine mI_of (lv := [(0, .ref (ad 22 0)), (1, .ref (ad 101 i1))]) (by decide) hU rfl (Nat.le_of_ble_eq_true rfl) (fun A p e s m args below meth c C => ?_)
  have C : Cx G ad U A p s m meth c args cX8_isWord RX8 4 (some .boolean) := C
  unfold f_X8_isWord
  refine im_aload_n C 1 0 dX8_isWord_0 rfl rfl rfl ?_
  refine gl_X8_19 C 4 (h0 22 (by decide) (by decide)) dX8_isWord_1 rfl ?_
  refine im_aload_n C 5 0 dX8_isWord_4 rfl rfl rfl ?_
  refine gl_X8_26 C 8 (h0 22 (by decide) (by decide)) dX8_isWord_5 rfl ?_
  refine im_isub C 9 dX8_isWord_8 rfl ?_
  refine im_aload_n C 10 1 dX8_isWord_9 rfl rfl rfl ?_
  refine im_strlen C 13 gw_402 hii1 (rle rfl) (st := [.int ((D 22 0 2) - (D 22 0 4))]) (Nat.le_of_ble_eq_true rfl) dX8_isWord_10 rfl (fun o1 => ?_)
  refine im_ic_eq C 18 16 dX8_isWord_13 rfl rfl ?_ ?_
  · refine im_iconst C 19 dX8_isWord_18 rfl k_ic0 ?_
    refine im_istore_n C 20 [(2, .int (0 : Int32)), (0, .ref (ad 22 0)), (1, .ref (ad 101 i1))] dX8_isWord_19 rfl (by decide) rfl rfl ?_
    refine im_sub [1, 2, 0] [(0, .ref (ad 22 0)), (1, .ref (ad 101 i1)), (2, .int (0 : Int32))] rfl ?_
    refine im_lpI (l_X8_isWord_20 i1 D) (fun z20 => [(0, .ref (ad 22 0)), (1, .ref (ad 101 i1)), (2, .int z20)]) (fun z20 => D) (fun z20 X_z20 hX_z20 => ?_) FU (0 : Int32)
    unfold l_X8_isWord_20
    refine im_iload_n C 21 2 dX8_isWord_20 rfl rfl rfl ?_
    refine im_aload_n C 22 1 dX8_isWord_21 rfl rfl rfl ?_
    refine im_strlen C 25 gw_402 hii1 (rle rfl) (st := [.int z20]) (Nat.le_of_ble_eq_true rfl) dX8_isWord_22 rfl (fun o2 => ?_)
    refine im_ic_ge C 68 28 dX8_isWord_25 rfl rfl ?_ ?_
    · refine im_iconst C 69 dX8_isWord_68 rfl k_ic1 ?_
      exact im_iret C rfl rfl dX8_isWord_69
    · refine im_aload_n C 29 0 dX8_isWord_28 rfl rfl rfl ?_
      refine gl_X8_26 C 32 (h0 22 (by decide) (by decide)) dX8_isWord_29 rfl ?_
      refine im_iload_n C 33 2 dX8_isWord_32 rfl rfl rfl ?_
      refine im_iadd C 34 dX8_isWord_33 rfl ?_
      refine im_istore_n C 35 [(3, .int ((D 22 0 4) + z20)), (0, .ref (ad 22 0)), (1, .ref (ad 101 i1)), (2, .int z20)] dX8_isWord_34 rfl (by decide) rfl rfl ?_
      refine im_iload_n C 36 0 dX8_isWord_35 rfl rfl rfl ?_
      refine im_if_lt C 60 39 dX8_isWord_36 rfl rfl ?_ ?_
      · refine im_iconst C 61 dX8_isWord_60 rfl k_ic0 ?_
        exact im_iret C rfl rfl dX8_isWord_61
      · refine im_iload_n C 40 0 dX8_isWord_39 rfl rfl rfl ?_
        refine im_sipush C 43 dX8_isWord_40 rfl k_sp150 ?_
        refine im_ic_ge C 60 46 dX8_isWord_43 rfl rfl ?_ ?_
        · refine im_iconst C 61 dX8_isWord_60 rfl k_ic0 ?_
          exact im_iret C rfl rfl dX8_isWord_61
        · refine im_aload_n C 47 1 dX8_isWord_46 rfl rfl rfl ?_
          refine gl_X8_9 C 50 (h0 22 (by decide) (by decide)) dX8_isWord_47 rfl ?_
          refine im_iload_n C 51 0 dX8_isWord_50 rfl rfl rfl ?_
          refine im_rdc C 52 150 (h0 23 (by decide) (by decide)) rfl dX8_isWord_51 rfl (fun v3 => ?_)
          refine im_aload_n C 53 2 dX8_isWord_52 rfl rfl rfl ?_
          refine im_iload_n C 54 3 dX8_isWord_53 rfl rfl rfl ?_
          refine im_strchar C 57 gw_412 hii1 (rle rfl) (st := [.int v3]) (Nat.le_of_ble_eq_true rfl) dX8_isWord_54 rfl (fun o4 => ?_)
          refine im_ic_eq C 62 60 dX8_isWord_57 rfl rfl ?_ ?_
          · refine im_iinc C 65 3 [(2, .int (z20 + (1 : Int32))), (3, .int ((D 22 0 4) + z20)), (0, .ref (ad 22 0)), (1, .ref (ad 101 i1))] dX8_isWord_62 rfl (k_inc1) (by decide) rfl rfl ?_
            refine im_goto C 20 dX8_isWord_65 rfl ?_
            exact im_sub [2, 3, 0] [(0, .ref (ad 22 0)), (1, .ref (ad 101 i1)), (2, .int (z20 + (1 : Int32)))] rfl (hX_z20 (z20 + (1 : Int32)))
          · refine im_iconst C 61 dX8_isWord_60 rfl k_ic0 ?_
            exact im_iret C rfl rfl dX8_isWord_61
  · refine im_iconst C 17 dX8_isWord_16 rfl k_ic0 ?_
    exact im_iret C rfl rfl dX8_isWord_17
set_option maxRecDepth 100000 in
set_option maxHeartbeats 4000000 in
theorem c_X8_readWord {l : Launch} {G : va_G} {ad : Nat → Nat → Nat} {U : List (Nat × Nat)} {D : Dt} (hU : Uinj ad U) (h0 : ToU U) : MV l G ad U yX8_readWord cX8_readWord 1 (k2_rm 6 164) [.ref (ad 22 0)] D (f_X8_readWord D) := by
  refine mV_of0 (lv := [(0, .ref (ad 22 0))]) (by decide) hU rfl (Nat.le_of_ble_eq_true rfl) (fun A p e s m args below meth c C => ?_)
  have C : Cx G ad U A p s m meth c args cX8_readWord RX8 1 none := C
  unfold f_X8_readWord
  refine im_lpB l_X8_readWord_0 (fun z0 => [(0, .ref (ad 22 0))]) (fun z0 => z0) 35 (fun e1 => [(0, .ref (ad 22 0))]) (fun e1 => e1) (fun e1 => ?_) (fun z0 X_z0 hX_z0 hE_z0 => ?_) FU D
  · refine im_aload_n C 36 0 dX8_readWord_35 rfl rfl rfl ?_
    refine im_ldcS C 38 0 dX8_readWord_36 rfl rfl ?_
    refine im_cVP C 41 vk_X8_isWord gw_398 (c_X8_isWord (i1 := 0) hU h0 (by decide)) (h0 22 (by decide) (by decide)) rfl rfl (rle rfl) rfl (st := []) rfl (Nat.le_of_ble_eq_true rfl) dX8_readWord_38 rfl (fun o4 => ?_)
    refine im_if_eq C 52 44 dX8_readWord_41 rfl rfl ?_ ?_
    · refine im_aload_n C 53 0 dX8_readWord_52 rfl rfl rfl ?_
      refine im_ldcS C 55 1 dX8_readWord_53 rfl rfl ?_
      refine im_cVP C 58 vk_X8_isWord gw_398 (c_X8_isWord (i1 := 1) hU h0 (by decide)) (h0 22 (by decide) (by decide)) rfl rfl (rle rfl) rfl (st := []) rfl (Nat.le_of_ble_eq_true rfl) dX8_readWord_55 rfl (fun o5 => ?_)
      refine im_if_eq C 69 61 dX8_readWord_58 rfl rfl ?_ ?_
      · refine im_aload_n C 70 0 dX8_readWord_69 rfl rfl rfl ?_
        refine im_ldcS C 72 2 dX8_readWord_70 rfl rfl ?_
        refine im_cVP C 75 vk_X8_isWord gw_398 (c_X8_isWord (i1 := 2) hU h0 (by decide)) (h0 22 (by decide) (by decide)) rfl rfl (rle rfl) rfl (st := []) rfl (Nat.le_of_ble_eq_true rfl) dX8_readWord_72 rfl (fun o6 => ?_)
        refine im_if_eq C 87 78 dX8_readWord_75 rfl rfl ?_ ?_
        · refine im_aload_n C 88 0 dX8_readWord_87 rfl rfl rfl ?_
          refine im_ldcS C 90 3 dX8_readWord_88 rfl rfl ?_
          refine im_cVP C 93 vk_X8_isWord gw_398 (c_X8_isWord (i1 := 3) hU h0 (by decide)) (h0 22 (by decide) (by decide)) rfl rfl (rle rfl) rfl (st := []) rfl (Nat.le_of_ble_eq_true rfl) dX8_readWord_90 rfl (fun o7 => ?_)
          refine im_if_eq C 105 96 dX8_readWord_93 rfl rfl ?_ ?_
          · refine im_aload_n C 106 0 dX8_readWord_105 rfl rfl rfl ?_
            refine im_aload_n C 107 0 dX8_readWord_106 rfl rfl rfl ?_
            refine im_ldcS C 109 4 dX8_readWord_107 rfl rfl ?_
            refine im_cVP C 112 vk_X8_isWord gw_398 (c_X8_isWord (i1 := 4) hU h0 (by decide)) (h0 22 (by decide) (by decide)) rfl rfl (rle rfl) rfl (st := [.ref (ad 22 0)]) rfl (Nat.le_of_ble_eq_true rfl) dX8_readWord_109 rfl (fun o8 => ?_)
            refine im_if_eq C 120 115 dX8_readWord_112 rfl rfl ?_ ?_
            · refine im_iconst C 121 dX8_readWord_120 rfl k_ic0 ?_
              refine pl_X8_29 C 124 (h0 22 (by decide) (by decide)) dX8_readWord_121 rfl (fun D9 => ?_)
              exact im_vret C rfl dX8_readWord_124
            · refine im_bipush C 117 dX8_readWord_115 rfl k_bp8 ?_
              refine im_goto C 121 dX8_readWord_117 rfl ?_
              refine pl_X8_29 C 124 (h0 22 (by decide) (by decide)) dX8_readWord_121 rfl (fun D10 => ?_)
              exact im_vret C rfl dX8_readWord_124
          · refine im_aload_n C 97 0 dX8_readWord_96 rfl rfl rfl ?_
            refine im_bipush C 99 dX8_readWord_97 rfl k_bp7 ?_
            refine pl_X8_29 C 102 (h0 22 (by decide) (by decide)) dX8_readWord_99 rfl (fun D11 => ?_)
            refine im_goto C 124 dX8_readWord_102 rfl ?_
            exact im_vret C rfl dX8_readWord_124
        · refine im_aload_n C 79 0 dX8_readWord_78 rfl rfl rfl ?_
          refine im_bipush C 81 dX8_readWord_79 rfl k_bp6 ?_
          refine pl_X8_29 C 84 (h0 22 (by decide) (by decide)) dX8_readWord_81 rfl (fun D12 => ?_)
          refine im_goto C 124 dX8_readWord_84 rfl ?_
          exact im_vret C rfl dX8_readWord_124
      · refine im_aload_n C 62 0 dX8_readWord_61 rfl rfl rfl ?_
        refine im_iconst C 63 dX8_readWord_62 rfl k_ic5 ?_
        refine pl_X8_29 C 66 (h0 22 (by decide) (by decide)) dX8_readWord_63 rfl (fun D13 => ?_)
        refine im_goto C 124 dX8_readWord_66 rfl ?_
        exact im_vret C rfl dX8_readWord_124
    · refine im_aload_n C 45 0 dX8_readWord_44 rfl rfl rfl ?_
      refine im_iconst C 46 dX8_readWord_45 rfl k_ic4 ?_
      refine pl_X8_29 C 49 (h0 22 (by decide) (by decide)) dX8_readWord_46 rfl (fun D14 => ?_)
      refine im_goto C 124 dX8_readWord_49 rfl ?_
      exact im_vret C rfl dX8_readWord_124
  · unfold l_X8_readWord_0
    refine im_aload_n C 1 0 dX8_readWord_0 rfl rfl rfl ?_
    refine gl_X8_19 C 4 (h0 22 (by decide) (by decide)) dX8_readWord_1 rfl ?_
    refine im_aload_n C 5 0 dX8_readWord_4 rfl rfl rfl ?_
    refine gl_X8_15 C 8 (h0 22 (by decide) (by decide)) dX8_readWord_5 rfl ?_
    refine im_ic_ge C 35 11 dX8_readWord_8 rfl rfl ?_ ?_
    · exact hE_z0 z0
    · refine im_aload_n C 12 0 dX8_readWord_11 rfl rfl rfl ?_
      refine im_aload_n C 13 0 dX8_readWord_12 rfl rfl rfl ?_
      refine gl_X8_19 C 16 (h0 22 (by decide) (by decide)) dX8_readWord_13 rfl ?_
      refine im_cVP C 19 vk_X8_isLetter gw_389 (c_X8_isLetter (x1 := z0 22 0 2) hU h0) (h0 22 (by decide) (by decide)) rfl rfl (rle rfl) rfl (st := []) rfl (Nat.le_of_ble_eq_true rfl) dX8_readWord_16 rfl (fun o2 => ?_)
      refine im_if_eq C 35 22 dX8_readWord_19 rfl rfl ?_ ?_
      · exact hE_z0 z0
      · refine im_aload_n C 23 0 dX8_readWord_22 rfl rfl rfl ?_
        refine im_dup C 24 dX8_readWord_23 rfl rfl ?_
        refine gl_X8_19 C 27 (h0 22 (by decide) (by decide)) dX8_readWord_24 rfl ?_
        refine im_iconst C 28 dX8_readWord_27 rfl k_ic1 ?_
        refine im_iadd C 29 dX8_readWord_28 rfl ?_
        refine pl_X8_19 C 32 (h0 22 (by decide) (by decide)) dX8_readWord_29 rfl (fun D3 => ?_)
        refine im_goto C 0 dX8_readWord_32 rfl ?_
        exact hX_z0 D3
set_option maxRecDepth 100000 in
set_option maxHeartbeats 4000000 in
theorem c_X8_readToken {l : Launch} {G : va_G} {ad : Nat → Nat → Nat} {U : List (Nat × Nat)} {D : Dt} (hU : Uinj ad U) (h0 : ToU U) : MV l G ad U yX8_readToken cX8_readToken 1 (k2_rm 7 184) [.ref (ad 22 0)] D (f_X8_readToken D) := by
  refine mV_of0 (lv := [(0, .ref (ad 22 0))]) (by decide) hU rfl (Nat.le_of_ble_eq_true rfl) (fun A p e s m args below meth c C => ?_)
  have C : Cx G ad U A p s m meth c args cX8_readToken RX8 1 none := C
  unfold f_X8_readToken
  refine im_lpB l_X8_readToken_0 (fun z0 => [(0, .ref (ad 22 0))]) (fun z0 => z0) 49 (fun e1 => [(0, .ref (ad 22 0))]) (fun e1 => e1) (fun e1 => ?_) (fun z0 X_z0 hX_z0 hE_z0 => ?_) FU D
  · refine im_aload_n C 50 0 dX8_readToken_49 rfl rfl rfl ?_
    refine im_aload_n C 51 0 dX8_readToken_50 rfl rfl rfl ?_
    refine gl_X8_19 C 54 (h0 22 (by decide) (by decide)) dX8_readToken_51 rfl ?_
    refine pl_X8_26 C 57 (h0 22 (by decide) (by decide)) dX8_readToken_54 rfl (fun D5 => ?_)
    refine im_aload_n C 58 0 dX8_readToken_57 rfl rfl rfl ?_
    refine im_aload_n C 59 0 dX8_readToken_58 rfl rfl rfl ?_
    refine gl_X8_26 C 62 (h0 22 (by decide) (by decide)) dX8_readToken_59 rfl ?_
    refine im_cVP C 65 vk_X8_isWithin gw_385 (c_X8_isWithin (x1 := D5 22 0 4) hU h0) (h0 22 (by decide) (by decide)) rfl rfl (rle rfl) rfl (st := []) rfl (Nat.le_of_ble_eq_true rfl) dX8_readToken_62 rfl (fun o6 => ?_)
    refine im_if_ne C 76 68 dX8_readToken_65 rfl rfl ?_ ?_
    · refine im_aload_n C 77 0 dX8_readToken_76 rfl rfl rfl ?_
      refine im_aload_n C 78 0 dX8_readToken_77 rfl rfl rfl ?_
      refine gl_X8_26 C 81 (h0 22 (by decide) (by decide)) dX8_readToken_78 rfl ?_
      refine im_cVP C 84 vk_X8_isLetter gw_389 (c_X8_isLetter (x1 := D5 22 0 4) hU h0) (h0 22 (by decide) (by decide)) rfl rfl (rle rfl) rfl (st := []) rfl (Nat.le_of_ble_eq_true rfl) dX8_readToken_81 rfl (fun o7 => ?_)
      refine im_if_eq C 94 87 dX8_readToken_84 rfl rfl ?_ ?_
      · refine im_aload_n C 95 0 dX8_readToken_94 rfl rfl rfl ?_
        refine im_aload_n C 96 0 dX8_readToken_95 rfl rfl rfl ?_
        refine gl_X8_26 C 99 (h0 22 (by decide) (by decide)) dX8_readToken_96 rfl ?_
        refine im_cVP C 102 vk_X8_isDigit gw_454 (c_X8_isDigit (x1 := D5 22 0 4) hU h0) (h0 22 (by decide) (by decide)) rfl rfl (rle rfl) rfl (st := []) rfl (Nat.le_of_ble_eq_true rfl) dX8_readToken_99 rfl (fun o8 => ?_)
        refine im_if_eq C 112 105 dX8_readToken_102 rfl rfl ?_ ?_
        · refine im_aload_n C 113 0 dX8_readToken_112 rfl rfl rfl ?_
          refine im_aload_n C 114 0 dX8_readToken_113 rfl rfl rfl ?_
          refine gl_X8_9 C 117 (h0 22 (by decide) (by decide)) dX8_readToken_114 rfl ?_
          refine im_aload_n C 118 0 dX8_readToken_117 rfl rfl rfl ?_
          refine gl_X8_26 C 121 (h0 22 (by decide) (by decide)) dX8_readToken_118 rfl ?_
          refine im_rdc C 122 150 (h0 23 (by decide) (by decide)) rfl dX8_readToken_121 rfl (fun v9 => ?_)
          refine im_bipush C 124 dX8_readToken_122 rfl k_bp59 ?_
          refine im_ic_ne C 131 127 dX8_readToken_124 rfl rfl ?_ ?_
          · refine im_iconst C 132 dX8_readToken_131 rfl k_ic0 ?_
            refine pl_X8_29 C 135 (h0 22 (by decide) (by decide)) dX8_readToken_132 rfl (fun D10 => ?_)
            refine im_aload_n C 136 0 dX8_readToken_135 rfl rfl rfl ?_
            refine im_dup C 137 dX8_readToken_136 rfl rfl ?_
            refine gl_X8_19 C 140 (h0 22 (by decide) (by decide)) dX8_readToken_137 rfl ?_
            refine im_iconst C 141 dX8_readToken_140 rfl k_ic1 ?_
            refine im_iadd C 142 dX8_readToken_141 rfl ?_
            refine pl_X8_19 C 145 (h0 22 (by decide) (by decide)) dX8_readToken_142 rfl (fun D11 => ?_)
            exact im_vret C rfl dX8_readToken_145
          · refine im_iconst C 128 dX8_readToken_127 rfl k_ic2 ?_
            refine im_goto C 132 dX8_readToken_128 rfl ?_
            refine pl_X8_29 C 135 (h0 22 (by decide) (by decide)) dX8_readToken_132 rfl (fun D12 => ?_)
            refine im_aload_n C 136 0 dX8_readToken_135 rfl rfl rfl ?_
            refine im_dup C 137 dX8_readToken_136 rfl rfl ?_
            refine gl_X8_19 C 140 (h0 22 (by decide) (by decide)) dX8_readToken_137 rfl ?_
            refine im_iconst C 141 dX8_readToken_140 rfl k_ic1 ?_
            refine im_iadd C 142 dX8_readToken_141 rfl ?_
            refine pl_X8_19 C 145 (h0 22 (by decide) (by decide)) dX8_readToken_142 rfl (fun D13 => ?_)
            exact im_vret C rfl dX8_readToken_145
        · refine im_aload_n C 106 0 dX8_readToken_105 rfl rfl rfl ?_
          refine im_cVV C 109 vk_X8_readNumber gw_458 (c_X8_readNumber  hU h0) (h0 22 (by decide) (by decide)) rfl rfl (rle rfl) rfl (st := []) rfl (Nat.le_of_ble_eq_true rfl) dX8_readToken_106 rfl (fun D14 => ?_)
          refine im_goto C 145 dX8_readToken_109 rfl ?_
          exact im_vret C rfl dX8_readToken_145
      · refine im_aload_n C 88 0 dX8_readToken_87 rfl rfl rfl ?_
        refine im_cVV C 91 vk_X8_readWord gw_393 (c_X8_readWord  hU h0) (h0 22 (by decide) (by decide)) rfl rfl (rle rfl) rfl (st := []) rfl (Nat.le_of_ble_eq_true rfl) dX8_readToken_88 rfl (fun D15 => ?_)
        refine im_goto C 145 dX8_readToken_91 rfl ?_
        exact im_vret C rfl dX8_readToken_145
    · refine im_aload_n C 69 0 dX8_readToken_68 rfl rfl rfl ?_
      refine im_iconst C 70 dX8_readToken_69 rfl k_ic1 ?_
      refine pl_X8_29 C 73 (h0 22 (by decide) (by decide)) dX8_readToken_70 rfl (fun D16 => ?_)
      refine im_goto C 145 dX8_readToken_73 rfl ?_
      exact im_vret C rfl dX8_readToken_145
  · unfold l_X8_readToken_0
    refine im_aload_n C 1 0 dX8_readToken_0 rfl rfl rfl ?_
    refine gl_X8_19 C 4 (h0 22 (by decide) (by decide)) dX8_readToken_1 rfl ?_
    refine im_aload_n C 5 0 dX8_readToken_4 rfl rfl rfl ?_
    refine gl_X8_15 C 8 (h0 22 (by decide) (by decide)) dX8_readToken_5 rfl ?_
    refine im_ic_ge C 49 11 dX8_readToken_8 rfl rfl ?_ ?_
    · exact hE_z0 z0
    · refine im_aload_n C 12 0 dX8_readToken_11 rfl rfl rfl ?_
      refine im_aload_n C 13 0 dX8_readToken_12 rfl rfl rfl ?_
      refine gl_X8_19 C 16 (h0 22 (by decide) (by decide)) dX8_readToken_13 rfl ?_
      refine im_cVP C 19 vk_X8_isWithin gw_385 (c_X8_isWithin (x1 := z0 22 0 2) hU h0) (h0 22 (by decide) (by decide)) rfl rfl (rle rfl) rfl (st := []) rfl (Nat.le_of_ble_eq_true rfl) dX8_readToken_16 rfl (fun o2 => ?_)
      refine im_if_eq C 49 22 dX8_readToken_19 rfl rfl ?_ ?_
      · exact hE_z0 z0
      · refine im_aload_n C 23 0 dX8_readToken_22 rfl rfl rfl ?_
        refine gl_X8_9 C 26 (h0 22 (by decide) (by decide)) dX8_readToken_23 rfl ?_
        refine im_aload_n C 27 0 dX8_readToken_26 rfl rfl rfl ?_
        refine gl_X8_19 C 30 (h0 22 (by decide) (by decide)) dX8_readToken_27 rfl ?_
        refine im_rdc C 31 150 (h0 23 (by decide) (by decide)) rfl dX8_readToken_30 rfl (fun v3 => ?_)
        refine im_bipush C 33 dX8_readToken_31 rfl k_bp32 ?_
        refine im_ic_ne C 49 36 dX8_readToken_33 rfl rfl ?_ ?_
        · exact hE_z0 z0
        · refine im_aload_n C 37 0 dX8_readToken_36 rfl rfl rfl ?_
          refine im_dup C 38 dX8_readToken_37 rfl rfl ?_
          refine gl_X8_19 C 41 (h0 22 (by decide) (by decide)) dX8_readToken_38 rfl ?_
          refine im_iconst C 42 dX8_readToken_41 rfl k_ic1 ?_
          refine im_iadd C 43 dX8_readToken_42 rfl ?_
          refine pl_X8_19 C 46 (h0 22 (by decide) (by decide)) dX8_readToken_43 rfl (fun D4 => ?_)
          refine im_goto C 0 dX8_readToken_46 rfl ?_
          exact hX_z0 D4
set_option maxRecDepth 100000 in
set_option maxHeartbeats 4000000 in
theorem c_X4_readRange {l : Launch} {G : va_G} {ad : Nat → Nat → Nat} {U : List (Nat × Nat)} {D : Dt} {x1 : Int32} {x2 : Int32} (hU : Uinj ad U) (h0 : ReU U) : MI l G ad U yX4_readRange cX4_readRange 3 .boolean (k2_rm 8 204) [.ref (ad 26 0), .int x1, .int x2] D (f_X4_readRange x1 x2 D) := by
  refine mI_of0 (lv := [(0, .ref (ad 26 0)), (1, .int x1), (2, .int x2)]) (by decide) hU rfl (Nat.le_of_ble_eq_true rfl) (fun A p e s m args below meth c C => ?_)
  have C : Cx G ad U A p s m meth c args cX4_readRange RX4 3 (some .boolean) := C
  unfold f_X4_readRange
  refine im_aload_n C 1 0 dX4_readRange_0 rfl rfl rfl ?_
  refine gl_X4_9 C 4 (h0.1 26 (by decide) (by decide)) dX4_readRange_1 rfl ?_
  refine im_cVV C 7 vk_X8_readToken gw_381 (c_X8_readToken  hU h0.2.1) (h0.2.1 22 (by decide) (by decide)) rfl rfl (rle rfl) rfl (st := []) rfl (Nat.le_of_ble_eq_true rfl) dX4_readRange_4 rfl (fun D1 => ?_)
  refine im_aload_n C 8 0 dX4_readRange_7 rfl rfl rfl ?_
  refine gl_X4_9 C 11 (h0.1 26 (by decide) (by decide)) dX4_readRange_8 rfl ?_
  refine gl_X4_36 C 14 (h0.2.1 22 (by decide) (by decide)) dX4_readRange_11 rfl ?_
  refine im_iconst C 15 dX4_readRange_14 rfl k_ic3 ?_
  refine im_ic_ne C 37 18 dX4_readRange_15 rfl rfl ?_ ?_
  · refine im_iconst C 38 dX4_readRange_37 rfl k_ic0 ?_
    exact im_iret C rfl rfl dX4_readRange_38
  · refine im_aload_n C 19 0 dX4_readRange_18 rfl rfl rfl ?_
    refine gl_X4_9 C 22 (h0.1 26 (by decide) (by decide)) dX4_readRange_19 rfl ?_
    refine gl_X4_70 C 25 (h0.2.1 22 (by decide) (by decide)) dX4_readRange_22 rfl ?_
    refine im_iload_n C 26 1 dX4_readRange_25 rfl rfl rfl ?_
    refine im_iload_n C 27 2 dX4_readRange_26 rfl rfl rfl ?_
    refine im_cSNP C 30 sk_X9_isIn gw_471 (c_X9_isIn (x0 := D1 22 0 5) (x1 := x1) (x2 := x2) hU) (rle rfl) rfl (st := []) rfl (Nat.le_of_ble_eq_true rfl) dX4_readRange_27 rfl (fun o2 => ?_)
    refine im_if_eq C 37 33 dX4_readRange_30 rfl rfl ?_ ?_
    · refine im_iconst C 38 dX4_readRange_37 rfl k_ic0 ?_
      exact im_iret C rfl rfl dX4_readRange_38
    · refine im_iconst C 34 dX4_readRange_33 rfl k_ic1 ?_
      refine im_goto C 38 dX4_readRange_34 rfl ?_
      exact im_iret C rfl rfl dX4_readRange_38
set_option maxRecDepth 100000 in
set_option maxHeartbeats 4000000 in
theorem c_X4_readSemicolon {l : Launch} {G : va_G} {ad : Nat → Nat → Nat} {U : List (Nat × Nat)} {D : Dt} (hU : Uinj ad U) (h0 : ReU U) : MI l G ad U yX4_readSemicolon cX4_readSemicolon 1 .boolean (k2_rm 8 204) [.ref (ad 26 0)] D (f_X4_readSemicolon D) := by
  refine mI_of0 (lv := [(0, .ref (ad 26 0))]) (by decide) hU rfl (Nat.le_of_ble_eq_true rfl) (fun A p e s m args below meth c C => ?_)
  have C : Cx G ad U A p s m meth c args cX4_readSemicolon RX4 1 (some .boolean) := C
  unfold f_X4_readSemicolon
  refine im_aload_n C 1 0 dX4_readSemicolon_0 rfl rfl rfl ?_
  refine gl_X4_9 C 4 (h0.1 26 (by decide) (by decide)) dX4_readSemicolon_1 rfl ?_
  refine im_cVV C 7 vk_X8_readToken gw_381 (c_X8_readToken  hU h0.2.1) (h0.2.1 22 (by decide) (by decide)) rfl rfl (rle rfl) rfl (st := []) rfl (Nat.le_of_ble_eq_true rfl) dX4_readSemicolon_4 rfl (fun D1 => ?_)
  refine im_aload_n C 8 0 dX4_readSemicolon_7 rfl rfl rfl ?_
  refine gl_X4_9 C 11 (h0.1 26 (by decide) (by decide)) dX4_readSemicolon_8 rfl ?_
  refine gl_X4_36 C 14 (h0.2.1 22 (by decide) (by decide)) dX4_readSemicolon_11 rfl ?_
  refine im_iconst C 15 dX4_readSemicolon_14 rfl k_ic2 ?_
  refine im_ic_ne C 22 18 dX4_readSemicolon_15 rfl rfl ?_ ?_
  · refine im_iconst C 23 dX4_readSemicolon_22 rfl k_ic0 ?_
    exact im_iret C rfl rfl dX4_readSemicolon_23
  · refine im_iconst C 19 dX4_readSemicolon_18 rfl k_ic1 ?_
    refine im_goto C 23 dX4_readSemicolon_19 rfl ?_
    exact im_iret C rfl rfl dX4_readSemicolon_23
set_option maxRecDepth 100000 in
set_option maxHeartbeats 4000000 in
theorem c_X4_readPool {l : Launch} {G : va_G} {ad : Nat → Nat → Nat} {U : List (Nat × Nat)} {D : Dt} (hU : Uinj ad U) (h0 : ReU U) : MI l G ad U yX4_readPool cX4_readPool 3 .boolean (k2_rm 9 226) [.ref (ad 26 0)] D (f_X4_readPool D) := by
  refine mI_of0 (lv := [(0, .ref (ad 26 0))]) (by decide) hU rfl (Nat.le_of_ble_eq_true rfl) (fun A p e s m args below meth c C => ?_)
  have C : Cx G ad U A p s m meth c args cX4_readPool RX4 3 (some .boolean) := C
  unfold f_X4_readPool
  refine im_aload_n C 1 0 dX4_readPool_0 rfl rfl rfl ?_
  refine gl_X4_15 C 4 (h0.1 26 (by decide) (by decide)) dX4_readPool_1 rfl ?_
  refine gl_X4_56 C 7 (h0.2.2.1.1 0 (by decide) (by decide)) dX4_readPool_4 rfl ?_
  refine gl_X4_60 C 10 (h0.2.2.1.2.1 1 (by decide) (by decide)) dX4_readPool_7 rfl ?_
  refine im_iconst C 11 dX4_readPool_10 rfl k_ic4 ?_
  refine im_ic_ge C 24 14 dX4_readPool_11 rfl rfl ?_ ?_
  · refine im_iconst C 25 dX4_readPool_24 rfl k_ic0 ?_
    exact im_iret C rfl rfl dX4_readPool_25
  · refine im_aload_n C 15 0 dX4_readPool_14 rfl rfl rfl ?_
    refine im_iconst C 16 dX4_readPool_15 rfl k_ic0 ?_
    refine im_ldc C 18 gw_466 dX4_readPool_16 rfl ?_
    refine im_cVI C 21 vk_X4_readRange gw_467 (c_X4_readRange (x1 := (0 : Int32)) (x2 := (65535 : Int32)) hU h0) (h0.1 26 (by decide) (by decide)) rfl rfl (rle rfl) rfl (st := []) rfl (Nat.le_of_ble_eq_true rfl) dX4_readPool_18 rfl (fun o1 => ?_)
    refine im_if_ne C 26 24 dX4_readPool_21 rfl rfl ?_ ?_
    · refine im_aload_n C 27 0 dX4_readPool_26 rfl rfl rfl ?_
      refine gl_X4_9 C 30 (h0.1 26 (by decide) (by decide)) dX4_readPool_27 rfl ?_
      refine gl_X4_70 C 33 (h0.2.1 22 (by decide) (by decide)) dX4_readPool_30 rfl ?_
      refine im_istore_n C 34 [(1, .int (o1.2 22 0 5)), (0, .ref (ad 26 0))] dX4_readPool_33 rfl (by decide) rfl rfl ?_
      refine im_aload_n C 35 1 dX4_readPool_34 rfl rfl rfl ?_
      refine im_iconst C 36 dX4_readPool_35 rfl k_ic4 ?_
      refine im_bipush C 38 dX4_readPool_36 rfl k_bp14 ?_
      refine im_cVI C 41 vk_X4_readRange gw_467 (c_X4_readRange (x1 := (4 : Int32)) (x2 := (14 : Int32)) hU h0) (h0.1 26 (by decide) (by decide)) rfl rfl (rle rfl) rfl (st := []) rfl (Nat.le_of_ble_eq_true rfl) dX4_readPool_38 rfl (fun o2 => ?_)
      refine im_if_ne C 46 44 dX4_readPool_41 rfl rfl ?_ ?_
      · refine im_aload_n C 47 1 dX4_readPool_46 rfl rfl rfl ?_
        refine gl_X4_9 C 50 (h0.1 26 (by decide) (by decide)) dX4_readPool_47 rfl ?_
        refine gl_X4_70 C 53 (h0.2.1 22 (by decide) (by decide)) dX4_readPool_50 rfl ?_
        refine im_istore_n C 54 [(2, .int (o2.2 22 0 5)), (1, .int (o1.2 22 0 5)), (0, .ref (ad 26 0))] dX4_readPool_53 rfl (by decide) rfl rfl ?_
        refine im_iload_n C 55 1 dX4_readPool_54 rfl rfl rfl ?_
        refine im_iload_n C 56 0 dX4_readPool_55 rfl rfl rfl ?_
        refine im_cSNP C 59 sk_X9_isAligned gw_472 (c_X9_isAligned (x0 := o1.2 22 0 5) (x1 := o2.2 22 0 5) hU) (rle rfl) rfl (st := []) rfl (Nat.le_of_ble_eq_true rfl) dX4_readPool_56 rfl (fun o3 => ?_)
        refine im_if_eq C 77 62 dX4_readPool_59 rfl rfl ?_ ?_
        · refine im_iconst C 78 dX4_readPool_77 rfl k_ic0 ?_
          exact im_iret C rfl rfl dX4_readPool_78
        · refine im_aload_n C 63 2 dX4_readPool_62 rfl rfl rfl ?_
          refine gl_X4_15 C 66 (h0.1 26 (by decide) (by decide)) dX4_readPool_63 rfl ?_
          refine gl_X4_56 C 69 (h0.2.2.1.1 0 (by decide) (by decide)) dX4_readPool_66 rfl ?_
          refine im_iload_n C 70 1 dX4_readPool_69 rfl rfl rfl ?_
          refine im_iload_n C 71 0 dX4_readPool_70 rfl rfl rfl ?_
          refine im_cVP C 74 vk_X5_meetsPool gw_478 (c_X5_meetsPool (b := 1) (x1 := o1.2 22 0 5) (x2 := o2.2 22 0 5) hU h0.2.2.1.2.1) (h0.2.2.1.2.1 1 (by decide) (by decide)) rfl rfl (rle rfl) rfl (st := []) rfl (Nat.le_of_ble_eq_true rfl) dX4_readPool_71 rfl (fun o4 => ?_)
          refine im_if_eq C 79 77 dX4_readPool_74 rfl rfl ?_ ?_
          · refine im_aload_n C 80 2 dX4_readPool_79 rfl rfl rfl ?_
            refine gl_X4_15 C 83 (h0.1 26 (by decide) (by decide)) dX4_readPool_80 rfl ?_
            refine gl_X4_56 C 86 (h0.2.2.1.1 0 (by decide) (by decide)) dX4_readPool_83 rfl ?_
            refine im_iload_n C 87 1 dX4_readPool_86 rfl rfl rfl ?_
            refine im_iload_n C 88 0 dX4_readPool_87 rfl rfl rfl ?_
            refine im_cVV C 91 vk_X5_putPool gw_488 (c_X5_putPool (b := 1) (x1 := o1.2 22 0 5) (x2 := o2.2 22 0 5) hU h0.2.2.1.2.1) (h0.2.2.1.2.1 1 (by decide) (by decide)) rfl rfl (rle rfl) rfl (st := []) rfl (Nat.le_of_ble_eq_true rfl) dX4_readPool_88 rfl (fun D5 => ?_)
            refine im_aload_n C 92 2 dX4_readPool_91 rfl rfl rfl ?_
            refine im_cVI C 95 vk_X4_readSemicolon gw_492 (c_X4_readSemicolon  hU h0) (h0.1 26 (by decide) (by decide)) rfl rfl (rle rfl) rfl (st := []) rfl (Nat.le_of_ble_eq_true rfl) dX4_readPool_92 rfl (fun o6 => ?_)
            refine im_gd (fun hg => ?_)
            exact im_iret C rfl (isb_n hg) dX4_readPool_95
          · refine im_iconst C 78 dX4_readPool_77 rfl k_ic0 ?_
            exact im_iret C rfl rfl dX4_readPool_78
      · refine im_iconst C 45 dX4_readPool_44 rfl k_ic0 ?_
        exact im_iret C rfl rfl dX4_readPool_45
    · refine im_iconst C 25 dX4_readPool_24 rfl k_ic0 ?_
      exact im_iret C rfl rfl dX4_readPool_25
set_option maxRecDepth 100000 in
set_option maxHeartbeats 4000000 in
theorem c_X4_readNet {l : Launch} {G : va_G} {ad : Nat → Nat → Nat} {U : List (Nat × Nat)} {D : Dt} (hU : Uinj ad U) (h0 : ReU U) : MI l G ad U yX4_readNet cX4_readNet 4 .boolean (k2_rm 9 226) [.ref (ad 26 0)] D (f_X4_readNet D) := by
  refine mI_of0 (lv := [(0, .ref (ad 26 0))]) (by decide) hU rfl (Nat.le_of_ble_eq_true rfl) (fun A p e s m args below meth c C => ?_)
  have C : Cx G ad U A p s m meth c args cX4_readNet RX4 4 (some .boolean) := C
  unfold f_X4_readNet
  refine im_aload_n C 1 0 dX4_readNet_0 rfl rfl rfl ?_
  refine im_iconst C 2 dX4_readNet_1 rfl k_ic0 ?_
  refine im_bipush C 4 dX4_readNet_2 rfl k_bp11 ?_
  refine im_cVI C 7 vk_X4_readRange gw_467 (c_X4_readRange (x1 := (0 : Int32)) (x2 := (11 : Int32)) hU h0) (h0.1 26 (by decide) (by decide)) rfl rfl (rle rfl) rfl (st := []) rfl (Nat.le_of_ble_eq_true rfl) dX4_readNet_4 rfl (fun o1 => ?_)
  refine im_if_ne C 12 10 dX4_readNet_7 rfl rfl ?_ ?_
  · refine im_aload_n C 13 0 dX4_readNet_12 rfl rfl rfl ?_
    refine gl_X4_9 C 16 (h0.1 26 (by decide) (by decide)) dX4_readNet_13 rfl ?_
    refine gl_X4_70 C 19 (h0.2.1 22 (by decide) (by decide)) dX4_readNet_16 rfl ?_
    refine im_istore_n C 20 [(1, .int (o1.2 22 0 5)), (0, .ref (ad 26 0))] dX4_readNet_19 rfl (by decide) rfl rfl ?_
    refine im_aload_n C 21 1 dX4_readNet_20 rfl rfl rfl ?_
    refine gl_X4_15 C 24 (h0.1 26 (by decide) (by decide)) dX4_readNet_21 rfl ?_
    refine gl_X4_56 C 27 (h0.2.2.1.1 0 (by decide) (by decide)) dX4_readNet_24 rfl ?_
    refine im_iload_n C 28 0 dX4_readNet_27 rfl rfl rfl ?_
    refine im_cVP C 31 vk_X5_hasBlock gw_500 (c_X5_hasBlock (b := 1) (x1 := o1.2 22 0 5) hU h0.2.2.1.2.1) (h0.2.2.1.2.1 1 (by decide) (by decide)) rfl rfl (rle rfl) rfl (st := []) rfl (Nat.le_of_ble_eq_true rfl) dX4_readNet_28 rfl (fun o2 => ?_)
    refine im_if_ne C 44 34 dX4_readNet_31 rfl rfl ?_ ?_
    · refine im_iconst C 45 dX4_readNet_44 rfl k_ic0 ?_
      exact im_iret C rfl rfl dX4_readNet_45
    · refine im_aload_n C 35 1 dX4_readNet_34 rfl rfl rfl ?_
      refine im_iconst C 36 dX4_readNet_35 rfl k_ic5 ?_
      refine im_bipush C 38 dX4_readNet_36 rfl k_bp16 ?_
      refine im_cVI C 41 vk_X4_readRange gw_467 (c_X4_readRange (x1 := (5 : Int32)) (x2 := (16 : Int32)) hU h0) (h0.1 26 (by decide) (by decide)) rfl rfl (rle rfl) rfl (st := []) rfl (Nat.le_of_ble_eq_true rfl) dX4_readNet_38 rfl (fun o3 => ?_)
      refine im_if_ne C 46 44 dX4_readNet_41 rfl rfl ?_ ?_
      · refine im_aload_n C 47 1 dX4_readNet_46 rfl rfl rfl ?_
        refine gl_X4_9 C 50 (h0.1 26 (by decide) (by decide)) dX4_readNet_47 rfl ?_
        refine gl_X4_70 C 53 (h0.2.1 22 (by decide) (by decide)) dX4_readNet_50 rfl ?_
        refine im_istore_n C 54 [(2, .int (o3.2 22 0 5)), (1, .int (o1.2 22 0 5)), (0, .ref (ad 26 0))] dX4_readNet_53 rfl (by decide) rfl rfl ?_
        refine im_aload_n C 55 2 dX4_readNet_54 rfl rfl rfl ?_
        refine gl_X4_19 C 58 (h0.1 26 (by decide) (by decide)) dX4_readNet_55 rfl ?_
        refine im_aload_n C 59 2 dX4_readNet_58 rfl rfl rfl ?_
        refine gl_X4_15 C 62 (h0.1 26 (by decide) (by decide)) dX4_readNet_59 rfl ?_
        refine gl_X4_56 C 65 (h0.2.2.1.1 0 (by decide) (by decide)) dX4_readNet_62 rfl ?_
        refine im_iload_n C 66 0 dX4_readNet_65 rfl rfl rfl ?_
        refine im_cVI C 69 vk_X7_place gw_507 (c_X7_place (b := 0) (b1 := 1) (x2 := o3.2 22 0 5) hU h0.2.2.2 h0.2.2.1.2.1) (h0.2.2.2.1 16 (by decide) (by decide)) rfl rfl (rle rfl) rfl (st := []) rfl (Nat.le_of_ble_eq_true rfl) dX4_readNet_66 rfl (fun o4 => ?_)
        refine im_istore_n C 70 [(3, .int o4.1), (2, .int (o3.2 22 0 5)), (1, .int (o1.2 22 0 5)), (0, .ref (ad 26 0))] dX4_readNet_69 rfl (by decide) rfl rfl ?_
        refine im_iload_n C 71 0 dX4_readNet_70 rfl rfl rfl ?_
        refine im_iconst C 72 dX4_readNet_71 rfl k_icm1 ?_
        refine im_ic_ne C 77 75 dX4_readNet_72 rfl rfl ?_ ?_
        · refine im_aload_n C 78 3 dX4_readNet_77 rfl rfl rfl ?_
          refine gl_X4_15 C 81 (h0.1 26 (by decide) (by decide)) dX4_readNet_78 rfl ?_
          refine gl_X4_56 C 84 (h0.2.2.1.1 0 (by decide) (by decide)) dX4_readNet_81 rfl ?_
          refine im_iload_n C 85 2 dX4_readNet_84 rfl rfl rfl ?_
          refine im_iload_n C 86 0 dX4_readNet_85 rfl rfl rfl ?_
          refine im_iload_n C 87 1 dX4_readNet_86 rfl rfl rfl ?_
          refine im_cVV C 90 vk_X5_putCurrent gw_551 (c_X5_putCurrent (b := 1) (x1 := o1.2 22 0 5) (x2 := o4.1) (x3 := o3.2 22 0 5) hU h0.2.2.1.2.1) (h0.2.2.1.2.1 1 (by decide) (by decide)) rfl rfl (rle rfl) rfl (st := []) rfl (Nat.le_of_ble_eq_true rfl) dX4_readNet_87 rfl (fun D5 => ?_)
          refine im_aload_n C 91 3 dX4_readNet_90 rfl rfl rfl ?_
          refine im_cVI C 94 vk_X4_readSemicolon gw_492 (c_X4_readSemicolon  hU h0) (h0.1 26 (by decide) (by decide)) rfl rfl (rle rfl) rfl (st := []) rfl (Nat.le_of_ble_eq_true rfl) dX4_readNet_91 rfl (fun o6 => ?_)
          refine im_gd (fun hg => ?_)
          exact im_iret C rfl (isb_n hg) dX4_readNet_94
        · refine im_iconst C 76 dX4_readNet_75 rfl k_ic0 ?_
          exact im_iret C rfl rfl dX4_readNet_76
      · refine im_iconst C 45 dX4_readNet_44 rfl k_ic0 ?_
        exact im_iret C rfl rfl dX4_readNet_45
  · refine im_iconst C 11 dX4_readNet_10 rfl k_ic0 ?_
    exact im_iret C rfl rfl dX4_readNet_11
set_option maxRecDepth 100000 in
set_option maxHeartbeats 4000000 in
theorem c_X4_readHost {l : Launch} {G : va_G} {ad : Nat → Nat → Nat} {U : List (Nat × Nat)} {D : Dt} (hU : Uinj ad U) (h0 : ReU U) : MI l G ad U yX4_readHost cX4_readHost 4 .boolean (k2_rm 9 226) [.ref (ad 26 0)] D (f_X4_readHost D) := by
  refine mI_of0 (lv := [(0, .ref (ad 26 0))]) (by decide) hU rfl (Nat.le_of_ble_eq_true rfl) (fun A p e s m args below meth c C => ?_)
  have C : Cx G ad U A p s m meth c args cX4_readHost RX4 4 (some .boolean) := C
  unfold f_X4_readHost
  refine im_aload_n C 1 0 dX4_readHost_0 rfl rfl rfl ?_
  refine im_iconst C 2 dX4_readHost_1 rfl k_ic0 ?_
  refine im_bipush C 4 dX4_readHost_2 rfl k_bp15 ?_
  refine im_cVI C 7 vk_X4_readRange gw_467 (c_X4_readRange (x1 := (0 : Int32)) (x2 := (15 : Int32)) hU h0) (h0.1 26 (by decide) (by decide)) rfl rfl (rle rfl) rfl (st := []) rfl (Nat.le_of_ble_eq_true rfl) dX4_readHost_4 rfl (fun o1 => ?_)
  refine im_if_ne C 12 10 dX4_readHost_7 rfl rfl ?_ ?_
  · refine im_aload_n C 13 0 dX4_readHost_12 rfl rfl rfl ?_
    refine gl_X4_9 C 16 (h0.1 26 (by decide) (by decide)) dX4_readHost_13 rfl ?_
    refine gl_X4_70 C 19 (h0.2.1 22 (by decide) (by decide)) dX4_readHost_16 rfl ?_
    refine im_istore_n C 20 [(1, .int (o1.2 22 0 5)), (0, .ref (ad 26 0))] dX4_readHost_19 rfl (by decide) rfl rfl ?_
    refine im_aload_n C 21 1 dX4_readHost_20 rfl rfl rfl ?_
    refine gl_X4_15 C 24 (h0.1 26 (by decide) (by decide)) dX4_readHost_21 rfl ?_
    refine gl_X4_100 C 27 (h0.2.2.1.1 0 (by decide) (by decide)) dX4_readHost_24 rfl ?_
    refine im_iload_n C 28 0 dX4_readHost_27 rfl rfl rfl ?_
    refine im_cVP C 31 vk_X2_isMember gw_559 (c_X2_isMember (b := 1) (x1 := o1.2 22 0 5) hU h0.2.2.1.2.2) (h0.2.2.1.2.2 9 (by decide) (by decide)) rfl rfl (rle rfl) rfl (st := []) rfl (Nat.le_of_ble_eq_true rfl) dX4_readHost_28 rfl (fun o2 => ?_)
    refine im_if_ne C 44 34 dX4_readHost_31 rfl rfl ?_ ?_
    · refine im_iconst C 45 dX4_readHost_44 rfl k_ic0 ?_
      exact im_iret C rfl rfl dX4_readHost_45
    · refine im_aload_n C 35 1 dX4_readHost_34 rfl rfl rfl ?_
      refine im_iconst C 36 dX4_readHost_35 rfl k_ic0 ?_
      refine im_bipush C 38 dX4_readHost_36 rfl k_bp11 ?_
      refine im_cVI C 41 vk_X4_readRange gw_467 (c_X4_readRange (x1 := (0 : Int32)) (x2 := (11 : Int32)) hU h0) (h0.1 26 (by decide) (by decide)) rfl rfl (rle rfl) rfl (st := []) rfl (Nat.le_of_ble_eq_true rfl) dX4_readHost_38 rfl (fun o3 => ?_)
      refine im_if_ne C 46 44 dX4_readHost_41 rfl rfl ?_ ?_
      · refine im_aload_n C 47 1 dX4_readHost_46 rfl rfl rfl ?_
        refine gl_X4_9 C 50 (h0.1 26 (by decide) (by decide)) dX4_readHost_47 rfl ?_
        refine gl_X4_70 C 53 (h0.2.1 22 (by decide) (by decide)) dX4_readHost_50 rfl ?_
        refine im_istore_n C 54 [(2, .int (o3.2 22 0 5)), (1, .int (o1.2 22 0 5)), (0, .ref (ad 26 0))] dX4_readHost_53 rfl (by decide) rfl rfl ?_
        refine im_aload_n C 55 2 dX4_readHost_54 rfl rfl rfl ?_
        refine gl_X4_15 C 58 (h0.1 26 (by decide) (by decide)) dX4_readHost_55 rfl ?_
        refine gl_X4_56 C 61 (h0.2.2.1.1 0 (by decide) (by decide)) dX4_readHost_58 rfl ?_
        refine im_iload_n C 62 0 dX4_readHost_61 rfl rfl rfl ?_
        refine im_cVP C 65 vk_X5_hasBlock gw_500 (c_X5_hasBlock (b := 1) (x1 := o3.2 22 0 5) hU h0.2.2.1.2.1) (h0.2.2.1.2.1 1 (by decide) (by decide)) rfl rfl (rle rfl) rfl (st := []) rfl (Nat.le_of_ble_eq_true rfl) dX4_readHost_62 rfl (fun o4 => ?_)
        refine im_if_ne C 70 68 dX4_readHost_65 rfl rfl ?_ ?_
        · refine im_aload_n C 71 2 dX4_readHost_70 rfl rfl rfl ?_
          refine gl_X4_9 C 74 (h0.1 26 (by decide) (by decide)) dX4_readHost_71 rfl ?_
          refine im_cVV C 77 vk_X8_readToken gw_381 (c_X8_readToken  hU h0.2.1) (h0.2.1 22 (by decide) (by decide)) rfl rfl (rle rfl) rfl (st := []) rfl (Nat.le_of_ble_eq_true rfl) dX4_readHost_74 rfl (fun D5 => ?_)
          refine im_aload_n C 78 2 dX4_readHost_77 rfl rfl rfl ?_
          refine gl_X4_9 C 81 (h0.1 26 (by decide) (by decide)) dX4_readHost_78 rfl ?_
          refine gl_X4_36 C 84 (h0.2.1 22 (by decide) (by decide)) dX4_readHost_81 rfl ?_
          refine im_bipush C 86 dX4_readHost_84 rfl k_bp7 ?_
          refine im_jn 94 (fun t6 => [(0, .ref (ad 26 0)), (1, .int (o1.2 22 0 5)), (2, .int (o3.2 22 0 5))]) (fun t6 => [.int t6]) (fun t6 => D5) (fun t6 => j_X4_readHost_94_t6 o1 o3 D5 t6) (fun t6 => ?_) (fun ht6 => ?_)
          · unfold j_X4_readHost_94_t6
            refine im_istore_n C 95 [(3, .int t6), (0, .ref (ad 26 0)), (1, .int (o1.2 22 0 5)), (2, .int (o3.2 22 0 5))] dX4_readHost_94 rfl (by decide) rfl rfl ?_
            refine im_aload_n C 96 1 dX4_readHost_95 rfl rfl rfl ?_
            refine gl_X4_15 C 99 (h0.1 26 (by decide) (by decide)) dX4_readHost_96 rfl ?_
            refine gl_X4_100 C 102 (h0.2.2.1.1 0 (by decide) (by decide)) dX4_readHost_99 rfl ?_
            refine im_iload_n C 103 2 dX4_readHost_102 rfl rfl rfl ?_
            refine im_iload_n C 104 3 dX4_readHost_103 rfl rfl rfl ?_
            refine im_iload_n C 105 0 dX4_readHost_104 rfl rfl rfl ?_
            refine im_jn 113 (fun t7 => [(0, .ref (ad 26 0)), (3, .int t6)]) (fun t7 => [.int t7, .int (o3.2 22 0 5), .int (o1.2 22 0 5), .ref (ad 9 1)]) (fun t7 => D5) (fun t7 => j_X4_readHost_113_t7 o1 o3 D5 t6 t7) (fun t7 => ?_) (fun ht7 => ?_)
            · unfold j_X4_readHost_113_t7
              refine im_cVV C 116 vk_X2_enrol gw_563 (c_X2_enrol (b := 1) (x1 := o1.2 22 0 5) (x2 := o3.2 22 0 5) (x3 := t7) hU h0.2.2.1.2.2) (h0.2.2.1.2.2 9 (by decide) (by decide)) rfl rfl (rle rfl) rfl (st := []) rfl (Nat.le_of_ble_eq_true rfl) dX4_readHost_113 rfl (fun D8 => ?_)
              refine im_iload_n C 117 1 dX4_readHost_116 rfl rfl rfl ?_
              refine im_if_eq C 127 120 dX4_readHost_117 rfl rfl ?_ ?_
              · refine im_aload_n C 128 0 dX4_readHost_127 rfl rfl rfl ?_
                refine gl_X4_9 C 131 (h0.1 26 (by decide) (by decide)) dX4_readHost_128 rfl ?_
                refine gl_X4_36 C 134 (h0.2.1 22 (by decide) (by decide)) dX4_readHost_131 rfl ?_
                refine im_iconst C 135 dX4_readHost_134 rfl k_ic2 ?_
                refine im_ic_ne C 142 138 dX4_readHost_135 rfl rfl ?_ ?_
                · refine im_iconst C 143 dX4_readHost_142 rfl k_ic0 ?_
                  exact im_iret C rfl rfl dX4_readHost_143
                · refine im_iconst C 139 dX4_readHost_138 rfl k_ic1 ?_
                  refine im_goto C 143 dX4_readHost_139 rfl ?_
                  exact im_iret C rfl rfl dX4_readHost_143
              · refine im_aload_n C 121 0 dX4_readHost_120 rfl rfl rfl ?_
                refine im_cVI C 124 vk_X4_readSemicolon gw_492 (c_X4_readSemicolon  hU h0) (h0.1 26 (by decide) (by decide)) rfl rfl (rle rfl) rfl (st := []) rfl (Nat.le_of_ble_eq_true rfl) dX4_readHost_121 rfl (fun o9 => ?_)
                refine im_goto C 143 dX4_readHost_124 rfl ?_
                refine im_gd (fun hg => ?_)
                exact im_iret C rfl (isb_n hg) dX4_readHost_143
            · refine im_if_eq C 112 108 dX4_readHost_105 rfl rfl ?_ ?_
              · refine im_iconst C 113 dX4_readHost_112 rfl k_ic0 ?_
                exact im_sub [1, 0] [(0, .ref (ad 26 0)), (3, .int t6)] rfl (ht7 (0 : Int32))
              · refine im_iconst C 109 dX4_readHost_108 rfl k_ic1 ?_
                refine im_goto C 113 dX4_readHost_109 rfl ?_
                exact im_sub [1, 0] [(0, .ref (ad 26 0)), (3, .int t6)] rfl (ht7 (1 : Int32))
          · refine im_ic_ne C 93 89 dX4_readHost_86 rfl rfl ?_ ?_
            · refine im_iconst C 94 dX4_readHost_93 rfl k_ic0 ?_
              exact im_sub [2, 1, 0] [(0, .ref (ad 26 0)), (1, .int (o1.2 22 0 5)), (2, .int (o3.2 22 0 5))] rfl (ht6 (0 : Int32))
            · refine im_iconst C 90 dX4_readHost_89 rfl k_ic1 ?_
              refine im_goto C 94 dX4_readHost_90 rfl ?_
              exact im_sub [2, 1, 0] [(0, .ref (ad 26 0)), (1, .int (o1.2 22 0 5)), (2, .int (o3.2 22 0 5))] rfl (ht6 (1 : Int32))
        · refine im_iconst C 69 dX4_readHost_68 rfl k_ic0 ?_
          exact im_iret C rfl rfl dX4_readHost_69
      · refine im_iconst C 45 dX4_readHost_44 rfl k_ic0 ?_
        exact im_iret C rfl rfl dX4_readHost_45
  · refine im_iconst C 11 dX4_readHost_10 rfl k_ic0 ?_
    exact im_iret C rfl rfl dX4_readHost_11
set_option maxRecDepth 100000 in
set_option maxHeartbeats 4000000 in
theorem c_X4_readPolicy {l : Launch} {G : va_G} {ad : Nat → Nat → Nat} {U : List (Nat × Nat)} {D : Dt} (hU : Uinj ad U) (h0 : ReU U) : MI l G ad U yX4_readPolicy cX4_readPolicy 1 .boolean (k2_rm 9 226) [.ref (ad 26 0)] D (f_X4_readPolicy D) := by
  refine mI_of0 (lv := [(0, .ref (ad 26 0))]) (by decide) hU rfl (Nat.le_of_ble_eq_true rfl) (fun A p e s m args below meth c C => ?_)
  have C : Cx G ad U A p s m meth c args cX4_readPolicy RX4 1 (some .boolean) := C
  unfold f_X4_readPolicy
  refine im_aload_n C 1 0 dX4_readPolicy_0 rfl rfl rfl ?_
  refine im_iconst C 2 dX4_readPolicy_1 rfl k_ic0 ?_
  refine im_iconst C 3 dX4_readPolicy_2 rfl k_ic3 ?_
  refine im_cVI C 6 vk_X4_readRange gw_467 (c_X4_readRange (x1 := (0 : Int32)) (x2 := (3 : Int32)) hU h0) (h0.1 26 (by decide) (by decide)) rfl rfl (rle rfl) rfl (st := []) rfl (Nat.le_of_ble_eq_true rfl) dX4_readPolicy_3 rfl (fun o1 => ?_)
  refine im_if_ne C 11 9 dX4_readPolicy_6 rfl rfl ?_ ?_
  · refine im_aload_n C 12 0 dX4_readPolicy_11 rfl rfl rfl ?_
    refine gl_X4_15 C 15 (h0.1 26 (by decide) (by decide)) dX4_readPolicy_12 rfl ?_
    refine gl_X4_56 C 18 (h0.2.2.1.1 0 (by decide) (by decide)) dX4_readPolicy_15 rfl ?_
    refine im_aload_n C 19 0 dX4_readPolicy_18 rfl rfl rfl ?_
    refine gl_X4_9 C 22 (h0.1 26 (by decide) (by decide)) dX4_readPolicy_19 rfl ?_
    refine gl_X4_70 C 25 (h0.2.1 22 (by decide) (by decide)) dX4_readPolicy_22 rfl ?_
    refine pl_X4_112 C 28 (h0.2.2.1.2.1 1 (by decide) (by decide)) dX4_readPolicy_25 rfl (fun D2 => ?_)
    refine im_aload_n C 29 0 dX4_readPolicy_28 rfl rfl rfl ?_
    refine im_cVI C 32 vk_X4_readSemicolon gw_492 (c_X4_readSemicolon  hU h0) (h0.1 26 (by decide) (by decide)) rfl rfl (rle rfl) rfl (st := []) rfl (Nat.le_of_ble_eq_true rfl) dX4_readPolicy_29 rfl (fun o3 => ?_)
    refine im_gd (fun hg => ?_)
    exact im_iret C rfl (isb_n hg) dX4_readPolicy_32
  · refine im_iconst C 10 dX4_readPolicy_9 rfl k_ic0 ?_
    exact im_iret C rfl rfl dX4_readPolicy_10
set_option maxRecDepth 100000 in
set_option maxHeartbeats 4000000 in
theorem c_X4_readText {l : Launch} {G : va_G} {ad : Nat → Nat → Nat} {U : List (Nat × Nat)} {D : Dt} (hU : Uinj ad U) (h0 : ReU U) : MI l G ad U yX4_readText cX4_readText 4 .int (k2_rm 10 249) [.ref (ad 26 0)] D (f_X4_readText D) := by
  refine mI_of0 (lv := [(0, .ref (ad 26 0))]) (by decide) hU rfl (Nat.le_of_ble_eq_true rfl) (fun A p e s m args below meth c C => ?_)
  have C : Cx G ad U A p s m meth c args cX4_readText RX4 4 (some .int) := C
  unfold f_X4_readText
  refine im_aload_n C 1 0 dX4_readText_0 rfl rfl rfl ?_
  refine gl_X4_15 C 4 (h0.1 26 (by decide) (by decide)) dX4_readText_1 rfl ?_
  refine im_cVV C 7 vk_X6_reset gw_376 (c_X6_reset (b := 1) hU h0.2.2.1) (h0.2.2.1.1 0 (by decide) (by decide)) rfl rfl (rle rfl) rfl (st := []) rfl (Nat.le_of_ble_eq_true rfl) dX4_readText_4 rfl (fun D1 => ?_)
  refine im_aload_n C 8 0 dX4_readText_7 rfl rfl rfl ?_
  refine gl_X4_9 C 11 (h0.1 26 (by decide) (by decide)) dX4_readText_8 rfl ?_
  refine im_cVV C 14 vk_X8_rewind gw_377 (c_X8_rewind  hU h0.2.1) (h0.2.1 22 (by decide) (by decide)) rfl rfl (rle rfl) rfl (st := []) rfl (Nat.le_of_ble_eq_true rfl) dX4_readText_11 rfl (fun D2 => ?_)
  refine im_iconst C 15 dX4_readText_14 rfl k_ic1 ?_
  refine im_istore_n C 16 [(1, .int (1 : Int32)), (0, .ref (ad 26 0))] dX4_readText_15 rfl (by decide) rfl rfl ?_
  refine im_iconst C 17 dX4_readText_16 rfl k_ic0 ?_
  refine im_istore_n C 18 [(2, .int (0 : Int32)), (1, .int (1 : Int32)), (0, .ref (ad 26 0))] dX4_readText_17 rfl (by decide) rfl rfl ?_
  refine im_iconst C 19 dX4_readText_18 rfl k_ic0 ?_
  refine im_istore_n C 20 [(3, .int (0 : Int32)), (2, .int (0 : Int32)), (1, .int (1 : Int32)), (0, .ref (ad 26 0))] dX4_readText_19 rfl (by decide) rfl rfl ?_
  refine im_sub [3, 2, 1, 0] [(0, .ref (ad 26 0)), (1, .int (1 : Int32)), (2, .int (0 : Int32)), (3, .int (0 : Int32))] rfl ?_
  refine im_lpI l_X4_readText_20 (fun z20 => [(0, .ref (ad 26 0)), (1, .int z20.1), (2, .int z20.2.1), (3, .int z20.2.2.1)]) (fun z20 => z20.2.2.2) (fun z20 X_z20 hX_z20 => ?_) FU ((1 : Int32), (0 : Int32), (0 : Int32), D2)
  unfold l_X4_readText_20
  refine im_iload_n C 21 3 dX4_readText_20 rfl rfl rfl ?_
  refine im_sipush C 24 dX4_readText_21 rfl k_sp150 ?_
  refine im_ic_ge C 137 27 dX4_readText_24 rfl rfl ?_ ?_
  · refine im_bipush C 139 dX4_readText_137 rfl k_bpm10 ?_
    refine im_aload_n C 140 0 dX4_readText_139 rfl rfl rfl ?_
    refine gl_X4_9 C 143 (h0.1 26 (by decide) (by decide)) dX4_readText_140 rfl ?_
    refine gl_X4_53 C 146 (h0.2.1 22 (by decide) (by decide)) dX4_readText_143 rfl ?_
    refine im_isub C 147 dX4_readText_146 rfl ?_
    exact im_iret C rfl rfl dX4_readText_147
  · refine im_iload_n C 28 1 dX4_readText_27 rfl rfl rfl ?_
    refine im_if_eq C 137 31 dX4_readText_28 rfl rfl ?_ ?_
    · refine im_bipush C 139 dX4_readText_137 rfl k_bpm10 ?_
      refine im_aload_n C 140 0 dX4_readText_139 rfl rfl rfl ?_
      refine gl_X4_9 C 143 (h0.1 26 (by decide) (by decide)) dX4_readText_140 rfl ?_
      refine gl_X4_53 C 146 (h0.2.1 22 (by decide) (by decide)) dX4_readText_143 rfl ?_
      refine im_isub C 147 dX4_readText_146 rfl ?_
      exact im_iret C rfl rfl dX4_readText_147
    · refine im_aload_n C 32 0 dX4_readText_31 rfl rfl rfl ?_
      refine gl_X4_9 C 35 (h0.1 26 (by decide) (by decide)) dX4_readText_32 rfl ?_
      refine im_cVV C 38 vk_X8_readToken gw_381 (c_X8_readToken  hU h0.2.1) (h0.2.1 22 (by decide) (by decide)) rfl rfl (rle rfl) rfl (st := []) rfl (Nat.le_of_ble_eq_true rfl) dX4_readText_35 rfl (fun D3 => ?_)
      refine im_aload_n C 39 0 dX4_readText_38 rfl rfl rfl ?_
      refine gl_X4_9 C 42 (h0.1 26 (by decide) (by decide)) dX4_readText_39 rfl ?_
      refine gl_X4_36 C 45 (h0.2.1 22 (by decide) (by decide)) dX4_readText_42 rfl ?_
      refine im_ite (fun s45_1 => ?_) (fun s45_1 => ?_)
      · refine im_tabIn C 92 (y := (1 : Int32)) s45_1 dX4_readText_45 (by decide) (by decide) rfl rfl ?_
        refine im_iload_n C 93 2 dX4_readText_92 rfl rfl rfl ?_
        exact im_iret C rfl rfl dX4_readText_93
      · refine im_ite (fun s45_2 => ?_) (fun s45_2 => ?_)
        · refine im_tabIn C 126 (y := (2 : Int32)) s45_2 dX4_readText_45 (by decide) (by decide) rfl rfl ?_
          refine im_iconst C 127 dX4_readText_126 rfl k_ic0 ?_
          refine im_istore_n C 128 [(1, .int (0 : Int32)), (0, .ref (ad 26 0)), (2, .int z20.2.1), (3, .int z20.2.2.1)] dX4_readText_127 rfl (by decide) rfl rfl ?_
          refine im_iinc C 131 2 [(2, .int (z20.2.1 + (1 : Int32))), (1, .int (0 : Int32)), (0, .ref (ad 26 0)), (3, .int z20.2.2.1)] dX4_readText_128 rfl (k_inc1) (by decide) rfl rfl ?_
          refine im_iinc C 134 3 [(3, .int (z20.2.2.1 + (1 : Int32))), (2, .int (z20.2.1 + (1 : Int32))), (1, .int (0 : Int32)), (0, .ref (ad 26 0))] dX4_readText_131 rfl (k_inc1) (by decide) rfl rfl ?_
          refine im_goto C 20 dX4_readText_134 rfl ?_
          exact im_sub [3, 2, 1, 0] [(0, .ref (ad 26 0)), (1, .int (0 : Int32)), (2, .int (z20.2.1 + (1 : Int32))), (3, .int (z20.2.2.1 + (1 : Int32)))] rfl (hX_z20 ((0 : Int32), z20.2.1 + (1 : Int32), z20.2.2.1 + (1 : Int32), D3))
        · refine im_ite (fun s45_3 => ?_) (fun s45_3 => ?_)
          · refine im_tabIn C 126 (y := (3 : Int32)) s45_3 dX4_readText_45 (by decide) (by decide) rfl rfl ?_
            refine im_iconst C 127 dX4_readText_126 rfl k_ic0 ?_
            refine im_istore_n C 128 [(1, .int (0 : Int32)), (0, .ref (ad 26 0)), (2, .int z20.2.1), (3, .int z20.2.2.1)] dX4_readText_127 rfl (by decide) rfl rfl ?_
            refine im_iinc C 131 2 [(2, .int (z20.2.1 + (1 : Int32))), (1, .int (0 : Int32)), (0, .ref (ad 26 0)), (3, .int z20.2.2.1)] dX4_readText_128 rfl (k_inc1) (by decide) rfl rfl ?_
            refine im_iinc C 134 3 [(3, .int (z20.2.2.1 + (1 : Int32))), (2, .int (z20.2.1 + (1 : Int32))), (1, .int (0 : Int32)), (0, .ref (ad 26 0))] dX4_readText_131 rfl (k_inc1) (by decide) rfl rfl ?_
            refine im_goto C 20 dX4_readText_134 rfl ?_
            exact im_sub [3, 2, 1, 0] [(0, .ref (ad 26 0)), (1, .int (0 : Int32)), (2, .int (z20.2.1 + (1 : Int32))), (3, .int (z20.2.2.1 + (1 : Int32)))] rfl (hX_z20 ((0 : Int32), z20.2.1 + (1 : Int32), z20.2.2.1 + (1 : Int32), D3))
          · refine im_ite (fun s45_4 => ?_) (fun s45_4 => ?_)
            · refine im_tabIn C 94 (y := (4 : Int32)) s45_4 dX4_readText_45 (by decide) (by decide) rfl rfl ?_
              refine im_aload_n C 95 0 dX4_readText_94 rfl rfl rfl ?_
              refine im_cVI C 98 vk_X4_readPool gw_462 (c_X4_readPool  hU h0) (h0.1 26 (by decide) (by decide)) rfl rfl (rle rfl) rfl (st := []) rfl (Nat.le_of_ble_eq_true rfl) dX4_readText_95 rfl (fun o4 => ?_)
              refine im_istore_n C 99 [(1, .int o4.1), (0, .ref (ad 26 0)), (2, .int z20.2.1), (3, .int z20.2.2.1)] dX4_readText_98 rfl (by decide) rfl rfl ?_
              refine im_goto C 128 dX4_readText_99 rfl ?_
              refine im_iinc C 131 2 [(2, .int (z20.2.1 + (1 : Int32))), (1, .int o4.1), (0, .ref (ad 26 0)), (3, .int z20.2.2.1)] dX4_readText_128 rfl (k_inc1) (by decide) rfl rfl ?_
              refine im_iinc C 134 3 [(3, .int (z20.2.2.1 + (1 : Int32))), (2, .int (z20.2.1 + (1 : Int32))), (1, .int o4.1), (0, .ref (ad 26 0))] dX4_readText_131 rfl (k_inc1) (by decide) rfl rfl ?_
              refine im_goto C 20 dX4_readText_134 rfl ?_
              exact im_sub [3, 2, 1, 0] [(0, .ref (ad 26 0)), (1, .int o4.1), (2, .int (z20.2.1 + (1 : Int32))), (3, .int (z20.2.2.1 + (1 : Int32)))] rfl (hX_z20 (o4.1, z20.2.1 + (1 : Int32), z20.2.2.1 + (1 : Int32), o4.2))
            · refine im_ite (fun s45_5 => ?_) (fun s45_5 => ?_)
              · refine im_tabIn C 102 (y := (5 : Int32)) s45_5 dX4_readText_45 (by decide) (by decide) rfl rfl ?_
                refine im_aload_n C 103 0 dX4_readText_102 rfl rfl rfl ?_
                refine im_cVI C 106 vk_X4_readNet gw_496 (c_X4_readNet  hU h0) (h0.1 26 (by decide) (by decide)) rfl rfl (rle rfl) rfl (st := []) rfl (Nat.le_of_ble_eq_true rfl) dX4_readText_103 rfl (fun o5 => ?_)
                refine im_istore_n C 107 [(1, .int o5.1), (0, .ref (ad 26 0)), (2, .int z20.2.1), (3, .int z20.2.2.1)] dX4_readText_106 rfl (by decide) rfl rfl ?_
                refine im_goto C 128 dX4_readText_107 rfl ?_
                refine im_iinc C 131 2 [(2, .int (z20.2.1 + (1 : Int32))), (1, .int o5.1), (0, .ref (ad 26 0)), (3, .int z20.2.2.1)] dX4_readText_128 rfl (k_inc1) (by decide) rfl rfl ?_
                refine im_iinc C 134 3 [(3, .int (z20.2.2.1 + (1 : Int32))), (2, .int (z20.2.1 + (1 : Int32))), (1, .int o5.1), (0, .ref (ad 26 0))] dX4_readText_131 rfl (k_inc1) (by decide) rfl rfl ?_
                refine im_goto C 20 dX4_readText_134 rfl ?_
                exact im_sub [3, 2, 1, 0] [(0, .ref (ad 26 0)), (1, .int o5.1), (2, .int (z20.2.1 + (1 : Int32))), (3, .int (z20.2.2.1 + (1 : Int32)))] rfl (hX_z20 (o5.1, z20.2.1 + (1 : Int32), z20.2.2.1 + (1 : Int32), o5.2))
              · refine im_ite (fun s45_6 => ?_) (fun s45_6 => ?_)
                · refine im_tabIn C 110 (y := (6 : Int32)) s45_6 dX4_readText_45 (by decide) (by decide) rfl rfl ?_
                  refine im_aload_n C 111 0 dX4_readText_110 rfl rfl rfl ?_
                  refine im_cVI C 114 vk_X4_readHost gw_555 (c_X4_readHost  hU h0) (h0.1 26 (by decide) (by decide)) rfl rfl (rle rfl) rfl (st := []) rfl (Nat.le_of_ble_eq_true rfl) dX4_readText_111 rfl (fun o6 => ?_)
                  refine im_istore_n C 115 [(1, .int o6.1), (0, .ref (ad 26 0)), (2, .int z20.2.1), (3, .int z20.2.2.1)] dX4_readText_114 rfl (by decide) rfl rfl ?_
                  refine im_goto C 128 dX4_readText_115 rfl ?_
                  refine im_iinc C 131 2 [(2, .int (z20.2.1 + (1 : Int32))), (1, .int o6.1), (0, .ref (ad 26 0)), (3, .int z20.2.2.1)] dX4_readText_128 rfl (k_inc1) (by decide) rfl rfl ?_
                  refine im_iinc C 134 3 [(3, .int (z20.2.2.1 + (1 : Int32))), (2, .int (z20.2.1 + (1 : Int32))), (1, .int o6.1), (0, .ref (ad 26 0))] dX4_readText_131 rfl (k_inc1) (by decide) rfl rfl ?_
                  refine im_goto C 20 dX4_readText_134 rfl ?_
                  exact im_sub [3, 2, 1, 0] [(0, .ref (ad 26 0)), (1, .int o6.1), (2, .int (z20.2.1 + (1 : Int32))), (3, .int (z20.2.2.1 + (1 : Int32)))] rfl (hX_z20 (o6.1, z20.2.1 + (1 : Int32), z20.2.2.1 + (1 : Int32), o6.2))
                · refine im_ite (fun s45_7 => ?_) (fun s45_7 => ?_)
                  · refine im_tabIn C 126 (y := (7 : Int32)) s45_7 dX4_readText_45 (by decide) (by decide) rfl rfl ?_
                    refine im_iconst C 127 dX4_readText_126 rfl k_ic0 ?_
                    refine im_istore_n C 128 [(1, .int (0 : Int32)), (0, .ref (ad 26 0)), (2, .int z20.2.1), (3, .int z20.2.2.1)] dX4_readText_127 rfl (by decide) rfl rfl ?_
                    refine im_iinc C 131 2 [(2, .int (z20.2.1 + (1 : Int32))), (1, .int (0 : Int32)), (0, .ref (ad 26 0)), (3, .int z20.2.2.1)] dX4_readText_128 rfl (k_inc1) (by decide) rfl rfl ?_
                    refine im_iinc C 134 3 [(3, .int (z20.2.2.1 + (1 : Int32))), (2, .int (z20.2.1 + (1 : Int32))), (1, .int (0 : Int32)), (0, .ref (ad 26 0))] dX4_readText_131 rfl (k_inc1) (by decide) rfl rfl ?_
                    refine im_goto C 20 dX4_readText_134 rfl ?_
                    exact im_sub [3, 2, 1, 0] [(0, .ref (ad 26 0)), (1, .int (0 : Int32)), (2, .int (z20.2.1 + (1 : Int32))), (3, .int (z20.2.2.1 + (1 : Int32)))] rfl (hX_z20 ((0 : Int32), z20.2.1 + (1 : Int32), z20.2.2.1 + (1 : Int32), D3))
                  · refine im_ite (fun s45_8 => ?_) (fun s45_8 => ?_)
                    · refine im_tabIn C 118 (y := (8 : Int32)) s45_8 dX4_readText_45 (by decide) (by decide) rfl rfl ?_
                      refine im_aload_n C 119 0 dX4_readText_118 rfl rfl rfl ?_
                      refine im_cVI C 122 vk_X4_readPolicy gw_567 (c_X4_readPolicy  hU h0) (h0.1 26 (by decide) (by decide)) rfl rfl (rle rfl) rfl (st := []) rfl (Nat.le_of_ble_eq_true rfl) dX4_readText_119 rfl (fun o7 => ?_)
                      refine im_istore_n C 123 [(1, .int o7.1), (0, .ref (ad 26 0)), (2, .int z20.2.1), (3, .int z20.2.2.1)] dX4_readText_122 rfl (by decide) rfl rfl ?_
                      refine im_goto C 128 dX4_readText_123 rfl ?_
                      refine im_iinc C 131 2 [(2, .int (z20.2.1 + (1 : Int32))), (1, .int o7.1), (0, .ref (ad 26 0)), (3, .int z20.2.2.1)] dX4_readText_128 rfl (k_inc1) (by decide) rfl rfl ?_
                      refine im_iinc C 134 3 [(3, .int (z20.2.2.1 + (1 : Int32))), (2, .int (z20.2.1 + (1 : Int32))), (1, .int o7.1), (0, .ref (ad 26 0))] dX4_readText_131 rfl (k_inc1) (by decide) rfl rfl ?_
                      refine im_goto C 20 dX4_readText_134 rfl ?_
                      exact im_sub [3, 2, 1, 0] [(0, .ref (ad 26 0)), (1, .int o7.1), (2, .int (z20.2.1 + (1 : Int32))), (3, .int (z20.2.2.1 + (1 : Int32)))] rfl (hX_z20 (o7.1, z20.2.1 + (1 : Int32), z20.2.2.1 + (1 : Int32), o7.2))
                    · refine im_tabOut C 126 dX4_readText_45 (by have a0 := nz s45_1 (n := 1) (by decide); have a1 := nz s45_2 (n := 2) (by decide); have a2 := nz s45_3 (n := 3) (by decide); have a3 := nz s45_4 (n := 4) (by decide); have a4 := nz s45_5 (n := 5) (by decide); have a5 := nz s45_6 (n := 6) (by decide); have a6 := nz s45_7 (n := 7) (by decide); have a7 := nz s45_8 (n := 8) (by decide); omega) rfl ?_
                      refine im_iconst C 127 dX4_readText_126 rfl k_ic0 ?_
                      refine im_istore_n C 128 [(1, .int (0 : Int32)), (0, .ref (ad 26 0)), (2, .int z20.2.1), (3, .int z20.2.2.1)] dX4_readText_127 rfl (by decide) rfl rfl ?_
                      refine im_iinc C 131 2 [(2, .int (z20.2.1 + (1 : Int32))), (1, .int (0 : Int32)), (0, .ref (ad 26 0)), (3, .int z20.2.2.1)] dX4_readText_128 rfl (k_inc1) (by decide) rfl rfl ?_
                      refine im_iinc C 134 3 [(3, .int (z20.2.2.1 + (1 : Int32))), (2, .int (z20.2.1 + (1 : Int32))), (1, .int (0 : Int32)), (0, .ref (ad 26 0))] dX4_readText_131 rfl (k_inc1) (by decide) rfl rfl ?_
                      refine im_goto C 20 dX4_readText_134 rfl ?_
                      exact im_sub [3, 2, 1, 0] [(0, .ref (ad 26 0)), (1, .int (0 : Int32)), (2, .int (z20.2.1 + (1 : Int32))), (3, .int (z20.2.2.1 + (1 : Int32)))] rfl (hX_z20 ((0 : Int32), z20.2.1 + (1 : Int32), z20.2.2.1 + (1 : Int32), D3))
set_option maxRecDepth 100000 in
set_option maxHeartbeats 4000000 in
theorem c_X9_load {l : Launch} {G : va_G} {ad : Nat → Nat → Nat} {U : List (Nat × Nat)} {D : Dt} (hU : Uinj ad U) (h0 : PrU U) : MI l G ad U yX9_load cX9_load 2 .int (k2_rm 11 272) [.ref (ad 31 0)] D (f_X9_load D) := by
  refine mI_of0 (lv := [(0, .ref (ad 31 0))]) (by decide) hU rfl (Nat.le_of_ble_eq_true rfl) (fun A p e s m args below meth c C => ?_)
  have C : Cx G ad U A p s m meth c args cX9_load RX9 2 (some .int) := C
  unfold f_X9_load
  refine im_aload_n C 1 0 dX9_load_0 rfl rfl rfl ?_
  refine gl_X9_52 C 4 (h0.1 31 (by decide) (by decide)) dX9_load_1 rfl ?_
  refine im_cVI C 7 vk_X4_readText gw_372 (c_X4_readText  hU h0.2.2.2.2.2.2.2.1) (h0.2.2.2.2.2.2.2.1.1 26 (by decide) (by decide)) rfl rfl (rle rfl) rfl (st := []) rfl (Nat.le_of_ble_eq_true rfl) dX9_load_4 rfl (fun o1 => ?_)
  refine im_istore_n C 8 [(1, .int o1.1), (0, .ref (ad 31 0))] dX9_load_7 rfl (by decide) rfl rfl ?_
  refine im_iload_n C 9 0 dX9_load_8 rfl rfl rfl ?_
  refine im_if_lt C 24 12 dX9_load_9 rfl rfl ?_ ?_
  · refine im_iload_n C 25 0 dX9_load_24 rfl rfl rfl ?_
    exact im_iret C rfl rfl dX9_load_25
  · refine im_aload_n C 13 1 dX9_load_12 rfl rfl rfl ?_
    refine im_cVV C 16 vk_X9_adoptDraft gw_571 (c_X9_adoptDraft  hU h0) (h0.1 31 (by decide) (by decide)) rfl rfl (rle rfl) rfl (st := []) rfl (Nat.le_of_ble_eq_true rfl) dX9_load_13 rfl (fun D2 => ?_)
    refine im_aload_n C 17 1 dX9_load_16 rfl rfl rfl ?_
    refine gl_X9_12 C 20 (h0.1 31 (by decide) (by decide)) dX9_load_17 rfl ?_
    refine im_iconst C 21 dX9_load_20 rfl k_ic0 ?_
    refine pl_X9_71 C 24 (h0.2.1 22 (by decide) (by decide)) dX9_load_21 rfl (fun D3 => ?_)
    refine im_iload_n C 25 0 dX9_load_24 rfl rfl rfl ?_
    exact im_iret C rfl rfl dX9_load_25
