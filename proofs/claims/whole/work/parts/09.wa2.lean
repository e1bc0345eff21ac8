set_option maxRecDepth 100000 in
set_option maxHeartbeats 4000000 in
theorem c_X5_dropOld {l : Launch} {G : va_G} {ad : Nat → Nat → Nat} {U : List (Nat × Nat)} {D : Dt} {b : Nat} {x1 : Int32} (hU : Uinj ad U) (h0 : SpU U b) : MV l G ad U yX5_dropOld cX5_dropOld 2 (k2_rm 0 0) [.ref (ad 1 b), .int x1] D (f_X5_dropOld b x1 D) := by
  refine mV_of0 (lv := [(0, .ref (ad 1 b)), (1, .int x1)]) (by decide) hU rfl (Nat.le_of_ble_eq_true rfl) (fun A p e s m args below meth c C => ?_)
  have C : Cx G ad U A p s m meth c args cX5_dropOld RX5 2 none := C
  unfold f_X5_dropOld
  refine im_aload_n C 1 0 dX5_dropOld_0 rfl rfl rfl ?_
  refine gl_X5_24 C 4 (h0 1 (by decide) (by decide)) dX5_dropOld_1 rfl ?_
  refine im_iload_n C 5 1 dX5_dropOld_4 rfl rfl rfl ?_
  refine im_iconst C 6 dX5_dropOld_5 rfl k_icm1 ?_
  refine im_wri C 7 12 (h0 6 (by decide) (by decide)) (fun _ => rfl) dX5_dropOld_6 rfl (fun D1 => ?_)
  exact im_vret C rfl dX5_dropOld_7
set_option maxRecDepth 100000 in
set_option maxHeartbeats 4000000 in
theorem c_X2_dismissMembers {l : Launch} {G : va_G} {ad : Nat → Nat → Nat} {U : List (Nat × Nat)} {D : Dt} {b : Nat} {x1 : Int32} (hU : Uinj ad U) (h0 : HoU U b) : MI l G ad U yX2_dismissMembers cX2_dismissMembers 4 .int (k2_rm 1 21) [.ref (ad 9 b), .int x1] D (f_X2_dismissMembers b x1 D) := by
  refine mI_of0 (lv := [(0, .ref (ad 9 b)), (1, .int x1)]) (by decide) hU rfl (Nat.le_of_ble_eq_true rfl) (fun A p e s m args below meth c C => ?_)
  have C : Cx G ad U A p s m meth c args cX2_dismissMembers RX2 4 (some .int) := C
  unfold f_X2_dismissMembers
  refine im_iconst C 1 dX2_dismissMembers_0 rfl k_ic0 ?_
  refine im_istore_n C 2 [(2, .int (0 : Int32)), (0, .ref (ad 9 b)), (1, .int x1)] dX2_dismissMembers_1 rfl (by decide) rfl rfl ?_
  refine im_iconst C 3 dX2_dismissMembers_2 rfl k_ic0 ?_
  refine im_istore_n C 4 [(3, .int (0 : Int32)), (2, .int (0 : Int32)), (0, .ref (ad 9 b)), (1, .int x1)] dX2_dismissMembers_3 rfl (by decide) rfl rfl ?_
  refine im_sub [2, 3, 1, 0] [(0, .ref (ad 9 b)), (1, .int x1), (2, .int (0 : Int32)), (3, .int (0 : Int32))] rfl ?_
  refine im_lpB (l_X2_dismissMembers_4 b x1) (fun z4 => [(0, .ref (ad 9 b)), (1, .int x1), (2, .int z4.1), (3, .int z4.2.1)]) (fun z4 => z4.2.2) 34 (fun e1 => [(2, .int e1.1)]) (fun e1 => e1.2) (fun e1 => ?_) (fun z4 X_z4 hX_z4 hE_z4 => ?_) FU ((0 : Int32), (0 : Int32), D)
  · refine im_iload_n C 35 0 dX2_dismissMembers_34 rfl rfl rfl ?_
    exact im_iret C rfl rfl dX2_dismissMembers_35
  · unfold l_X2_dismissMembers_4
    refine im_iload_n C 5 3 dX2_dismissMembers_4 rfl rfl rfl ?_
    refine im_bipush C 7 dX2_dismissMembers_5 rfl k_bp16 ?_
    refine im_ic_ge C 34 10 dX2_dismissMembers_7 rfl rfl ?_ ?_
    · exact im_sub [2] [(2, .int z4.1)] rfl (hE_z4 (z4.1, z4.2.2))
    · refine im_aload_n C 11 0 dX2_dismissMembers_10 rfl rfl rfl ?_
      refine gl_X2_9 C 14 (h0 9 (by decide) (by decide)) dX2_dismissMembers_11 rfl ?_
      refine im_iload_n C 15 3 dX2_dismissMembers_14 rfl rfl rfl ?_
      refine im_rdi C 16 16 (h0 10 (by decide) (by decide)) rfl dX2_dismissMembers_15 rfl (fun v2 => ?_)
      refine im_iload_n C 17 1 dX2_dismissMembers_16 rfl rfl rfl ?_
      refine im_ic_ne C 28 20 dX2_dismissMembers_17 rfl rfl ?_ ?_
      · refine im_iinc C 31 3 [(3, .int (z4.2.1 + (1 : Int32))), (0, .ref (ad 9 b)), (1, .int x1), (2, .int z4.1)] dX2_dismissMembers_28 rfl (k_inc1) (by decide) rfl rfl ?_
        refine im_goto C 4 dX2_dismissMembers_31 rfl ?_
        exact im_sub [1, 2, 3, 0] [(0, .ref (ad 9 b)), (1, .int x1), (2, .int z4.1), (3, .int (z4.2.1 + (1 : Int32)))] rfl (hX_z4 (z4.1, z4.2.1 + (1 : Int32), z4.2.2))
      · refine im_aload_n C 21 0 dX2_dismissMembers_20 rfl rfl rfl ?_
        refine im_iload_n C 22 3 dX2_dismissMembers_21 rfl rfl rfl ?_
        refine im_cVV C 25 vk_X2_dismiss gw_138 (c_X2_dismiss (b := b) (x1 := z4.2.1) hU h0) (h0 9 (by decide) (by decide)) rfl rfl (rle rfl) rfl (st := []) rfl (Nat.le_of_ble_eq_true rfl) dX2_dismissMembers_22 rfl (fun D3 => ?_)
        refine im_iinc C 28 2 [(2, .int (z4.1 + (1 : Int32))), (0, .ref (ad 9 b)), (1, .int x1), (3, .int z4.2.1)] dX2_dismissMembers_25 rfl (k_inc1) (by decide) rfl rfl ?_
        refine im_iinc C 31 3 [(3, .int (z4.2.1 + (1 : Int32))), (2, .int (z4.1 + (1 : Int32))), (0, .ref (ad 9 b)), (1, .int x1)] dX2_dismissMembers_28 rfl (k_inc1) (by decide) rfl rfl ?_
        refine im_goto C 4 dX2_dismissMembers_31 rfl ?_
        exact im_sub [2, 3, 1, 0] [(0, .ref (ad 9 b)), (1, .int x1), (2, .int (z4.1 + (1 : Int32))), (3, .int (z4.2.1 + (1 : Int32)))] rfl (hX_z4 (z4.1 + (1 : Int32), z4.2.1 + (1 : Int32), D3))
set_option maxRecDepth 100000 in
set_option maxHeartbeats 4000000 in
theorem c_X5_canCover {l : Launch} {G : va_G} {ad : Nat → Nat → Nat} {U : List (Nat × Nat)} {D : Dt} {b : Nat} {x1 : Int32} {x2 : Int32} {x3 : Int32} (hU : Uinj ad U) (h0 : SpU U b) : MI l G ad U yX5_canCover cX5_canCover 6 .boolean (k2_rm 3 65) [.ref (ad 1 b), .int x1, .int x2, .int x3] D ((f_X5_canCover b x1 x2 x3 D).bind (fun r => some (r, D))) := by
  refine mI_of (lv := [(0, .ref (ad 1 b)), (1, .int x1), (2, .int x2), (3, .int x3)]) (by decide) hU rfl (Nat.le_of_ble_eq_true rfl) (fun A p e s m args below meth c C => ?_)
  have C : Cx G ad U A p s m meth c args cX5_canCover RX5 6 (some .boolean) := C
  unfold f_X5_canCover
  refine im_iconst C 1 dX5_canCover_0 rfl k_ic0 ?_
  refine im_istore C 3 [(4, .int (0 : Int32)), (0, .ref (ad 1 b)), (1, .int x1), (2, .int x2), (3, .int x3)] dX5_canCover_1 (by decide) rfl rfl ?_
  refine im_iconst C 4 dX5_canCover_3 rfl k_ic0 ?_
  refine im_istore C 6 [(5, .int (0 : Int32)), (4, .int (0 : Int32)), (0, .ref (ad 1 b)), (1, .int x1), (2, .int x2), (3, .int x3)] dX5_canCover_4 (by decide) rfl rfl ?_
  refine im_sub [2, 3, 4, 5, 1, 0] [(0, .ref (ad 1 b)), (1, .int x1), (2, .int x2), (3, .int x3), (4, .int (0 : Int32)), (5, .int (0 : Int32))] rfl ?_
  refine im_lpB (l_X5_canCover_6 b x2 x3 D) (fun z6 => [(0, .ref (ad 1 b)), (1, .int x1), (2, .int x2), (3, .int x3), (4, .int z6.1), (5, .int z6.2)]) (fun z6 => D) 71 (fun e1 => [(0, .ref (ad 1 b)), (1, .int x1), (2, .int x2), (3, .int x3), (4, .int e1)]) (fun e1 => D) (fun e1 => ?_) (fun z6 X_z6 hX_z6 hE_z6 => ?_) FU ((0 : Int32), (0 : Int32))
  · refine im_iload C 73 4 dX5_canCover_71 rfl rfl ?_
    refine im_if_ne C 78 76 dX5_canCover_73 rfl rfl ?_ ?_
    · refine im_iconst C 79 dX5_canCover_78 rfl k_ic0 ?_
      refine im_istore C 81 [(5, .int (0 : Int32)), (0, .ref (ad 1 b)), (1, .int x1), (2, .int x2), (3, .int x3), (4, .int e1)] dX5_canCover_79 (by decide) rfl rfl ?_
      refine im_sub [1, 2, 3, 4, 0] [(0, .ref (ad 1 b)), (1, .int x1), (2, .int x2), (3, .int x3), (5, .int (0 : Int32))] rfl ?_
      refine im_lpI (l_X5_canCover_81 b x1 x2 x3 D) (fun z81 => [(0, .ref (ad 1 b)), (1, .int x1), (2, .int x2), (3, .int x3), (5, .int z81)]) (fun z81 => D) (fun z81 X_z81 hX_z81 => ?_) FU (0 : Int32)
      unfold l_X5_canCover_81
      refine im_iload C 83 4 dX5_canCover_81 rfl rfl ?_
      refine im_bipush C 85 dX5_canCover_83 rfl k_bp12 ?_
      refine im_ic_ge C 166 88 dX5_canCover_85 rfl rfl ?_ ?_
      · refine im_iconst C 167 dX5_canCover_166 rfl k_ic1 ?_
        exact im_iret C rfl rfl dX5_canCover_167
      · refine im_iload C 90 4 dX5_canCover_88 rfl rfl ?_
        refine im_iload_n C 91 1 dX5_canCover_90 rfl rfl rfl ?_
        refine im_ic_eq C 127 94 dX5_canCover_91 rfl rfl ?_ ?_
        · refine im_aload_n C 128 0 dX5_canCover_127 rfl rfl rfl ?_
          refine im_iload C 130 4 dX5_canCover_128 rfl rfl ?_
          refine im_cVP C 133 vk_X5_hasOld gw_727 (c_X5_hasOld (b := b) (x1 := z81) hU h0) (h0 1 (by decide) (by decide)) rfl rfl (rle rfl) rfl (st := []) rfl (Nat.le_of_ble_eq_true rfl) dX5_canCover_130 rfl (fun o6 => ?_)
          refine im_if_eq C 160 136 dX5_canCover_133 rfl rfl ?_ ?_
          · refine im_iinc C 163 4 [(5, .int (z81 + (1 : Int32))), (0, .ref (ad 1 b)), (1, .int x1), (2, .int x2), (3, .int x3)] dX5_canCover_160 rfl (k_inc1) (by decide) rfl rfl ?_
            refine im_goto C 81 dX5_canCover_163 rfl ?_
            exact im_sub [1, 2, 3, 4, 0] [(0, .ref (ad 1 b)), (1, .int x1), (2, .int x2), (3, .int x3), (5, .int (z81 + (1 : Int32)))] rfl (hX_z81 (z81 + (1 : Int32)))
          · refine im_aload_n C 137 0 dX5_canCover_136 rfl rfl rfl ?_
            refine gl_X5_24 C 140 (h0 1 (by decide) (by decide)) dX5_canCover_137 rfl ?_
            refine im_iload C 142 4 dX5_canCover_140 rfl rfl ?_
            refine im_rdi C 143 12 (h0 6 (by decide) (by decide)) rfl dX5_canCover_142 rfl (fun v7 => ?_)
            refine im_aload_n C 144 0 dX5_canCover_143 rfl rfl rfl ?_
            refine gl_X5_27 C 147 (h0 1 (by decide) (by decide)) dX5_canCover_144 rfl ?_
            refine im_iload C 149 4 dX5_canCover_147 rfl rfl ?_
            refine im_rdi C 150 12 (h0 7 (by decide) (by decide)) rfl dX5_canCover_149 rfl (fun v8 => ?_)
            refine im_iload_n C 151 2 dX5_canCover_150 rfl rfl rfl ?_
            refine im_iload_n C 152 3 dX5_canCover_151 rfl rfl rfl ?_
            refine im_cSNP C 155 sk_X9_meet gw_482 (c_X9_meet (x0 := v7) (x1 := v8) (x2 := x2) (x3 := x3) hU) (rle rfl) rfl (st := []) rfl (Nat.le_of_ble_eq_true rfl) dX5_canCover_152 rfl (fun o9 => ?_)
            refine im_if_eq C 160 158 dX5_canCover_155 rfl rfl ?_ ?_
            · refine im_iinc C 163 4 [(5, .int (z81 + (1 : Int32))), (0, .ref (ad 1 b)), (1, .int x1), (2, .int x2), (3, .int x3)] dX5_canCover_160 rfl (k_inc1) (by decide) rfl rfl ?_
              refine im_goto C 81 dX5_canCover_163 rfl ?_
              exact im_sub [1, 2, 3, 4, 0] [(0, .ref (ad 1 b)), (1, .int x1), (2, .int x2), (3, .int x3), (5, .int (z81 + (1 : Int32)))] rfl (hX_z81 (z81 + (1 : Int32)))
            · refine im_iconst C 159 dX5_canCover_158 rfl k_ic0 ?_
              exact im_iret C rfl rfl dX5_canCover_159
        · refine im_aload_n C 95 0 dX5_canCover_94 rfl rfl rfl ?_
          refine im_iload C 97 4 dX5_canCover_95 rfl rfl ?_
          refine im_cVP C 100 vk_X5_hasBlock gw_726 (c_X5_hasBlock (b := b) (x1 := z81) hU h0) (h0 1 (by decide) (by decide)) rfl rfl (rle rfl) rfl (st := []) rfl (Nat.le_of_ble_eq_true rfl) dX5_canCover_97 rfl (fun o10 => ?_)
          refine im_if_eq C 127 103 dX5_canCover_100 rfl rfl ?_ ?_
          · refine im_aload_n C 128 0 dX5_canCover_127 rfl rfl rfl ?_
            refine im_iload C 130 4 dX5_canCover_128 rfl rfl ?_
            refine im_cVP C 133 vk_X5_hasOld gw_727 (c_X5_hasOld (b := b) (x1 := z81) hU h0) (h0 1 (by decide) (by decide)) rfl rfl (rle rfl) rfl (st := []) rfl (Nat.le_of_ble_eq_true rfl) dX5_canCover_130 rfl (fun o11 => ?_)
            refine im_if_eq C 160 136 dX5_canCover_133 rfl rfl ?_ ?_
            · refine im_iinc C 163 4 [(5, .int (z81 + (1 : Int32))), (0, .ref (ad 1 b)), (1, .int x1), (2, .int x2), (3, .int x3)] dX5_canCover_160 rfl (k_inc1) (by decide) rfl rfl ?_
              refine im_goto C 81 dX5_canCover_163 rfl ?_
              exact im_sub [1, 2, 3, 4, 0] [(0, .ref (ad 1 b)), (1, .int x1), (2, .int x2), (3, .int x3), (5, .int (z81 + (1 : Int32)))] rfl (hX_z81 (z81 + (1 : Int32)))
            · refine im_aload_n C 137 0 dX5_canCover_136 rfl rfl rfl ?_
              refine gl_X5_24 C 140 (h0 1 (by decide) (by decide)) dX5_canCover_137 rfl ?_
              refine im_iload C 142 4 dX5_canCover_140 rfl rfl ?_
              refine im_rdi C 143 12 (h0 6 (by decide) (by decide)) rfl dX5_canCover_142 rfl (fun v12 => ?_)
              refine im_aload_n C 144 0 dX5_canCover_143 rfl rfl rfl ?_
              refine gl_X5_27 C 147 (h0 1 (by decide) (by decide)) dX5_canCover_144 rfl ?_
              refine im_iload C 149 4 dX5_canCover_147 rfl rfl ?_
              refine im_rdi C 150 12 (h0 7 (by decide) (by decide)) rfl dX5_canCover_149 rfl (fun v13 => ?_)
              refine im_iload_n C 151 2 dX5_canCover_150 rfl rfl rfl ?_
              refine im_iload_n C 152 3 dX5_canCover_151 rfl rfl rfl ?_
              refine im_cSNP C 155 sk_X9_meet gw_482 (c_X9_meet (x0 := v12) (x1 := v13) (x2 := x2) (x3 := x3) hU) (rle rfl) rfl (st := []) rfl (Nat.le_of_ble_eq_true rfl) dX5_canCover_152 rfl (fun o14 => ?_)
              refine im_if_eq C 160 158 dX5_canCover_155 rfl rfl ?_ ?_
              · refine im_iinc C 163 4 [(5, .int (z81 + (1 : Int32))), (0, .ref (ad 1 b)), (1, .int x1), (2, .int x2), (3, .int x3)] dX5_canCover_160 rfl (k_inc1) (by decide) rfl rfl ?_
                refine im_goto C 81 dX5_canCover_163 rfl ?_
                exact im_sub [1, 2, 3, 4, 0] [(0, .ref (ad 1 b)), (1, .int x1), (2, .int x2), (3, .int x3), (5, .int (z81 + (1 : Int32)))] rfl (hX_z81 (z81 + (1 : Int32)))
              · refine im_iconst C 159 dX5_canCover_158 rfl k_ic0 ?_
                exact im_iret C rfl rfl dX5_canCover_159
          · refine im_aload_n C 104 0 dX5_canCover_103 rfl rfl rfl ?_
            refine gl_X5_18 C 107 (h0 1 (by decide) (by decide)) dX5_canCover_104 rfl ?_
            refine im_iload C 109 4 dX5_canCover_107 rfl rfl ?_
            refine im_rdi C 110 12 (h0 4 (by decide) (by decide)) rfl dX5_canCover_109 rfl (fun v15 => ?_)
            refine im_aload_n C 111 0 dX5_canCover_110 rfl rfl rfl ?_
            refine gl_X5_21 C 114 (h0 1 (by decide) (by decide)) dX5_canCover_111 rfl ?_
            refine im_iload C 116 4 dX5_canCover_114 rfl rfl ?_
            refine im_rdi C 117 12 (h0 5 (by decide) (by decide)) rfl dX5_canCover_116 rfl (fun v16 => ?_)
            refine im_iload_n C 118 2 dX5_canCover_117 rfl rfl rfl ?_
            refine im_iload_n C 119 3 dX5_canCover_118 rfl rfl rfl ?_
            refine im_cSNP C 122 sk_X9_meet gw_482 (c_X9_meet (x0 := v15) (x1 := v16) (x2 := x2) (x3 := x3) hU) (rle rfl) rfl (st := []) rfl (Nat.le_of_ble_eq_true rfl) dX5_canCover_119 rfl (fun o17 => ?_)
            refine im_if_eq C 127 125 dX5_canCover_122 rfl rfl ?_ ?_
            · refine im_aload_n C 128 0 dX5_canCover_127 rfl rfl rfl ?_
              refine im_iload C 130 4 dX5_canCover_128 rfl rfl ?_
              refine im_cVP C 133 vk_X5_hasOld gw_727 (c_X5_hasOld (b := b) (x1 := z81) hU h0) (h0 1 (by decide) (by decide)) rfl rfl (rle rfl) rfl (st := []) rfl (Nat.le_of_ble_eq_true rfl) dX5_canCover_130 rfl (fun o18 => ?_)
              refine im_if_eq C 160 136 dX5_canCover_133 rfl rfl ?_ ?_
              · refine im_iinc C 163 4 [(5, .int (z81 + (1 : Int32))), (0, .ref (ad 1 b)), (1, .int x1), (2, .int x2), (3, .int x3)] dX5_canCover_160 rfl (k_inc1) (by decide) rfl rfl ?_
                refine im_goto C 81 dX5_canCover_163 rfl ?_
                exact im_sub [1, 2, 3, 4, 0] [(0, .ref (ad 1 b)), (1, .int x1), (2, .int x2), (3, .int x3), (5, .int (z81 + (1 : Int32)))] rfl (hX_z81 (z81 + (1 : Int32)))
              · refine im_aload_n C 137 0 dX5_canCover_136 rfl rfl rfl ?_
                refine gl_X5_24 C 140 (h0 1 (by decide) (by decide)) dX5_canCover_137 rfl ?_
                refine im_iload C 142 4 dX5_canCover_140 rfl rfl ?_
                refine im_rdi C 143 12 (h0 6 (by decide) (by decide)) rfl dX5_canCover_142 rfl (fun v19 => ?_)
                refine im_aload_n C 144 0 dX5_canCover_143 rfl rfl rfl ?_
                refine gl_X5_27 C 147 (h0 1 (by decide) (by decide)) dX5_canCover_144 rfl ?_
                refine im_iload C 149 4 dX5_canCover_147 rfl rfl ?_
                refine im_rdi C 150 12 (h0 7 (by decide) (by decide)) rfl dX5_canCover_149 rfl (fun v20 => ?_)
                refine im_iload_n C 151 2 dX5_canCover_150 rfl rfl rfl ?_
                refine im_iload_n C 152 3 dX5_canCover_151 rfl rfl rfl ?_
                refine im_cSNP C 155 sk_X9_meet gw_482 (c_X9_meet (x0 := v19) (x1 := v20) (x2 := x2) (x3 := x3) hU) (rle rfl) rfl (st := []) rfl (Nat.le_of_ble_eq_true rfl) dX5_canCover_152 rfl (fun o21 => ?_)
                refine im_if_eq C 160 158 dX5_canCover_155 rfl rfl ?_ ?_
                · refine im_iinc C 163 4 [(5, .int (z81 + (1 : Int32))), (0, .ref (ad 1 b)), (1, .int x1), (2, .int x2), (3, .int x3)] dX5_canCover_160 rfl (k_inc1) (by decide) rfl rfl ?_
                  refine im_goto C 81 dX5_canCover_163 rfl ?_
                  exact im_sub [1, 2, 3, 4, 0] [(0, .ref (ad 1 b)), (1, .int x1), (2, .int x2), (3, .int x3), (5, .int (z81 + (1 : Int32)))] rfl (hX_z81 (z81 + (1 : Int32)))
                · refine im_iconst C 159 dX5_canCover_158 rfl k_ic0 ?_
                  exact im_iret C rfl rfl dX5_canCover_159
            · refine im_iconst C 126 dX5_canCover_125 rfl k_ic0 ?_
              exact im_iret C rfl rfl dX5_canCover_126
    · refine im_iconst C 77 dX5_canCover_76 rfl k_ic0 ?_
      exact im_iret C rfl rfl dX5_canCover_77
  · unfold l_X5_canCover_6
    refine im_iload C 8 5 dX5_canCover_6 rfl rfl ?_
    refine im_iconst C 9 dX5_canCover_8 rfl k_ic4 ?_
    refine im_ic_ge C 71 12 dX5_canCover_9 rfl rfl ?_ ?_
    · exact im_sub [0, 1, 2, 3, 4] [(0, .ref (ad 1 b)), (1, .int x1), (2, .int x2), (3, .int x3), (4, .int z6.1)] rfl (hE_z6 z6.1)
    · refine im_iload C 14 5 dX5_canCover_12 rfl rfl ?_
      refine im_aload_n C 15 0 dX5_canCover_14 rfl rfl rfl ?_
      refine gl_X5_40 C 18 (h0 1 (by decide) (by decide)) dX5_canCover_15 rfl ?_
      refine im_ic_ge C 71 21 dX5_canCover_18 rfl rfl ?_ ?_
      · exact im_sub [0, 1, 2, 3, 4] [(0, .ref (ad 1 b)), (1, .int x1), (2, .int x2), (3, .int x3), (4, .int z6.1)] rfl (hE_z6 z6.1)
      · refine im_iload C 23 4 dX5_canCover_21 rfl rfl ?_
        refine im_if_ne C 58 26 dX5_canCover_23 rfl rfl ?_ ?_
        · refine im_iconst C 59 dX5_canCover_58 rfl k_ic1 ?_
          refine im_goto C 63 dX5_canCover_59 rfl ?_
          refine im_istore C 65 [(4, .int (1 : Int32)), (0, .ref (ad 1 b)), (1, .int x1), (2, .int x2), (3, .int x3), (5, .int z6.2)] dX5_canCover_63 (by decide) rfl rfl ?_
          refine im_iinc C 68 5 [(5, .int (z6.2 + (1 : Int32))), (4, .int (1 : Int32)), (0, .ref (ad 1 b)), (1, .int x1), (2, .int x2), (3, .int x3)] dX5_canCover_65 rfl (k_inc1) (by decide) rfl rfl ?_
          refine im_goto C 6 dX5_canCover_68 rfl ?_
          exact im_sub [2, 3, 4, 5, 1, 0] [(0, .ref (ad 1 b)), (1, .int x1), (2, .int x2), (3, .int x3), (4, .int (1 : Int32)), (5, .int (z6.2 + (1 : Int32)))] rfl (hX_z6 ((1 : Int32), z6.2 + (1 : Int32)))
        · refine im_aload_n C 27 0 dX5_canCover_26 rfl rfl rfl ?_
          refine gl_X5_15 C 30 (h0 1 (by decide) (by decide)) dX5_canCover_27 rfl ?_
          refine im_iload C 32 5 dX5_canCover_30 rfl rfl ?_
          refine im_rdi C 33 4 (h0 3 (by decide) (by decide)) rfl dX5_canCover_32 rfl (fun v2 => ?_)
          refine im_iload_n C 34 3 dX5_canCover_33 rfl rfl rfl ?_
          refine im_ic_gt C 62 37 dX5_canCover_34 rfl rfl ?_ ?_
          · refine im_iconst C 63 dX5_canCover_62 rfl k_ic0 ?_
            refine im_istore C 65 [(4, .int (0 : Int32)), (0, .ref (ad 1 b)), (1, .int x1), (2, .int x2), (3, .int x3), (5, .int z6.2)] dX5_canCover_63 (by decide) rfl rfl ?_
            refine im_iinc C 68 5 [(5, .int (z6.2 + (1 : Int32))), (4, .int (0 : Int32)), (0, .ref (ad 1 b)), (1, .int x1), (2, .int x2), (3, .int x3)] dX5_canCover_65 rfl (k_inc1) (by decide) rfl rfl ?_
            refine im_goto C 6 dX5_canCover_68 rfl ?_
            exact im_sub [2, 3, 4, 5, 1, 0] [(0, .ref (ad 1 b)), (1, .int x1), (2, .int x2), (3, .int x3), (4, .int (0 : Int32)), (5, .int (z6.2 + (1 : Int32)))] rfl (hX_z6 ((0 : Int32), z6.2 + (1 : Int32)))
          · refine im_aload_n C 38 0 dX5_canCover_37 rfl rfl rfl ?_
            refine gl_X5_9 C 41 (h0 1 (by decide) (by decide)) dX5_canCover_38 rfl ?_
            refine im_iload C 43 5 dX5_canCover_41 rfl rfl ?_
            refine im_rdi C 44 4 (h0 2 (by decide) (by decide)) rfl dX5_canCover_43 rfl (fun v3 => ?_)
            refine im_aload_n C 45 0 dX5_canCover_44 rfl rfl rfl ?_
            refine gl_X5_15 C 48 (h0 1 (by decide) (by decide)) dX5_canCover_45 rfl ?_
            refine im_iload C 50 5 dX5_canCover_48 rfl rfl ?_
            refine im_rdi C 51 4 (h0 3 (by decide) (by decide)) rfl dX5_canCover_50 rfl (fun v4 => ?_)
            refine im_iload_n C 52 2 dX5_canCover_51 rfl rfl rfl ?_
            refine im_cSNP C 55 sk_X9_covers gw_725 (c_X9_covers (x0 := v3) (x1 := v4) (x2 := x2) hU) (rle rfl) rfl (st := []) rfl (Nat.le_of_ble_eq_true rfl) dX5_canCover_52 rfl (fun o5 => ?_)
            refine im_if_eq C 62 58 dX5_canCover_55 rfl rfl ?_ ?_
            · refine im_iconst C 63 dX5_canCover_62 rfl k_ic0 ?_
              refine im_istore C 65 [(4, .int (0 : Int32)), (0, .ref (ad 1 b)), (1, .int x1), (2, .int x2), (3, .int x3), (5, .int z6.2)] dX5_canCover_63 (by decide) rfl rfl ?_
              refine im_iinc C 68 5 [(5, .int (z6.2 + (1 : Int32))), (4, .int (0 : Int32)), (0, .ref (ad 1 b)), (1, .int x1), (2, .int x2), (3, .int x3)] dX5_canCover_65 rfl (k_inc1) (by decide) rfl rfl ?_
              refine im_goto C 6 dX5_canCover_68 rfl ?_
              exact im_sub [2, 3, 4, 5, 1, 0] [(0, .ref (ad 1 b)), (1, .int x1), (2, .int x2), (3, .int x3), (4, .int (0 : Int32)), (5, .int (z6.2 + (1 : Int32)))] rfl (hX_z6 ((0 : Int32), z6.2 + (1 : Int32)))
            · refine im_iconst C 59 dX5_canCover_58 rfl k_ic1 ?_
              refine im_goto C 63 dX5_canCover_59 rfl ?_
              refine im_istore C 65 [(4, .int (1 : Int32)), (0, .ref (ad 1 b)), (1, .int x1), (2, .int x2), (3, .int x3), (5, .int z6.2)] dX5_canCover_63 (by decide) rfl rfl ?_
              refine im_iinc C 68 5 [(5, .int (z6.2 + (1 : Int32))), (4, .int (1 : Int32)), (0, .ref (ad 1 b)), (1, .int x1), (2, .int x2), (3, .int x3)] dX5_canCover_65 rfl (k_inc1) (by decide) rfl rfl ?_
              refine im_goto C 6 dX5_canCover_68 rfl ?_
              exact im_sub [2, 3, 4, 5, 1, 0] [(0, .ref (ad 1 b)), (1, .int x1), (2, .int x2), (3, .int x3), (4, .int (1 : Int32)), (5, .int (z6.2 + (1 : Int32)))] rfl (hX_z6 ((1 : Int32), z6.2 + (1 : Int32)))
set_option maxRecDepth 100000 in
set_option maxHeartbeats 4000000 in
theorem c_X9_canLease {l : Launch} {G : va_G} {ad : Nat → Nat → Nat} {U : List (Nat × Nat)} {D : Dt} {x0 : Int32} {x1 : Int32} {x2 : Int32} (hU : Uinj ad U) : MI l G ad U yX9_canLease cX9_canLease 4 .boolean (k2_rm 2 42) [.int x0, .int x1, .int x2] D ((f_X9_canLease x0 x1 x2 D).bind (fun r => some (r, D))) := by
  refine mI_of (lv := [(0, .int x0), (1, .int x1), (2, .int x2)]) (by decide) hU rfl (Nat.le_of_ble_eq_true rfl) (fun A p e s m args below meth c C => ?_)
  have C : Cx G ad U A p s m meth c args cX9_canLease RX9 4 (some .boolean) := C
  unfold f_X9_canLease
  refine im_iload_n C 1 0 dX9_canLease_0 rfl rfl rfl ?_
  refine im_iload_n C 2 1 dX9_canLease_1 rfl rfl rfl ?_
  refine im_iload_n C 3 2 dX9_canLease_2 rfl rfl rfl ?_
  refine im_cSP C 6 sk_X9_covers gw_485 (c_X9_covers (x0 := x0) (x1 := x1) (x2 := x2) hU) (rle rfl) rfl (st := []) rfl (Nat.le_of_ble_eq_true rfl) dX9_canLease_3 rfl (fun o1 => ?_)
  refine im_if_ne C 11 9 dX9_canLease_6 rfl rfl ?_ ?_
  · refine im_iload_n C 12 1 dX9_canLease_11 rfl rfl rfl ?_
    refine im_cSP C 15 sk_X9_sizeOf gw_475 (c_X9_sizeOf (x0 := x1) hU) (rle rfl) rfl (st := []) rfl (Nat.le_of_ble_eq_true rfl) dX9_canLease_12 rfl (fun o2 => ?_)
    refine im_istore_n C 16 [(3, .int o2), (0, .int x0), (1, .int x1), (2, .int x2)] dX9_canLease_15 rfl (by decide) rfl rfl ?_
    refine im_iload_n C 17 0 dX9_canLease_16 rfl rfl rfl ?_
    refine im_iconst C 18 dX9_canLease_17 rfl k_ic4 ?_
    refine im_ic_lt C 35 21 dX9_canLease_18 rfl rfl ?_ ?_
    · refine im_iconst C 36 dX9_canLease_35 rfl k_ic1 ?_
      refine im_goto C 40 dX9_canLease_36 rfl ?_
      exact im_iret C rfl rfl dX9_canLease_40
    · refine im_iload_n C 22 3 dX9_canLease_21 rfl rfl rfl ?_
      refine im_iload_n C 23 1 dX9_canLease_22 rfl rfl rfl ?_
      refine im_ic_eq C 39 26 dX9_canLease_23 rfl rfl ?_ ?_
      · refine im_iconst C 40 dX9_canLease_39 rfl k_ic0 ?_
        exact im_iret C rfl rfl dX9_canLease_40
      · refine im_iload_n C 27 3 dX9_canLease_26 rfl rfl rfl ?_
        refine im_iload_n C 28 1 dX9_canLease_27 rfl rfl rfl ?_
        refine im_iload_n C 29 0 dX9_canLease_28 rfl rfl rfl ?_
        refine im_iadd C 30 dX9_canLease_29 rfl ?_
        refine im_iconst C 31 dX9_canLease_30 rfl k_ic1 ?_
        refine im_isub C 32 dX9_canLease_31 rfl ?_
        refine im_ic_eq C 39 35 dX9_canLease_32 rfl rfl ?_ ?_
        · refine im_iconst C 40 dX9_canLease_39 rfl k_ic0 ?_
          exact im_iret C rfl rfl dX9_canLease_40
        · refine im_iconst C 36 dX9_canLease_35 rfl k_ic1 ?_
          refine im_goto C 40 dX9_canLease_36 rfl ?_
          exact im_iret C rfl rfl dX9_canLease_40
  · refine im_iconst C 10 dX9_canLease_9 rfl k_ic0 ?_
    exact im_iret C rfl rfl dX9_canLease_10
set_option maxRecDepth 100000 in
set_option maxHeartbeats 4000000 in
theorem c_X2_newLeasesFit {l : Launch} {G : va_G} {ad : Nat → Nat → Nat} {U : List (Nat × Nat)} {D : Dt} {b : Nat} {x1 : Int32} {x2 : Int32} {x3 : Int32} (hU : Uinj ad U) (h0 : HoU U b) : MI l G ad U yX2_newLeasesFit cX2_newLeasesFit 5 .boolean (k2_rm 3 65) [.ref (ad 9 b), .int x1, .int x2, .int x3] D ((f_X2_newLeasesFit b x1 x2 x3 D).bind (fun r => some (r, D))) := by
  refine mI_of (lv := [(0, .ref (ad 9 b)), (1, .int x1), (2, .int x2), (3, .int x3)]) (by decide) hU rfl (Nat.le_of_ble_eq_true rfl) (fun A p e s m args below meth c C => ?_)
  have C : Cx G ad U A p s m meth c args cX2_newLeasesFit RX2 5 (some .boolean) := C
  unfold f_X2_newLeasesFit
  refine im_iconst C 1 dX2_newLeasesFit_0 rfl k_ic0 ?_
  refine im_istore C 3 [(4, .int (0 : Int32)), (0, .ref (ad 9 b)), (1, .int x1), (2, .int x2), (3, .int x3)] dX2_newLeasesFit_1 (by decide) rfl rfl ?_
  refine im_sub [1, 2, 3, 4, 0] [(0, .ref (ad 9 b)), (1, .int x1), (2, .int x2), (3, .int x3), (4, .int (0 : Int32))] rfl ?_
  refine im_lpI (l_X2_newLeasesFit_3 b x1 x2 x3 D) (fun z3 => [(0, .ref (ad 9 b)), (1, .int x1), (2, .int x2), (3, .int x3), (4, .int z3)]) (fun z3 => D) (fun z3 X_z3 hX_z3 => ?_) FU (0 : Int32)
  unfold l_X2_newLeasesFit_3
  refine im_iload C 5 4 dX2_newLeasesFit_3 rfl rfl ?_
  refine im_bipush C 7 dX2_newLeasesFit_5 rfl k_bp16 ?_
  refine im_ic_ge C 55 10 dX2_newLeasesFit_7 rfl rfl ?_ ?_
  · refine im_iconst C 56 dX2_newLeasesFit_55 rfl k_ic1 ?_
    exact im_iret C rfl rfl dX2_newLeasesFit_56
  · refine im_aload_n C 11 0 dX2_newLeasesFit_10 rfl rfl rfl ?_
    refine gl_X2_9 C 14 (h0 9 (by decide) (by decide)) dX2_newLeasesFit_11 rfl ?_
    refine im_iload C 16 4 dX2_newLeasesFit_14 rfl rfl ?_
    refine im_rdi C 17 16 (h0 10 (by decide) (by decide)) rfl dX2_newLeasesFit_16 rfl (fun v1 => ?_)
    refine im_iload_n C 18 1 dX2_newLeasesFit_17 rfl rfl rfl ?_
    refine im_ic_ne C 49 21 dX2_newLeasesFit_18 rfl rfl ?_ ?_
    · refine im_iinc C 52 4 [(4, .int (z3 + (1 : Int32))), (0, .ref (ad 9 b)), (1, .int x1), (2, .int x2), (3, .int x3)] dX2_newLeasesFit_49 rfl (k_inc1) (by decide) rfl rfl ?_
      refine im_goto C 3 dX2_newLeasesFit_52 rfl ?_
      exact im_sub [1, 2, 3, 4, 0] [(0, .ref (ad 9 b)), (1, .int x1), (2, .int x2), (3, .int x3), (4, .int (z3 + (1 : Int32)))] rfl (hX_z3 (z3 + (1 : Int32)))
    · refine im_aload_n C 22 0 dX2_newLeasesFit_21 rfl rfl rfl ?_
      refine gl_X2_18 C 25 (h0 9 (by decide) (by decide)) dX2_newLeasesFit_22 rfl ?_
      refine im_iload C 27 4 dX2_newLeasesFit_25 rfl rfl ?_
      refine im_rdi C 28 16 (h0 12 (by decide) (by decide)) rfl dX2_newLeasesFit_27 rfl (fun v2 => ?_)
      refine im_iconst C 29 dX2_newLeasesFit_28 rfl k_icm1 ?_
      refine im_ic_eq C 49 32 dX2_newLeasesFit_29 rfl rfl ?_ ?_
      · refine im_iinc C 52 4 [(4, .int (z3 + (1 : Int32))), (0, .ref (ad 9 b)), (1, .int x1), (2, .int x2), (3, .int x3)] dX2_newLeasesFit_49 rfl (k_inc1) (by decide) rfl rfl ?_
        refine im_goto C 3 dX2_newLeasesFit_52 rfl ?_
        exact im_sub [1, 2, 3, 4, 0] [(0, .ref (ad 9 b)), (1, .int x1), (2, .int x2), (3, .int x3), (4, .int (z3 + (1 : Int32)))] rfl (hX_z3 (z3 + (1 : Int32)))
      · refine im_iload_n C 33 2 dX2_newLeasesFit_32 rfl rfl rfl ?_
        refine im_iload_n C 34 3 dX2_newLeasesFit_33 rfl rfl rfl ?_
        refine im_aload_n C 35 0 dX2_newLeasesFit_34 rfl rfl rfl ?_
        refine gl_X2_18 C 38 (h0 9 (by decide) (by decide)) dX2_newLeasesFit_35 rfl ?_
        refine im_iload C 40 4 dX2_newLeasesFit_38 rfl rfl ?_
        refine im_rdi C 41 16 (h0 12 (by decide) (by decide)) rfl dX2_newLeasesFit_40 rfl (fun v3 => ?_)
        refine im_cSNP C 44 sk_X9_canLease gw_732 (c_X9_canLease (x0 := x2) (x1 := x3) (x2 := v3) hU) (rle rfl) rfl (st := []) rfl (Nat.le_of_ble_eq_true rfl) dX2_newLeasesFit_41 rfl (fun o4 => ?_)
        refine im_if_ne C 49 47 dX2_newLeasesFit_44 rfl rfl ?_ ?_
        · refine im_iinc C 52 4 [(4, .int (z3 + (1 : Int32))), (0, .ref (ad 9 b)), (1, .int x1), (2, .int x2), (3, .int x3)] dX2_newLeasesFit_49 rfl (k_inc1) (by decide) rfl rfl ?_
          refine im_goto C 3 dX2_newLeasesFit_52 rfl ?_
          exact im_sub [1, 2, 3, 4, 0] [(0, .ref (ad 9 b)), (1, .int x1), (2, .int x2), (3, .int x3), (4, .int (z3 + (1 : Int32)))] rfl (hX_z3 (z3 + (1 : Int32)))
        · refine im_iconst C 48 dX2_newLeasesFit_47 rfl k_ic0 ?_
          exact im_iret C rfl rfl dX2_newLeasesFit_48
set_option maxRecDepth 100000 in
set_option maxHeartbeats 4000000 in
theorem c_X5_isMovable {l : Launch} {G : va_G} {ad : Nat → Nat → Nat} {U : List (Nat × Nat)} {D : Dt} {b : Nat} {x1 : Int32} (hU : Uinj ad U) (h0 : SpU U b) : MI l G ad U yX5_isMovable cX5_isMovable 2 .boolean (k2_rm 2 41) [.ref (ad 1 b), .int x1] D ((f_X5_isMovable b x1 D).bind (fun r => some (r, D))) := by
  refine mI_of (lv := [(0, .ref (ad 1 b)), (1, .int x1)]) (by decide) hU rfl (Nat.le_of_ble_eq_true rfl) (fun A p e s m args below meth c C => ?_)
  have C : Cx G ad U A p s m meth c args cX5_isMovable RX5 2 (some .boolean) := C
  unfold f_X5_isMovable
  refine im_aload_n C 1 0 dX5_isMovable_0 rfl rfl rfl ?_
  refine im_iload_n C 2 1 dX5_isMovable_1 rfl rfl rfl ?_
  refine im_cVP C 5 vk_X5_hasBlock gw_726 (c_X5_hasBlock (b := b) (x1 := x1) hU h0) (h0 1 (by decide) (by decide)) rfl rfl (rle rfl) rfl (st := []) rfl (Nat.le_of_ble_eq_true rfl) dX5_isMovable_2 rfl (fun o1 => ?_)
  refine im_if_eq C 20 8 dX5_isMovable_5 rfl rfl ?_ ?_
  · refine im_iconst C 21 dX5_isMovable_20 rfl k_ic0 ?_
    exact im_iret C rfl rfl dX5_isMovable_21
  · refine im_aload_n C 9 0 dX5_isMovable_8 rfl rfl rfl ?_
    refine im_iload_n C 10 1 dX5_isMovable_9 rfl rfl rfl ?_
    refine im_cVP C 13 vk_X5_hasOld gw_727 (c_X5_hasOld (b := b) (x1 := x1) hU h0) (h0 1 (by decide) (by decide)) rfl rfl (rle rfl) rfl (st := []) rfl (Nat.le_of_ble_eq_true rfl) dX5_isMovable_10 rfl (fun o2 => ?_)
    refine im_if_ne C 20 16 dX5_isMovable_13 rfl rfl ?_ ?_
    · refine im_iconst C 21 dX5_isMovable_20 rfl k_ic0 ?_
      exact im_iret C rfl rfl dX5_isMovable_21
    · refine im_iconst C 17 dX5_isMovable_16 rfl k_ic1 ?_
      refine im_goto C 21 dX5_isMovable_17 rfl ?_
      exact im_iret C rfl rfl dX5_isMovable_21
set_option maxRecDepth 100000 in
set_option maxHeartbeats 4000000 in
theorem c_X5_makeOld {l : Launch} {G : va_G} {ad : Nat → Nat → Nat} {U : List (Nat × Nat)} {D : Dt} {b : Nat} {x1 : Int32} {x2 : Int32} (hU : Uinj ad U) (h0 : SpU U b) : MV l G ad U yX5_makeOld cX5_makeOld 3 (k2_rm 0 0) [.ref (ad 1 b), .int x1, .int x2] D (f_X5_makeOld b x1 x2 D) := by
  refine mV_of0 (lv := [(0, .ref (ad 1 b)), (1, .int x1), (2, .int x2)]) (by decide) hU rfl (Nat.le_of_ble_eq_true rfl) (fun A p e s m args below meth c C => ?_)
  have C : Cx G ad U A p s m meth c args cX5_makeOld RX5 3 none := C
  unfold f_X5_makeOld
  refine im_aload_n C 1 0 dX5_makeOld_0 rfl rfl rfl ?_
  refine gl_X5_24 C 4 (h0 1 (by decide) (by decide)) dX5_makeOld_1 rfl ?_
  refine im_iload_n C 5 1 dX5_makeOld_4 rfl rfl rfl ?_
  refine im_aload_n C 6 0 dX5_makeOld_5 rfl rfl rfl ?_
  refine gl_X5_18 C 9 (h0 1 (by decide) (by decide)) dX5_makeOld_6 rfl ?_
  refine im_iload_n C 10 1 dX5_makeOld_9 rfl rfl rfl ?_
  refine im_rdi C 11 12 (h0 4 (by decide) (by decide)) rfl dX5_makeOld_10 rfl (fun v1 => ?_)
  refine im_wri C 12 12 (h0 6 (by decide) (by decide)) (fun _ => rfl) dX5_makeOld_11 rfl (fun D2 => ?_)
  refine im_aload_n C 13 0 dX5_makeOld_12 rfl rfl rfl ?_
  refine gl_X5_27 C 16 (h0 1 (by decide) (by decide)) dX5_makeOld_13 rfl ?_
  refine im_iload_n C 17 1 dX5_makeOld_16 rfl rfl rfl ?_
  refine im_aload_n C 18 0 dX5_makeOld_17 rfl rfl rfl ?_
  refine gl_X5_21 C 21 (h0 1 (by decide) (by decide)) dX5_makeOld_18 rfl ?_
  refine im_iload_n C 22 1 dX5_makeOld_21 rfl rfl rfl ?_
  refine im_rdi C 23 12 (h0 5 (by decide) (by decide)) rfl dX5_makeOld_22 rfl (fun v3 => ?_)
  refine im_wri C 24 12 (h0 7 (by decide) (by decide)) (fun _ => rfl) dX5_makeOld_23 rfl (fun D4 => ?_)
  refine im_aload_n C 25 0 dX5_makeOld_24 rfl rfl rfl ?_
  refine gl_X5_30 C 28 (h0 1 (by decide) (by decide)) dX5_makeOld_25 rfl ?_
  refine im_iload_n C 29 1 dX5_makeOld_28 rfl rfl rfl ?_
  refine im_iload_n C 30 2 dX5_makeOld_29 rfl rfl rfl ?_
  refine im_wri C 31 12 (h0 8 (by decide) (by decide)) (fun _ => rfl) dX5_makeOld_30 rfl (fun D5 => ?_)
  exact im_vret C rfl dX5_makeOld_31
set_option maxRecDepth 100000 in
set_option maxHeartbeats 4000000 in
theorem c_X2_makeLeasesOld {l : Launch} {G : va_G} {ad : Nat → Nat → Nat} {U : List (Nat × Nat)} {D : Dt} {b : Nat} {x1 : Int32} (hU : Uinj ad U) (h0 : HoU U b) : MV l G ad U yX2_makeLeasesOld cX2_makeLeasesOld 3 (k2_rm 0 0) [.ref (ad 9 b), .int x1] D (f_X2_makeLeasesOld b x1 D) := by
  refine mV_of0 (lv := [(0, .ref (ad 9 b)), (1, .int x1)]) (by decide) hU rfl (Nat.le_of_ble_eq_true rfl) (fun A p e s m args below meth c C => ?_)
  have C : Cx G ad U A p s m meth c args cX2_makeLeasesOld RX2 3 none := C
  unfold f_X2_makeLeasesOld
  refine im_iconst C 1 dX2_makeLeasesOld_0 rfl k_ic0 ?_
  refine im_istore_n C 2 [(2, .int (0 : Int32)), (0, .ref (ad 9 b)), (1, .int x1)] dX2_makeLeasesOld_1 rfl (by decide) rfl rfl ?_
  refine im_sub [1, 2, 0] [(0, .ref (ad 9 b)), (1, .int x1), (2, .int (0 : Int32))] rfl ?_
  refine im_lpB (l_X2_makeLeasesOld_2 b x1) (fun z2 => [(0, .ref (ad 9 b)), (1, .int x1), (2, .int z2.1)]) (fun z2 => z2.2) 55 (fun e1 => []) (fun e1 => e1) (fun e1 => ?_) (fun z2 X_z2 hX_z2 hE_z2 => ?_) FU ((0 : Int32), D)
  · exact im_vret C rfl dX2_makeLeasesOld_55
  · unfold l_X2_makeLeasesOld_2
    refine im_iload_n C 3 2 dX2_makeLeasesOld_2 rfl rfl rfl ?_
    refine im_bipush C 5 dX2_makeLeasesOld_3 rfl k_bp16 ?_
    refine im_ic_ge C 55 8 dX2_makeLeasesOld_5 rfl rfl ?_ ?_
    · exact im_sub [] [] rfl (hE_z2 z2.2)
    · refine im_aload_n C 9 0 dX2_makeLeasesOld_8 rfl rfl rfl ?_
      refine gl_X2_9 C 12 (h0 9 (by decide) (by decide)) dX2_makeLeasesOld_9 rfl ?_
      refine im_iload_n C 13 2 dX2_makeLeasesOld_12 rfl rfl rfl ?_
      refine im_rdi C 14 16 (h0 10 (by decide) (by decide)) rfl dX2_makeLeasesOld_13 rfl (fun v2 => ?_)
      refine im_iload_n C 15 1 dX2_makeLeasesOld_14 rfl rfl rfl ?_
      refine im_ic_ne C 49 18 dX2_makeLeasesOld_15 rfl rfl ?_ ?_
      · refine im_iinc C 52 2 [(2, .int (z2.1 + (1 : Int32))), (0, .ref (ad 9 b)), (1, .int x1)] dX2_makeLeasesOld_49 rfl (k_inc1) (by decide) rfl rfl ?_
        refine im_goto C 2 dX2_makeLeasesOld_52 rfl ?_
        exact im_sub [1, 2, 0] [(0, .ref (ad 9 b)), (1, .int x1), (2, .int (z2.1 + (1 : Int32)))] rfl (hX_z2 (z2.1 + (1 : Int32), z2.2))
      · refine im_aload_n C 19 0 dX2_makeLeasesOld_18 rfl rfl rfl ?_
        refine gl_X2_24 C 22 (h0 9 (by decide) (by decide)) dX2_makeLeasesOld_19 rfl ?_
        refine im_iload_n C 23 2 dX2_makeLeasesOld_22 rfl rfl rfl ?_
        refine im_aload_n C 24 0 dX2_makeLeasesOld_23 rfl rfl rfl ?_
        refine gl_X2_18 C 27 (h0 9 (by decide) (by decide)) dX2_makeLeasesOld_24 rfl ?_
        refine im_iload_n C 28 2 dX2_makeLeasesOld_27 rfl rfl rfl ?_
        refine im_rdi C 29 16 (h0 12 (by decide) (by decide)) rfl dX2_makeLeasesOld_28 rfl (fun v3 => ?_)
        refine im_wri C 30 16 (h0 14 (by decide) (by decide)) (fun _ => rfl) dX2_makeLeasesOld_29 rfl (fun D4 => ?_)
        refine im_aload_n C 31 0 dX2_makeLeasesOld_30 rfl rfl rfl ?_
        refine gl_X2_27 C 34 (h0 9 (by decide) (by decide)) dX2_makeLeasesOld_31 rfl ?_
        refine im_iload_n C 35 2 dX2_makeLeasesOld_34 rfl rfl rfl ?_
        refine im_aload_n C 36 0 dX2_makeLeasesOld_35 rfl rfl rfl ?_
        refine gl_X2_21 C 39 (h0 9 (by decide) (by decide)) dX2_makeLeasesOld_36 rfl ?_
        refine im_iload_n C 40 2 dX2_makeLeasesOld_39 rfl rfl rfl ?_
        refine im_rdi C 41 16 (h0 13 (by decide) (by decide)) rfl dX2_makeLeasesOld_40 rfl (fun v5 => ?_)
        refine im_wri C 42 16 (h0 15 (by decide) (by decide)) (fun _ => rfl) dX2_makeLeasesOld_41 rfl (fun D6 => ?_)
        refine im_aload_n C 43 0 dX2_makeLeasesOld_42 rfl rfl rfl ?_
        refine gl_X2_18 C 46 (h0 9 (by decide) (by decide)) dX2_makeLeasesOld_43 rfl ?_
        refine im_iload_n C 47 2 dX2_makeLeasesOld_46 rfl rfl rfl ?_
        refine im_iconst C 48 dX2_makeLeasesOld_47 rfl k_icm1 ?_
        refine im_wri C 49 16 (h0 12 (by decide) (by decide)) (fun _ => rfl) dX2_makeLeasesOld_48 rfl (fun D7 => ?_)
        refine im_iinc C 52 2 [(2, .int (z2.1 + (1 : Int32))), (0, .ref (ad 9 b)), (1, .int x1)] dX2_makeLeasesOld_49 rfl (k_inc1) (by decide) rfl rfl ?_
        refine im_goto C 2 dX2_makeLeasesOld_52 rfl ?_
        exact im_sub [1, 2, 0] [(0, .ref (ad 9 b)), (1, .int x1), (2, .int (z2.1 + (1 : Int32)))] rfl (hX_z2 (z2.1 + (1 : Int32), D7))
set_option maxRecDepth 100000 in
set_option maxHeartbeats 4000000 in
theorem c_X2_dropOldLeases {l : Launch} {G : va_G} {ad : Nat → Nat → Nat} {U : List (Nat × Nat)} {D : Dt} {b : Nat} {x1 : Int32} (hU : Uinj ad U) (h0 : HoU U b) : MI l G ad U yX2_dropOldLeases cX2_dropOldLeases 4 .int (k2_rm 0 0) [.ref (ad 9 b), .int x1] D (f_X2_dropOldLeases b x1 D) := by
  refine mI_of0 (lv := [(0, .ref (ad 9 b)), (1, .int x1)]) (by decide) hU rfl (Nat.le_of_ble_eq_true rfl) (fun A p e s m args below meth c C => ?_)
  have C : Cx G ad U A p s m meth c args cX2_dropOldLeases RX2 4 (some .int) := C
  unfold f_X2_dropOldLeases
  refine im_iconst C 1 dX2_dropOldLeases_0 rfl k_ic0 ?_
  refine im_istore_n C 2 [(2, .int (0 : Int32)), (0, .ref (ad 9 b)), (1, .int x1)] dX2_dropOldLeases_1 rfl (by decide) rfl rfl ?_
  refine im_iconst C 3 dX2_dropOldLeases_2 rfl k_ic0 ?_
  refine im_istore_n C 4 [(3, .int (0 : Int32)), (2, .int (0 : Int32)), (0, .ref (ad 9 b)), (1, .int x1)] dX2_dropOldLeases_3 rfl (by decide) rfl rfl ?_
  refine im_sub [2, 3, 1, 0] [(0, .ref (ad 9 b)), (1, .int x1), (2, .int (0 : Int32)), (3, .int (0 : Int32))] rfl ?_
  refine im_lpB (l_X2_dropOldLeases_4 b x1) (fun z4 => [(0, .ref (ad 9 b)), (1, .int x1), (2, .int z4.1), (3, .int z4.2.1)]) (fun z4 => z4.2.2) 46 (fun e1 => [(2, .int e1.1)]) (fun e1 => e1.2) (fun e1 => ?_) (fun z4 X_z4 hX_z4 hE_z4 => ?_) FU ((0 : Int32), (0 : Int32), D)
  · refine im_iload_n C 47 0 dX2_dropOldLeases_46 rfl rfl rfl ?_
    exact im_iret C rfl rfl dX2_dropOldLeases_47
  · unfold l_X2_dropOldLeases_4
    refine im_iload_n C 5 3 dX2_dropOldLeases_4 rfl rfl rfl ?_
    refine im_bipush C 7 dX2_dropOldLeases_5 rfl k_bp16 ?_
    refine im_ic_ge C 46 10 dX2_dropOldLeases_7 rfl rfl ?_ ?_
    · exact im_sub [2] [(2, .int z4.1)] rfl (hE_z4 (z4.1, z4.2.2))
    · refine im_aload_n C 11 0 dX2_dropOldLeases_10 rfl rfl rfl ?_
      refine gl_X2_9 C 14 (h0 9 (by decide) (by decide)) dX2_dropOldLeases_11 rfl ?_
      refine im_iload_n C 15 3 dX2_dropOldLeases_14 rfl rfl rfl ?_
      refine im_rdi C 16 16 (h0 10 (by decide) (by decide)) rfl dX2_dropOldLeases_15 rfl (fun v2 => ?_)
      refine im_iload_n C 17 1 dX2_dropOldLeases_16 rfl rfl rfl ?_
      refine im_ic_ne C 40 20 dX2_dropOldLeases_17 rfl rfl ?_ ?_
      · refine im_iinc C 43 3 [(3, .int (z4.2.1 + (1 : Int32))), (0, .ref (ad 9 b)), (1, .int x1), (2, .int z4.1)] dX2_dropOldLeases_40 rfl (k_inc1) (by decide) rfl rfl ?_
        refine im_goto C 4 dX2_dropOldLeases_43 rfl ?_
        exact im_sub [1, 2, 3, 0] [(0, .ref (ad 9 b)), (1, .int x1), (2, .int z4.1), (3, .int (z4.2.1 + (1 : Int32)))] rfl (hX_z4 (z4.1, z4.2.1 + (1 : Int32), z4.2.2))
      · refine im_aload_n C 21 0 dX2_dropOldLeases_20 rfl rfl rfl ?_
        refine gl_X2_24 C 24 (h0 9 (by decide) (by decide)) dX2_dropOldLeases_21 rfl ?_
        refine im_iload_n C 25 3 dX2_dropOldLeases_24 rfl rfl rfl ?_
        refine im_rdi C 26 16 (h0 14 (by decide) (by decide)) rfl dX2_dropOldLeases_25 rfl (fun v3 => ?_)
        refine im_iconst C 27 dX2_dropOldLeases_26 rfl k_icm1 ?_
        refine im_ic_eq C 40 30 dX2_dropOldLeases_27 rfl rfl ?_ ?_
        · refine im_iinc C 43 3 [(3, .int (z4.2.1 + (1 : Int32))), (0, .ref (ad 9 b)), (1, .int x1), (2, .int z4.1)] dX2_dropOldLeases_40 rfl (k_inc1) (by decide) rfl rfl ?_
          refine im_goto C 4 dX2_dropOldLeases_43 rfl ?_
          exact im_sub [1, 2, 3, 0] [(0, .ref (ad 9 b)), (1, .int x1), (2, .int z4.1), (3, .int (z4.2.1 + (1 : Int32)))] rfl (hX_z4 (z4.1, z4.2.1 + (1 : Int32), z4.2.2))
        · refine im_aload_n C 31 0 dX2_dropOldLeases_30 rfl rfl rfl ?_
          refine gl_X2_24 C 34 (h0 9 (by decide) (by decide)) dX2_dropOldLeases_31 rfl ?_
          refine im_iload_n C 35 3 dX2_dropOldLeases_34 rfl rfl rfl ?_
          refine im_iconst C 36 dX2_dropOldLeases_35 rfl k_icm1 ?_
          refine im_wri C 37 16 (h0 14 (by decide) (by decide)) (fun _ => rfl) dX2_dropOldLeases_36 rfl (fun D4 => ?_)
          refine im_iinc C 40 2 [(2, .int (z4.1 + (1 : Int32))), (0, .ref (ad 9 b)), (1, .int x1), (3, .int z4.2.1)] dX2_dropOldLeases_37 rfl (k_inc1) (by decide) rfl rfl ?_
          refine im_iinc C 43 3 [(3, .int (z4.2.1 + (1 : Int32))), (2, .int (z4.1 + (1 : Int32))), (0, .ref (ad 9 b)), (1, .int x1)] dX2_dropOldLeases_40 rfl (k_inc1) (by decide) rfl rfl ?_
          refine im_goto C 4 dX2_dropOldLeases_43 rfl ?_
          exact im_sub [2, 3, 1, 0] [(0, .ref (ad 9 b)), (1, .int x1), (2, .int (z4.1 + (1 : Int32))), (3, .int (z4.2.1 + (1 : Int32)))] rfl (hX_z4 (z4.1 + (1 : Int32), z4.2.1 + (1 : Int32), D4))
set_option maxRecDepth 100000 in
set_option maxHeartbeats 4000000 in
theorem c_X6_giveUpOld {l : Launch} {G : va_G} {ad : Nat → Nat → Nat} {U : List (Nat × Nat)} {D : Dt} {b : Nat} {x1 : Int32} (hU : Uinj ad U) (h0 : StU U b) : MI l G ad U yX6_giveUpOld cX6_giveUpOld 3 .int (k2_rm 1 23) [.ref (ad 0 b), .int x1] D (f_X6_giveUpOld b x1 D) := by
  refine mI_of0 (lv := [(0, .ref (ad 0 b)), (1, .int x1)]) (by decide) hU rfl (Nat.le_of_ble_eq_true rfl) (fun A p e s m args below meth c C => ?_)
  have C : Cx G ad U A p s m meth c args cX6_giveUpOld RX6 3 (some .int) := C
  unfold f_X6_giveUpOld
  refine im_aload_n C 1 0 dX6_giveUpOld_0 rfl rfl rfl ?_
  refine gl_X6_21 C 4 (h0.1 0 (by decide) (by decide)) dX6_giveUpOld_1 rfl ?_
  refine im_iload_n C 5 1 dX6_giveUpOld_4 rfl rfl rfl ?_
  refine im_cVI C 8 vk_X2_dropOldLeases gw_760 (c_X2_dropOldLeases (b := b) (x1 := x1) hU h0.2.2) (h0.2.2 9 (by decide) (by decide)) rfl rfl (rle rfl) rfl (st := []) rfl (Nat.le_of_ble_eq_true rfl) dX6_giveUpOld_5 rfl (fun o1 => ?_)
  refine im_istore_n C 9 [(2, .int o1.1), (0, .ref (ad 0 b)), (1, .int x1)] dX6_giveUpOld_8 rfl (by decide) rfl rfl ?_
  refine im_aload_n C 10 1 dX6_giveUpOld_9 rfl rfl rfl ?_
  refine gl_X6_12 C 13 (h0.1 0 (by decide) (by decide)) dX6_giveUpOld_10 rfl ?_
  refine im_iload_n C 14 2 dX6_giveUpOld_13 rfl rfl rfl ?_
  refine im_cVV C 17 vk_X5_dropOld gw_764 (c_X5_dropOld (b := b) (x1 := x1) hU h0.2.1) (h0.2.1 1 (by decide) (by decide)) rfl rfl (rle rfl) rfl (st := []) rfl (Nat.le_of_ble_eq_true rfl) dX6_giveUpOld_14 rfl (fun D2 => ?_)
  refine im_aload_n C 18 1 dX6_giveUpOld_17 rfl rfl rfl ?_
  refine im_dup C 19 dX6_giveUpOld_18 rfl rfl ?_
  refine gl_X6_40 C 22 (h0.1 0 (by decide) (by decide)) dX6_giveUpOld_19 rfl ?_
  refine im_iload_n C 23 0 dX6_giveUpOld_22 rfl rfl rfl ?_
  refine im_iadd C 24 dX6_giveUpOld_23 rfl ?_
  refine pl_X6_40 C 27 (h0.1 0 (by decide) (by decide)) dX6_giveUpOld_24 rfl (fun D3 => ?_)
  refine im_iload_n C 28 0 dX6_giveUpOld_27 rfl rfl rfl ?_
  exact im_iret C rfl rfl dX6_giveUpOld_28
set_option maxRecDepth 100000 in
set_option maxHeartbeats 4000000 in
theorem c_X6_moveNetwork {l : Launch} {G : va_G} {ad : Nat → Nat → Nat} {U : List (Nat × Nat)} {D : Dt} {b : Nat} {x1 : Int32} {x2 : Int32} {x3 : Int32} (hU : Uinj ad U) (h0 : StU U b) : MV l G ad U yX6_moveNetwork cX6_moveNetwork 4 (k2_rm 2 45) [.ref (ad 0 b), .int x1, .int x2, .int x3] D (f_X6_moveNetwork b x1 x2 x3 D) := by
  refine mV_of0 (lv := [(0, .ref (ad 0 b)), (1, .int x1), (2, .int x2), (3, .int x3)]) (by decide) hU rfl (Nat.le_of_ble_eq_true rfl) (fun A p e s m args below meth c C => ?_)
  have C : Cx G ad U A p s m meth c args cX6_moveNetwork RX6 4 none := C
  unfold f_X6_moveNetwork
  refine im_aload_n C 1 0 dX6_moveNetwork_0 rfl rfl rfl ?_
  refine gl_X6_12 C 4 (h0.1 0 (by decide) (by decide)) dX6_moveNetwork_1 rfl ?_
  refine im_iload_n C 5 1 dX6_moveNetwork_4 rfl rfl rfl ?_
  refine im_aload_n C 6 0 dX6_moveNetwork_5 rfl rfl rfl ?_
  refine gl_X6_30 C 9 (h0.1 0 (by decide) (by decide)) dX6_moveNetwork_6 rfl ?_
  refine im_aload_n C 10 0 dX6_moveNetwork_9 rfl rfl rfl ?_
  refine gl_X6_37 C 13 (h0.1 0 (by decide) (by decide)) dX6_moveNetwork_10 rfl ?_
  refine im_iadd C 14 dX6_moveNetwork_13 rfl ?_
  refine im_cVV C 17 vk_X5_makeOld gw_747 (c_X5_makeOld (b := b) (x1 := x1) (x2 := (D 0 b 2) + (D 0 b 4)) hU h0.2.1) (h0.2.1 1 (by decide) (by decide)) rfl rfl (rle rfl) rfl (st := []) rfl (Nat.le_of_ble_eq_true rfl) dX6_moveNetwork_14 rfl (fun D1 => ?_)
  refine im_aload_n C 18 0 dX6_moveNetwork_17 rfl rfl rfl ?_
  refine gl_X6_12 C 21 (h0.1 0 (by decide) (by decide)) dX6_moveNetwork_18 rfl ?_
  refine im_iload_n C 22 1 dX6_moveNetwork_21 rfl rfl rfl ?_
  refine im_iload_n C 23 2 dX6_moveNetwork_22 rfl rfl rfl ?_
  refine im_iload_n C 24 3 dX6_moveNetwork_23 rfl rfl rfl ?_
  refine im_cVV C 27 vk_X5_putCurrent gw_751 (c_X5_putCurrent (b := b) (x1 := x1) (x2 := x2) (x3 := x3) hU h0.2.1) (h0.2.1 1 (by decide) (by decide)) rfl rfl (rle rfl) rfl (st := []) rfl (Nat.le_of_ble_eq_true rfl) dX6_moveNetwork_24 rfl (fun D2 => ?_)
  refine im_aload_n C 28 0 dX6_moveNetwork_27 rfl rfl rfl ?_
  refine gl_X6_21 C 31 (h0.1 0 (by decide) (by decide)) dX6_moveNetwork_28 rfl ?_
  refine im_iload_n C 32 1 dX6_moveNetwork_31 rfl rfl rfl ?_
  refine im_cVV C 35 vk_X2_makeLeasesOld gw_752 (c_X2_makeLeasesOld (b := b) (x1 := x1) hU h0.2.2) (h0.2.2 9 (by decide) (by decide)) rfl rfl (rle rfl) rfl (st := []) rfl (Nat.le_of_ble_eq_true rfl) dX6_moveNetwork_32 rfl (fun D3 => ?_)
  refine im_aload_n C 36 0 dX6_moveNetwork_35 rfl rfl rfl ?_
  refine gl_X6_37 C 39 (h0.1 0 (by decide) (by decide)) dX6_moveNetwork_36 rfl ?_
  refine im_if_ne C 48 42 dX6_moveNetwork_39 rfl rfl ?_ ?_
  · exact im_vret C rfl dX6_moveNetwork_48
  · refine im_aload_n C 43 0 dX6_moveNetwork_42 rfl rfl rfl ?_
    refine im_iload_n C 44 1 dX6_moveNetwork_43 rfl rfl rfl ?_
    refine im_cVI C 47 vk_X6_giveUpOld gw_756 (c_X6_giveUpOld (b := b) (x1 := x1) hU h0) (h0.1 0 (by decide) (by decide)) rfl rfl (rle rfl) rfl (st := []) rfl (Nat.le_of_ble_eq_true rfl) dX6_moveNetwork_44 rfl (fun o4 => ?_)
    refine im_pop C 48 dX6_moveNetwork_47 rfl rfl ?_
    exact im_vret C rfl dX6_moveNetwork_48
set_option maxRecDepth 100000 in
set_option maxHeartbeats 4000000 in
theorem c_X5_movableBelow {l : Launch} {G : va_G} {ad : Nat → Nat → Nat} {U : List (Nat × Nat)} {D : Dt} {b : Nat} {x1 : Int32} (hU : Uinj ad U) (h0 : SpU U b) : MI l G ad U yX5_movableBelow cX5_movableBelow 4 .int (k2_rm 3 62) [.ref (ad 1 b), .int x1] D ((f_X5_movableBelow b x1 D).bind (fun r => some (r, D))) := by
  refine mI_of (lv := [(0, .ref (ad 1 b)), (1, .int x1)]) (by decide) hU rfl (Nat.le_of_ble_eq_true rfl) (fun A p e s m args below meth c C => ?_)
  have C : Cx G ad U A p s m meth c args cX5_movableBelow RX5 4 (some .int) := C
  unfold f_X5_movableBelow
  refine im_iconst C 1 dX5_movableBelow_0 rfl k_icm1 ?_
  refine im_istore_n C 2 [(2, .int (-1 : Int32)), (0, .ref (ad 1 b)), (1, .int x1)] dX5_movableBelow_1 rfl (by decide) rfl rfl ?_
  refine im_iconst C 3 dX5_movableBelow_2 rfl k_ic0 ?_
  refine im_istore_n C 4 [(3, .int (0 : Int32)), (2, .int (-1 : Int32)), (0, .ref (ad 1 b)), (1, .int x1)] dX5_movableBelow_3 rfl (by decide) rfl rfl ?_
  refine im_sub [2, 3, 1, 0] [(0, .ref (ad 1 b)), (1, .int x1), (2, .int (-1 : Int32)), (3, .int (0 : Int32))] rfl ?_
  refine im_lpB (l_X5_movableBelow_4 b x1 D) (fun z4 => [(0, .ref (ad 1 b)), (1, .int x1), (2, .int z4.1), (3, .int z4.2)]) (fun z4 => D) 56 (fun e1 => [(2, .int e1)]) (fun e1 => D) (fun e1 => ?_) (fun z4 X_z4 hX_z4 hE_z4 => ?_) FU ((-1 : Int32), (0 : Int32))
  · refine im_iload_n C 57 0 dX5_movableBelow_56 rfl rfl rfl ?_
    exact im_iret C rfl rfl dX5_movableBelow_57
  · unfold l_X5_movableBelow_4
    refine im_iload_n C 5 3 dX5_movableBelow_4 rfl rfl rfl ?_
    refine im_bipush C 7 dX5_movableBelow_5 rfl k_bp12 ?_
    refine im_ic_ge C 56 10 dX5_movableBelow_7 rfl rfl ?_ ?_
    · exact im_sub [2] [(2, .int z4.1)] rfl (hE_z4 z4.1)
    · refine im_aload_n C 11 0 dX5_movableBelow_10 rfl rfl rfl ?_
      refine im_iload_n C 12 3 dX5_movableBelow_11 rfl rfl rfl ?_
      refine im_cVP C 15 vk_X5_isMovable gw_774 (c_X5_isMovable (b := b) (x1 := z4.2) hU h0) (h0 1 (by decide) (by decide)) rfl rfl (rle rfl) rfl (st := []) rfl (Nat.le_of_ble_eq_true rfl) dX5_movableBelow_12 rfl (fun o2 => ?_)
      refine im_if_eq C 50 18 dX5_movableBelow_15 rfl rfl ?_ ?_
      · refine im_iinc C 53 3 [(3, .int (z4.2 + (1 : Int32))), (0, .ref (ad 1 b)), (1, .int x1), (2, .int z4.1)] dX5_movableBelow_50 rfl (k_inc1) (by decide) rfl rfl ?_
        refine im_goto C 4 dX5_movableBelow_53 rfl ?_
        exact im_sub [1, 2, 3, 0] [(0, .ref (ad 1 b)), (1, .int x1), (2, .int z4.1), (3, .int (z4.2 + (1 : Int32)))] rfl (hX_z4 (z4.1, z4.2 + (1 : Int32)))
      · refine im_aload_n C 19 0 dX5_movableBelow_18 rfl rfl rfl ?_
        refine gl_X5_18 C 22 (h0 1 (by decide) (by decide)) dX5_movableBelow_19 rfl ?_
        refine im_iload_n C 23 3 dX5_movableBelow_22 rfl rfl rfl ?_
        refine im_rdi C 24 12 (h0 4 (by decide) (by decide)) rfl dX5_movableBelow_23 rfl (fun v3 => ?_)
        refine im_iload_n C 25 1 dX5_movableBelow_24 rfl rfl rfl ?_
        refine im_ic_ge C 50 28 dX5_movableBelow_25 rfl rfl ?_ ?_
        · refine im_iinc C 53 3 [(3, .int (z4.2 + (1 : Int32))), (0, .ref (ad 1 b)), (1, .int x1), (2, .int z4.1)] dX5_movableBelow_50 rfl (k_inc1) (by decide) rfl rfl ?_
          refine im_goto C 4 dX5_movableBelow_53 rfl ?_
          exact im_sub [1, 2, 3, 0] [(0, .ref (ad 1 b)), (1, .int x1), (2, .int z4.1), (3, .int (z4.2 + (1 : Int32)))] rfl (hX_z4 (z4.1, z4.2 + (1 : Int32)))
        · refine im_iload_n C 29 2 dX5_movableBelow_28 rfl rfl rfl ?_
          refine im_iconst C 30 dX5_movableBelow_29 rfl k_icm1 ?_
          refine im_ic_eq C 48 33 dX5_movableBelow_30 rfl rfl ?_ ?_
          · refine im_iload_n C 49 3 dX5_movableBelow_48 rfl rfl rfl ?_
            refine im_istore_n C 50 [(2, .int z4.2), (0, .ref (ad 1 b)), (1, .int x1), (3, .int z4.2)] dX5_movableBelow_49 rfl (by decide) rfl rfl ?_
            refine im_iinc C 53 3 [(3, .int (z4.2 + (1 : Int32))), (2, .int z4.2), (0, .ref (ad 1 b)), (1, .int x1)] dX5_movableBelow_50 rfl (k_inc1) (by decide) rfl rfl ?_
            refine im_goto C 4 dX5_movableBelow_53 rfl ?_
            exact im_sub [2, 3, 1, 0] [(0, .ref (ad 1 b)), (1, .int x1), (2, .int z4.2), (3, .int (z4.2 + (1 : Int32)))] rfl (hX_z4 (z4.2, z4.2 + (1 : Int32)))
          · refine im_aload_n C 34 0 dX5_movableBelow_33 rfl rfl rfl ?_
            refine gl_X5_18 C 37 (h0 1 (by decide) (by decide)) dX5_movableBelow_34 rfl ?_
            refine im_iload_n C 38 3 dX5_movableBelow_37 rfl rfl rfl ?_
            refine im_rdi C 39 12 (h0 4 (by decide) (by decide)) rfl dX5_movableBelow_38 rfl (fun v4 => ?_)
            refine im_aload_n C 40 0 dX5_movableBelow_39 rfl rfl rfl ?_
            refine gl_X5_18 C 43 (h0 1 (by decide) (by decide)) dX5_movableBelow_40 rfl ?_
            refine im_iload_n C 44 2 dX5_movableBelow_43 rfl rfl rfl ?_
            refine im_rdi C 45 12 (h0 4 (by decide) (by decide)) rfl dX5_movableBelow_44 rfl (fun v5 => ?_)
            refine im_ic_le C 50 48 dX5_movableBelow_45 rfl rfl ?_ ?_
            · refine im_iinc C 53 3 [(3, .int (z4.2 + (1 : Int32))), (0, .ref (ad 1 b)), (1, .int x1), (2, .int z4.1)] dX5_movableBelow_50 rfl (k_inc1) (by decide) rfl rfl ?_
              refine im_goto C 4 dX5_movableBelow_53 rfl ?_
              exact im_sub [1, 2, 3, 0] [(0, .ref (ad 1 b)), (1, .int x1), (2, .int z4.1), (3, .int (z4.2 + (1 : Int32)))] rfl (hX_z4 (z4.1, z4.2 + (1 : Int32)))
            · refine im_iload_n C 49 3 dX5_movableBelow_48 rfl rfl rfl ?_
              refine im_istore_n C 50 [(2, .int z4.2), (0, .ref (ad 1 b)), (1, .int x1), (3, .int z4.2)] dX5_movableBelow_49 rfl (by decide) rfl rfl ?_
              refine im_iinc C 53 3 [(3, .int (z4.2 + (1 : Int32))), (2, .int z4.2), (0, .ref (ad 1 b)), (1, .int x1)] dX5_movableBelow_50 rfl (k_inc1) (by decide) rfl rfl ?_
              refine im_goto C 4 dX5_movableBelow_53 rfl ?_
              exact im_sub [2, 3, 1, 0] [(0, .ref (ad 1 b)), (1, .int x1), (2, .int z4.2), (3, .int (z4.2 + (1 : Int32)))] rfl (hX_z4 (z4.2, z4.2 + (1 : Int32)))
set_option maxRecDepth 100000 in
set_option maxHeartbeats 4000000 in
theorem c_X2_membersOf {l : Launch} {G : va_G} {ad : Nat → Nat → Nat} {U : List (Nat × Nat)} {D : Dt} {b : Nat} {x1 : Int32} (hU : Uinj ad U) (h0 : HoU U b) : MI l G ad U yX2_membersOf cX2_membersOf 4 .int (k2_rm 0 0) [.ref (ad 9 b), .int x1] D ((f_X2_membersOf b x1 D).bind (fun r => some (r, D))) := by
  refine mI_of (lv := [(0, .ref (ad 9 b)), (1, .int x1)]) (by decide) hU rfl (Nat.le_of_ble_eq_true rfl) (fun A p e s m args below meth c C => ?_)
  have C : Cx G ad U A p s m meth c args cX2_membersOf RX2 4 (some .int) := C
  unfold f_X2_membersOf
  refine im_iconst C 1 dX2_membersOf_0 rfl k_ic0 ?_
  refine im_istore_n C 2 [(2, .int (0 : Int32)), (0, .ref (ad 9 b)), (1, .int x1)] dX2_membersOf_1 rfl (by decide) rfl rfl ?_
  refine im_iconst C 3 dX2_membersOf_2 rfl k_ic0 ?_
  refine im_istore_n C 4 [(3, .int (0 : Int32)), (2, .int (0 : Int32)), (0, .ref (ad 9 b)), (1, .int x1)] dX2_membersOf_3 rfl (by decide) rfl rfl ?_
  refine im_sub [2, 3, 1, 0] [(0, .ref (ad 9 b)), (1, .int x1), (2, .int (0 : Int32)), (3, .int (0 : Int32))] rfl ?_
  refine im_lpB (l_X2_membersOf_4 b x1 D) (fun z4 => [(0, .ref (ad 9 b)), (1, .int x1), (2, .int z4.1), (3, .int z4.2)]) (fun z4 => D) 34 (fun e1 => [(2, .int e1)]) (fun e1 => D) (fun e1 => ?_) (fun z4 X_z4 hX_z4 hE_z4 => ?_) FU ((0 : Int32), (0 : Int32))
  · refine im_iload_n C 35 0 dX2_membersOf_34 rfl rfl rfl ?_
    exact im_iret C rfl rfl dX2_membersOf_35
  · unfold l_X2_membersOf_4
    refine im_iload_n C 5 3 dX2_membersOf_4 rfl rfl rfl ?_
    refine im_bipush C 7 dX2_membersOf_5 rfl k_bp16 ?_
    refine im_ic_ge C 34 10 dX2_membersOf_7 rfl rfl ?_ ?_
    · exact im_sub [2] [(2, .int z4.1)] rfl (hE_z4 z4.1)
    · refine im_iload_n C 11 2 dX2_membersOf_10 rfl rfl rfl ?_
      refine im_aload_n C 12 0 dX2_membersOf_11 rfl rfl rfl ?_
      refine gl_X2_9 C 15 (h0 9 (by decide) (by decide)) dX2_membersOf_12 rfl ?_
      refine im_iload_n C 16 3 dX2_membersOf_15 rfl rfl rfl ?_
      refine im_rdi C 17 16 (h0 10 (by decide) (by decide)) rfl dX2_membersOf_16 rfl (fun v2 => ?_)
      refine im_iload_n C 18 1 dX2_membersOf_17 rfl rfl rfl ?_
      refine im_ic_ne C 25 21 dX2_membersOf_18 rfl rfl ?_ ?_
      · refine im_iconst C 26 dX2_membersOf_25 rfl k_ic0 ?_
        refine im_iadd C 27 dX2_membersOf_26 rfl ?_
        refine im_istore_n C 28 [(2, .int (z4.1 + (0 : Int32))), (0, .ref (ad 9 b)), (1, .int x1), (3, .int z4.2)] dX2_membersOf_27 rfl (by decide) rfl rfl ?_
        refine im_iinc C 31 3 [(3, .int (z4.2 + (1 : Int32))), (2, .int (z4.1 + (0 : Int32))), (0, .ref (ad 9 b)), (1, .int x1)] dX2_membersOf_28 rfl (k_inc1) (by decide) rfl rfl ?_
        refine im_goto C 4 dX2_membersOf_31 rfl ?_
        exact im_sub [2, 3, 1, 0] [(0, .ref (ad 9 b)), (1, .int x1), (2, .int (z4.1 + (0 : Int32))), (3, .int (z4.2 + (1 : Int32)))] rfl (hX_z4 (z4.1 + (0 : Int32), z4.2 + (1 : Int32)))
      · refine im_iconst C 22 dX2_membersOf_21 rfl k_ic1 ?_
        refine im_goto C 26 dX2_membersOf_22 rfl ?_
        refine im_iadd C 27 dX2_membersOf_26 rfl ?_
        refine im_istore_n C 28 [(2, .int (z4.1 + (1 : Int32))), (0, .ref (ad 9 b)), (1, .int x1), (3, .int z4.2)] dX2_membersOf_27 rfl (by decide) rfl rfl ?_
        refine im_iinc C 31 3 [(3, .int (z4.2 + (1 : Int32))), (2, .int (z4.1 + (1 : Int32))), (0, .ref (ad 9 b)), (1, .int x1)] dX2_membersOf_28 rfl (k_inc1) (by decide) rfl rfl ?_
        refine im_goto C 4 dX2_membersOf_31 rfl ?_
        exact im_sub [2, 3, 1, 0] [(0, .ref (ad 9 b)), (1, .int x1), (2, .int (z4.1 + (1 : Int32))), (3, .int (z4.2 + (1 : Int32)))] rfl (hX_z4 (z4.1 + (1 : Int32), z4.2 + (1 : Int32)))
set_option maxRecDepth 100000 in
set_option maxHeartbeats 4000000 in
theorem c_X5_property {l : Launch} {G : va_G} {ad : Nat → Nat → Nat} {U : List (Nat × Nat)} {D : Dt} {b : Nat} {x1 : Int32} {x2 : Int32} (hU : Uinj ad U) (h0 : SpU U b) : MI l G ad U yX5_property cX5_property 3 .int (k2_rm 0 0) [.ref (ad 1 b), .int x1, .int x2] D ((f_X5_property b x1 x2 D).bind (fun r => some (r, D))) := by
  refine mI_of (lv := [(0, .ref (ad 1 b)), (1, .int x1), (2, .int x2)]) (by decide) hU rfl (Nat.le_of_ble_eq_true rfl) (fun A p e s m args below meth c C => ?_)
  have C : Cx G ad U A p s m meth c args cX5_property RX5 3 (some .int) := C
  unfold f_X5_property
  refine im_iload_n C 1 2 dX5_property_0 rfl rfl rfl ?_
  refine im_ite (fun s1_0 => ?_) (fun s1_0 => ?_)
  · refine im_tabIn C 32 (y := (0 : Int32)) s1_0 dX5_property_1 (by decide) (by decide) rfl rfl ?_
    refine im_aload_n C 33 0 dX5_property_32 rfl rfl rfl ?_
    refine gl_X5_18 C 36 (h0 1 (by decide) (by decide)) dX5_property_33 rfl ?_
    refine im_iload_n C 37 1 dX5_property_36 rfl rfl rfl ?_
    refine im_rdi C 38 12 (h0 4 (by decide) (by decide)) rfl dX5_property_37 rfl (fun v1 => ?_)
    exact im_iret C rfl rfl dX5_property_38
  · refine im_ite (fun s1_1 => ?_) (fun s1_1 => ?_)
    · refine im_tabIn C 39 (y := (1 : Int32)) s1_1 dX5_property_1 (by decide) (by decide) rfl rfl ?_
      refine im_aload_n C 40 0 dX5_property_39 rfl rfl rfl ?_
      refine gl_X5_21 C 43 (h0 1 (by decide) (by decide)) dX5_property_40 rfl ?_
      refine im_iload_n C 44 1 dX5_property_43 rfl rfl rfl ?_
      refine im_rdi C 45 12 (h0 5 (by decide) (by decide)) rfl dX5_property_44 rfl (fun v2 => ?_)
      exact im_iret C rfl rfl dX5_property_45
    · refine im_ite (fun s1_2 => ?_) (fun s1_2 => ?_)
      · refine im_tabIn C 46 (y := (2 : Int32)) s1_2 dX5_property_1 (by decide) (by decide) rfl rfl ?_
        refine im_aload_n C 47 0 dX5_property_46 rfl rfl rfl ?_
        refine gl_X5_24 C 50 (h0 1 (by decide) (by decide)) dX5_property_47 rfl ?_
        refine im_iload_n C 51 1 dX5_property_50 rfl rfl rfl ?_
        refine im_rdi C 52 12 (h0 6 (by decide) (by decide)) rfl dX5_property_51 rfl (fun v3 => ?_)
        exact im_iret C rfl rfl dX5_property_52
      · refine im_ite (fun s1_3 => ?_) (fun s1_3 => ?_)
        · refine im_tabIn C 53 (y := (3 : Int32)) s1_3 dX5_property_1 (by decide) (by decide) rfl rfl ?_
          refine im_aload_n C 54 0 dX5_property_53 rfl rfl rfl ?_
          refine gl_X5_27 C 57 (h0 1 (by decide) (by decide)) dX5_property_54 rfl ?_
          refine im_iload_n C 58 1 dX5_property_57 rfl rfl rfl ?_
          refine im_rdi C 59 12 (h0 7 (by decide) (by decide)) rfl dX5_property_58 rfl (fun v4 => ?_)
          exact im_iret C rfl rfl dX5_property_59
        · refine im_tabOut C 60 dX5_property_1 (by have a0 := nz s1_0 (n := 0) (by decide); have a1 := nz s1_1 (n := 1) (by decide); have a2 := nz s1_2 (n := 2) (by decide); have a3 := nz s1_3 (n := 3) (by decide); omega) rfl ?_
          refine im_aload_n C 61 0 dX5_property_60 rfl rfl rfl ?_
          refine gl_X5_30 C 64 (h0 1 (by decide) (by decide)) dX5_property_61 rfl ?_
          refine im_iload_n C 65 1 dX5_property_64 rfl rfl rfl ?_
          refine im_rdi C 66 12 (h0 8 (by decide) (by decide)) rfl dX5_property_65 rfl (fun v5 => ?_)
          exact im_iret C rfl rfl dX5_property_66
set_option maxRecDepth 100000 in
set_option maxHeartbeats 4000000 in
theorem c_X5_networkAt {l : Launch} {G : va_G} {ad : Nat → Nat → Nat} {U : List (Nat × Nat)} {D : Dt} {b : Nat} {x1 : Int32} (hU : Uinj ad U) (h0 : SpU U b) : MI l G ad U yX5_networkAt cX5_networkAt 3 .int (k2_rm 2 42) [.ref (ad 1 b), .int x1] D ((f_X5_networkAt b x1 D).bind (fun r => some (r, D))) := by
  refine mI_of (lv := [(0, .ref (ad 1 b)), (1, .int x1)]) (by decide) hU rfl (Nat.le_of_ble_eq_true rfl) (fun A p e s m args below meth c C => ?_)
  have C : Cx G ad U A p s m meth c args cX5_networkAt RX5 3 (some .int) := C
  unfold f_X5_networkAt
  refine im_iconst C 1 dX5_networkAt_0 rfl k_ic0 ?_
  refine im_istore_n C 2 [(2, .int (0 : Int32)), (0, .ref (ad 1 b)), (1, .int x1)] dX5_networkAt_1 rfl (by decide) rfl rfl ?_
  refine im_sub [1, 2, 0] [(0, .ref (ad 1 b)), (1, .int x1), (2, .int (0 : Int32))] rfl ?_
  refine im_lpI (l_X5_networkAt_2 b x1 D) (fun z2 => [(0, .ref (ad 1 b)), (1, .int x1), (2, .int z2)]) (fun z2 => D) (fun z2 X_z2 hX_z2 => ?_) FU (0 : Int32)
  unfold l_X5_networkAt_2
  refine im_iload_n C 3 2 dX5_networkAt_2 rfl rfl rfl ?_
  refine im_bipush C 5 dX5_networkAt_3 rfl k_bp12 ?_
  refine im_ic_ge C 54 8 dX5_networkAt_5 rfl rfl ?_ ?_
  · refine im_iconst C 55 dX5_networkAt_54 rfl k_icm1 ?_
    exact im_iret C rfl rfl dX5_networkAt_55
  · refine im_aload_n C 9 0 dX5_networkAt_8 rfl rfl rfl ?_
    refine gl_X5_18 C 12 (h0 1 (by decide) (by decide)) dX5_networkAt_9 rfl ?_
    refine im_iload_n C 13 2 dX5_networkAt_12 rfl rfl rfl ?_
    refine im_rdi C 14 12 (h0 4 (by decide) (by decide)) rfl dX5_networkAt_13 rfl (fun v1 => ?_)
    refine im_aload_n C 15 0 dX5_networkAt_14 rfl rfl rfl ?_
    refine gl_X5_21 C 18 (h0 1 (by decide) (by decide)) dX5_networkAt_15 rfl ?_
    refine im_iload_n C 19 2 dX5_networkAt_18 rfl rfl rfl ?_
    refine im_rdi C 20 12 (h0 5 (by decide) (by decide)) rfl dX5_networkAt_19 rfl (fun v2 => ?_)
    refine im_iload_n C 21 1 dX5_networkAt_20 rfl rfl rfl ?_
    refine im_cSNP C 24 sk_X9_covers gw_725 (c_X9_covers (x0 := v1) (x1 := v2) (x2 := x1) hU) (rle rfl) rfl (st := []) rfl (Nat.le_of_ble_eq_true rfl) dX5_networkAt_21 rfl (fun o3 => ?_)
    refine im_if_ne C 46 27 dX5_networkAt_24 rfl rfl ?_ ?_
    · refine im_iload_n C 47 2 dX5_networkAt_46 rfl rfl rfl ?_
      exact im_iret C rfl rfl dX5_networkAt_47
    · refine im_aload_n C 28 0 dX5_networkAt_27 rfl rfl rfl ?_
      refine gl_X5_24 C 31 (h0 1 (by decide) (by decide)) dX5_networkAt_28 rfl ?_
      refine im_iload_n C 32 2 dX5_networkAt_31 rfl rfl rfl ?_
      refine im_rdi C 33 12 (h0 6 (by decide) (by decide)) rfl dX5_networkAt_32 rfl (fun v4 => ?_)
      refine im_aload_n C 34 0 dX5_networkAt_33 rfl rfl rfl ?_
      refine gl_X5_27 C 37 (h0 1 (by decide) (by decide)) dX5_networkAt_34 rfl ?_
      refine im_iload_n C 38 2 dX5_networkAt_37 rfl rfl rfl ?_
      refine im_rdi C 39 12 (h0 7 (by decide) (by decide)) rfl dX5_networkAt_38 rfl (fun v5 => ?_)
      refine im_iload_n C 40 1 dX5_networkAt_39 rfl rfl rfl ?_
      refine im_cSNP C 43 sk_X9_covers gw_725 (c_X9_covers (x0 := v4) (x1 := v5) (x2 := x1) hU) (rle rfl) rfl (st := []) rfl (Nat.le_of_ble_eq_true rfl) dX5_networkAt_40 rfl (fun o6 => ?_)
      refine im_if_eq C 48 46 dX5_networkAt_43 rfl rfl ?_ ?_
      · refine im_iinc C 51 2 [(2, .int (z2 + (1 : Int32))), (0, .ref (ad 1 b)), (1, .int x1)] dX5_networkAt_48 rfl (k_inc1) (by decide) rfl rfl ?_
        refine im_goto C 2 dX5_networkAt_51 rfl ?_
        exact im_sub [1, 2, 0] [(0, .ref (ad 1 b)), (1, .int x1), (2, .int (z2 + (1 : Int32)))] rfl (hX_z2 (z2 + (1 : Int32)))
      · refine im_iload_n C 47 2 dX5_networkAt_46 rfl rfl rfl ?_
        exact im_iret C rfl rfl dX5_networkAt_47
set_option maxRecDepth 100000 in
set_option maxHeartbeats 4000000 in
theorem c_X9_isHost {l : Launch} {G : va_G} {ad : Nat → Nat → Nat} {U : List (Nat × Nat)} {D : Dt} {x0 : Int32} (hU : Uinj ad U) : MI l G ad U yX9_isHost cX9_isHost 1 .boolean (k2_rm 0 0) [.int x0] D ((f_X9_isHost x0 D).bind (fun r => some (r, D))) := by
  refine mI_of (lv := [(0, .int x0)]) (by decide) hU rfl (Nat.le_of_ble_eq_true rfl) (fun A p e s m args below meth c C => ?_)
  have C : Cx G ad U A p s m meth c args cX9_isHost RX9 1 (some .boolean) := C
  unfold f_X9_isHost
  refine im_iload_n C 1 0 dX9_isHost_0 rfl rfl rfl ?_
  refine im_if_lt C 14 4 dX9_isHost_1 rfl rfl ?_ ?_
  · refine im_iconst C 15 dX9_isHost_14 rfl k_ic0 ?_
    exact im_iret C rfl rfl dX9_isHost_15
  · refine im_iload_n C 5 0 dX9_isHost_4 rfl rfl rfl ?_
    refine im_bipush C 7 dX9_isHost_5 rfl k_bp16 ?_
    refine im_ic_ge C 14 10 dX9_isHost_7 rfl rfl ?_ ?_
    · refine im_iconst C 15 dX9_isHost_14 rfl k_ic0 ?_
      exact im_iret C rfl rfl dX9_isHost_15
    · refine im_iconst C 11 dX9_isHost_10 rfl k_ic1 ?_
      refine im_goto C 15 dX9_isHost_11 rfl ?_
      exact im_iret C rfl rfl dX9_isHost_15
set_option maxRecDepth 100000 in
set_option maxHeartbeats 4000000 in
theorem c_X2_renewsOld {l : Launch} {G : va_G} {ad : Nat → Nat → Nat} {U : List (Nat × Nat)} {D : Dt} {b : Nat} {x1 : Int32} (hU : Uinj ad U) (h0 : HoU U b) : MI l G ad U yX2_renewsOld cX2_renewsOld 2 .boolean (k2_rm 0 0) [.ref (ad 9 b), .int x1] D ((f_X2_renewsOld b x1 D).bind (fun r => some (r, D))) := by
  refine mI_of (lv := [(0, .ref (ad 9 b)), (1, .int x1)]) (by decide) hU rfl (Nat.le_of_ble_eq_true rfl) (fun A p e s m args below meth c C => ?_)
  have C : Cx G ad U A p s m meth c args cX2_renewsOld RX2 2 (some .boolean) := C
  unfold f_X2_renewsOld
  refine im_aload_n C 1 0 dX2_renewsOld_0 rfl rfl rfl ?_
  refine gl_X2_18 C 4 (h0 9 (by decide) (by decide)) dX2_renewsOld_1 rfl ?_
  refine im_iload_n C 5 1 dX2_renewsOld_4 rfl rfl rfl ?_
  refine im_rdi C 6 16 (h0 12 (by decide) (by decide)) rfl dX2_renewsOld_5 rfl (fun v1 => ?_)
  refine im_iconst C 7 dX2_renewsOld_6 rfl k_icm1 ?_
  refine im_ic_ne C 34 10 dX2_renewsOld_7 rfl rfl ?_ ?_
  · refine im_iconst C 35 dX2_renewsOld_34 rfl k_ic0 ?_
    exact im_iret C rfl rfl dX2_renewsOld_35
  · refine im_aload_n C 11 0 dX2_renewsOld_10 rfl rfl rfl ?_
    refine gl_X2_15 C 14 (h0 9 (by decide) (by decide)) dX2_renewsOld_11 rfl ?_
    refine im_iload_n C 15 1 dX2_renewsOld_14 rfl rfl rfl ?_
    refine im_rdi C 16 16 (h0 11 (by decide) (by decide)) rfl dX2_renewsOld_15 rfl (fun v2 => ?_)
    refine im_iconst C 17 dX2_renewsOld_16 rfl k_ic1 ?_
    refine im_ic_ne C 34 20 dX2_renewsOld_17 rfl rfl ?_ ?_
    · refine im_iconst C 35 dX2_renewsOld_34 rfl k_ic0 ?_
      exact im_iret C rfl rfl dX2_renewsOld_35
    · refine im_aload_n C 21 0 dX2_renewsOld_20 rfl rfl rfl ?_
      refine gl_X2_24 C 24 (h0 9 (by decide) (by decide)) dX2_renewsOld_21 rfl ?_
      refine im_iload_n C 25 1 dX2_renewsOld_24 rfl rfl rfl ?_
      refine im_rdi C 26 16 (h0 14 (by decide) (by decide)) rfl dX2_renewsOld_25 rfl (fun v3 => ?_)
      refine im_iconst C 27 dX2_renewsOld_26 rfl k_icm1 ?_
      refine im_ic_eq C 34 30 dX2_renewsOld_27 rfl rfl ?_ ?_
      · refine im_iconst C 35 dX2_renewsOld_34 rfl k_ic0 ?_
        exact im_iret C rfl rfl dX2_renewsOld_35
      · refine im_iconst C 31 dX2_renewsOld_30 rfl k_ic1 ?_
        refine im_goto C 35 dX2_renewsOld_31 rfl ?_
        exact im_iret C rfl rfl dX2_renewsOld_35
set_option maxRecDepth 100000 in
set_option maxHeartbeats 4000000 in
theorem c_X2_holderOf {l : Launch} {G : va_G} {ad : Nat → Nat → Nat} {U : List (Nat × Nat)} {D : Dt} {b : Nat} {x1 : Int32} (hU : Uinj ad U) (h0 : HoU U b) : MI l G ad U yX2_holderOf cX2_holderOf 3 .int (k2_rm 0 0) [.ref (ad 9 b), .int x1] D ((f_X2_holderOf b x1 D).bind (fun r => some (r, D))) := by
  refine mI_of (lv := [(0, .ref (ad 9 b)), (1, .int x1)]) (by decide) hU rfl (Nat.le_of_ble_eq_true rfl) (fun A p e s m args below meth c C => ?_)
  have C : Cx G ad U A p s m meth c args cX2_holderOf RX2 3 (some .int) := C
  unfold f_X2_holderOf
  refine im_iconst C 1 dX2_holderOf_0 rfl k_ic0 ?_
  refine im_istore_n C 2 [(2, .int (0 : Int32)), (0, .ref (ad 9 b)), (1, .int x1)] dX2_holderOf_1 rfl (by decide) rfl rfl ?_
  refine im_sub [1, 2, 0] [(0, .ref (ad 9 b)), (1, .int x1), (2, .int (0 : Int32))] rfl ?_
  refine im_lpI (l_X2_holderOf_2 b x1 D) (fun z2 => [(0, .ref (ad 9 b)), (1, .int x1), (2, .int z2)]) (fun z2 => D) (fun z2 X_z2 hX_z2 => ?_) FU (0 : Int32)
  unfold l_X2_holderOf_2
  refine im_iload_n C 3 2 dX2_holderOf_2 rfl rfl rfl ?_
  refine im_bipush C 5 dX2_holderOf_3 rfl k_bp16 ?_
  refine im_ic_ge C 36 8 dX2_holderOf_5 rfl rfl ?_ ?_
  · refine im_iconst C 37 dX2_holderOf_36 rfl k_icm1 ?_
    exact im_iret C rfl rfl dX2_holderOf_37
  · refine im_aload_n C 9 0 dX2_holderOf_8 rfl rfl rfl ?_
    refine gl_X2_18 C 12 (h0 9 (by decide) (by decide)) dX2_holderOf_9 rfl ?_
    refine im_iload_n C 13 2 dX2_holderOf_12 rfl rfl rfl ?_
    refine im_rdi C 14 16 (h0 12 (by decide) (by decide)) rfl dX2_holderOf_13 rfl (fun v1 => ?_)
    refine im_iload_n C 15 1 dX2_holderOf_14 rfl rfl rfl ?_
    refine im_ic_eq C 28 18 dX2_holderOf_15 rfl rfl ?_ ?_
    · refine im_iload_n C 29 2 dX2_holderOf_28 rfl rfl rfl ?_
      exact im_iret C rfl rfl dX2_holderOf_29
    · refine im_aload_n C 19 0 dX2_holderOf_18 rfl rfl rfl ?_
      refine gl_X2_24 C 22 (h0 9 (by decide) (by decide)) dX2_holderOf_19 rfl ?_
      refine im_iload_n C 23 2 dX2_holderOf_22 rfl rfl rfl ?_
      refine im_rdi C 24 16 (h0 14 (by decide) (by decide)) rfl dX2_holderOf_23 rfl (fun v2 => ?_)
      refine im_iload_n C 25 1 dX2_holderOf_24 rfl rfl rfl ?_
      refine im_ic_ne C 30 28 dX2_holderOf_25 rfl rfl ?_ ?_
      · refine im_iinc C 33 2 [(2, .int (z2 + (1 : Int32))), (0, .ref (ad 9 b)), (1, .int x1)] dX2_holderOf_30 rfl (k_inc1) (by decide) rfl rfl ?_
        refine im_goto C 2 dX2_holderOf_33 rfl ?_
        exact im_sub [1, 2, 0] [(0, .ref (ad 9 b)), (1, .int x1), (2, .int (z2 + (1 : Int32)))] rfl (hX_z2 (z2 + (1 : Int32)))
      · refine im_iload_n C 29 2 dX2_holderOf_28 rfl rfl rfl ?_
        exact im_iret C rfl rfl dX2_holderOf_29
set_option maxRecDepth 100000 in
set_option maxHeartbeats 4000000 in
theorem c_X6_sameDistance {l : Launch} {G : va_G} {ad : Nat → Nat → Nat} {U : List (Nat × Nat)} {D : Dt} {b : Nat} {x1 : Int32} {x2 : Int32} (hU : Uinj ad U) (h0 : StU U b) : MI l G ad U yX6_sameDistance cX6_sameDistance 6 .int (k2_rm 3 65) [.ref (ad 0 b), .int x1, .int x2] D ((f_X6_sameDistance b x1 x2 D).bind (fun r => some (r, D))) := by
  refine mI_of (lv := [(0, .ref (ad 0 b)), (1, .int x1), (2, .int x2)]) (by decide) hU rfl (Nat.le_of_ble_eq_true rfl) (fun A p e s m args below meth c C => ?_)
  have C : Cx G ad U A p s m meth c args cX6_sameDistance RX6 6 (some .int) := C
  unfold f_X6_sameDistance
  refine im_aload_n C 1 0 dX6_sameDistance_0 rfl rfl rfl ?_
  refine gl_X6_21 C 4 (h0.1 0 (by decide) (by decide)) dX6_sameDistance_1 rfl ?_
  refine gl_X6_89 C 7 (h0.2.2 9 (by decide) (by decide)) dX6_sameDistance_4 rfl ?_
  refine im_iload_n C 8 1 dX6_sameDistance_7 rfl rfl rfl ?_
  refine im_rdi C 9 16 (h0.2.2 14 (by decide) (by decide)) rfl dX6_sameDistance_8 rfl (fun v1 => ?_)
  refine im_iconst C 10 dX6_sameDistance_9 rfl k_icm1 ?_
  refine im_ic_eq C 24 13 dX6_sameDistance_10 rfl rfl ?_ ?_
  · refine im_iconst C 25 dX6_sameDistance_24 rfl k_icm1 ?_
    exact im_iret C rfl rfl dX6_sameDistance_25
  · refine im_aload_n C 14 0 dX6_sameDistance_13 rfl rfl rfl ?_
    refine gl_X6_12 C 17 (h0.1 0 (by decide) (by decide)) dX6_sameDistance_14 rfl ?_
    refine im_iload_n C 18 2 dX6_sameDistance_17 rfl rfl rfl ?_
    refine im_cVP C 21 vk_X5_hasOld gw_828 (c_X5_hasOld (b := b) (x1 := x2) hU h0.2.1) (h0.2.1 1 (by decide) (by decide)) rfl rfl (rle rfl) rfl (st := []) rfl (Nat.le_of_ble_eq_true rfl) dX6_sameDistance_18 rfl (fun o2 => ?_)
    refine im_if_ne C 26 24 dX6_sameDistance_21 rfl rfl ?_ ?_
    · refine im_aload_n C 27 0 dX6_sameDistance_26 rfl rfl rfl ?_
      refine gl_X6_21 C 30 (h0.1 0 (by decide) (by decide)) dX6_sameDistance_27 rfl ?_
      refine gl_X6_89 C 33 (h0.2.2 9 (by decide) (by decide)) dX6_sameDistance_30 rfl ?_
      refine im_iload_n C 34 1 dX6_sameDistance_33 rfl rfl rfl ?_
      refine im_rdi C 35 16 (h0.2.2 14 (by decide) (by decide)) rfl dX6_sameDistance_34 rfl (fun v3 => ?_)
      refine im_aload_n C 36 0 dX6_sameDistance_35 rfl rfl rfl ?_
      refine gl_X6_12 C 39 (h0.1 0 (by decide) (by decide)) dX6_sameDistance_36 rfl ?_
      refine gl_X6_111 C 42 (h0.2.1 1 (by decide) (by decide)) dX6_sameDistance_39 rfl ?_
      refine im_iload_n C 43 2 dX6_sameDistance_42 rfl rfl rfl ?_
      refine im_rdi C 44 12 (h0.2.1 6 (by decide) (by decide)) rfl dX6_sameDistance_43 rfl (fun v4 => ?_)
      refine im_isub C 45 dX6_sameDistance_44 rfl ?_
      refine im_istore_n C 46 [(3, .int (v3 - v4)), (0, .ref (ad 0 b)), (1, .int x1), (2, .int x2)] dX6_sameDistance_45 rfl (by decide) rfl rfl ?_
      refine im_aload_n C 47 1 dX6_sameDistance_46 rfl rfl rfl ?_
      refine gl_X6_12 C 50 (h0.1 0 (by decide) (by decide)) dX6_sameDistance_47 rfl ?_
      refine gl_X6_102 C 53 (h0.2.1 1 (by decide) (by decide)) dX6_sameDistance_50 rfl ?_
      refine im_iload_n C 54 3 dX6_sameDistance_53 rfl rfl rfl ?_
      refine im_rdi C 55 12 (h0.2.1 4 (by decide) (by decide)) rfl dX6_sameDistance_54 rfl (fun v5 => ?_)
      refine im_iload_n C 56 0 dX6_sameDistance_55 rfl rfl rfl ?_
      refine im_iadd C 57 dX6_sameDistance_56 rfl ?_
      refine im_istore C 59 [(4, .int (v5 + (v3 - v4))), (3, .int (v3 - v4)), (0, .ref (ad 0 b)), (1, .int x1), (2, .int x2)] dX6_sameDistance_57 (by decide) rfl rfl ?_
      refine im_aload_n C 60 2 dX6_sameDistance_59 rfl rfl rfl ?_
      refine gl_X6_12 C 63 (h0.1 0 (by decide) (by decide)) dX6_sameDistance_60 rfl ?_
      refine gl_X6_102 C 66 (h0.2.1 1 (by decide) (by decide)) dX6_sameDistance_63 rfl ?_
      refine im_iload_n C 67 4 dX6_sameDistance_66 rfl rfl rfl ?_
      refine im_rdi C 68 12 (h0.2.1 4 (by decide) (by decide)) rfl dX6_sameDistance_67 rfl (fun v6 => ?_)
      refine im_aload_n C 69 2 dX6_sameDistance_68 rfl rfl rfl ?_
      refine gl_X6_12 C 72 (h0.1 0 (by decide) (by decide)) dX6_sameDistance_69 rfl ?_
      refine gl_X6_105 C 75 (h0.2.1 1 (by decide) (by decide)) dX6_sameDistance_72 rfl ?_
      refine im_iload_n C 76 4 dX6_sameDistance_75 rfl rfl rfl ?_
      refine im_rdi C 77 12 (h0.2.1 5 (by decide) (by decide)) rfl dX6_sameDistance_76 rfl (fun v7 => ?_)
      refine im_iload C 79 0 dX6_sameDistance_77 rfl rfl ?_
      refine im_cSNP C 82 sk_X9_canLease gw_829 (c_X9_canLease (x0 := v6) (x1 := v7) (x2 := v5 + (v3 - v4)) hU) (rle rfl) rfl (st := []) rfl (Nat.le_of_ble_eq_true rfl) dX6_sameDistance_79 rfl (fun o8 => ?_)
      refine im_if_eq C 102 85 dX6_sameDistance_82 rfl rfl ?_ ?_
      · refine im_iconst C 103 dX6_sameDistance_102 rfl k_ic0 ?_
        refine im_istore C 105 [(5, .int (0 : Int32)), (4, .int (v5 + (v3 - v4))), (3, .int (v3 - v4)), (0, .ref (ad 0 b)), (1, .int x1), (2, .int x2)] dX6_sameDistance_103 (by decide) rfl rfl ?_
        refine im_iload C 107 0 dX6_sameDistance_105 rfl rfl ?_
        refine im_if_eq C 115 110 dX6_sameDistance_107 rfl rfl ?_ ?_
        · refine im_iconst C 116 dX6_sameDistance_115 rfl k_icm1 ?_
          exact im_iret C rfl rfl dX6_sameDistance_116
        · refine im_iload C 112 1 dX6_sameDistance_110 rfl rfl ?_
          refine im_goto C 116 dX6_sameDistance_112 rfl ?_
          exact im_iret C rfl rfl dX6_sameDistance_116
      · refine im_aload_n C 86 2 dX6_sameDistance_85 rfl rfl rfl ?_
        refine gl_X6_21 C 89 (h0.1 0 (by decide) (by decide)) dX6_sameDistance_86 rfl ?_
        refine im_iload C 91 0 dX6_sameDistance_89 rfl rfl ?_
        refine im_cVP C 94 vk_X2_holderOf gw_830 (c_X2_holderOf (b := b) (x1 := v5 + (v3 - v4)) hU h0.2.2) (h0.2.2 9 (by decide) (by decide)) rfl rfl (rle rfl) rfl (st := []) rfl (Nat.le_of_ble_eq_true rfl) dX6_sameDistance_91 rfl (fun o9 => ?_)
        refine im_iconst C 95 dX6_sameDistance_94 rfl k_icm1 ?_
        refine im_ic_ne C 102 98 dX6_sameDistance_95 rfl rfl ?_ ?_
        · refine im_iconst C 103 dX6_sameDistance_102 rfl k_ic0 ?_
          refine im_istore C 105 [(5, .int (0 : Int32)), (4, .int (v5 + (v3 - v4))), (3, .int (v3 - v4)), (0, .ref (ad 0 b)), (1, .int x1), (2, .int x2)] dX6_sameDistance_103 (by decide) rfl rfl ?_
          refine im_iload C 107 0 dX6_sameDistance_105 rfl rfl ?_
          refine im_if_eq C 115 110 dX6_sameDistance_107 rfl rfl ?_ ?_
          · refine im_iconst C 116 dX6_sameDistance_115 rfl k_icm1 ?_
            exact im_iret C rfl rfl dX6_sameDistance_116
          · refine im_iload C 112 1 dX6_sameDistance_110 rfl rfl ?_
            refine im_goto C 116 dX6_sameDistance_112 rfl ?_
            exact im_iret C rfl rfl dX6_sameDistance_116
        · refine im_iconst C 99 dX6_sameDistance_98 rfl k_ic1 ?_
          refine im_goto C 103 dX6_sameDistance_99 rfl ?_
          refine im_istore C 105 [(5, .int (1 : Int32)), (4, .int (v5 + (v3 - v4))), (3, .int (v3 - v4)), (0, .ref (ad 0 b)), (1, .int x1), (2, .int x2)] dX6_sameDistance_103 (by decide) rfl rfl ?_
          refine im_iload C 107 0 dX6_sameDistance_105 rfl rfl ?_
          refine im_if_eq C 115 110 dX6_sameDistance_107 rfl rfl ?_ ?_
          · refine im_iconst C 116 dX6_sameDistance_115 rfl k_icm1 ?_
            exact im_iret C rfl rfl dX6_sameDistance_116
          · refine im_iload C 112 1 dX6_sameDistance_110 rfl rfl ?_
            refine im_goto C 116 dX6_sameDistance_112 rfl ?_
            exact im_iret C rfl rfl dX6_sameDistance_116
    · refine im_iconst C 25 dX6_sameDistance_24 rfl k_icm1 ?_
      exact im_iret C rfl rfl dX6_sameDistance_25
set_option maxRecDepth 100000 in
set_option maxHeartbeats 4000000 in
theorem c_X2_smallestFree {l : Launch} {G : va_G} {ad : Nat → Nat → Nat} {U : List (Nat × Nat)} {D : Dt} {b : Nat} {x1 : Int32} {x2 : Int32} (hU : Uinj ad U) (h0 : HoU U b) : MI l G ad U yX2_smallestFree cX2_smallestFree 5 .int (k2_rm 3 65) [.ref (ad 9 b), .int x1, .int x2] D ((f_X2_smallestFree b x1 x2 D).bind (fun r => some (r, D))) := by
  refine mI_of (lv := [(0, .ref (ad 9 b)), (1, .int x1), (2, .int x2)]) (by decide) hU rfl (Nat.le_of_ble_eq_true rfl) (fun A p e s m args below meth c C => ?_)
  have C : Cx G ad U A p s m meth c args cX2_smallestFree RX2 5 (some .int) := C
  unfold f_X2_smallestFree
  refine im_iload_n C 1 1 dX2_smallestFree_0 rfl rfl rfl ?_
  refine im_iload_n C 2 2 dX2_smallestFree_1 rfl rfl rfl ?_
  refine im_cSNP C 5 sk_X9_sizeOf gw_838 (c_X9_sizeOf (x0 := x2) hU) (rle rfl) rfl (st := [.int x1]) rfl (Nat.le_of_ble_eq_true rfl) dX2_smallestFree_2 rfl (fun o1 => ?_)
  refine im_iadd C 6 dX2_smallestFree_5 rfl ?_
  refine im_istore_n C 7 [(3, .int (x1 + o1)), (0, .ref (ad 9 b)), (1, .int x1), (2, .int x2)] dX2_smallestFree_6 rfl (by decide) rfl rfl ?_
  refine im_iload_n C 8 2 dX2_smallestFree_7 rfl rfl rfl ?_
  refine im_istore C 10 [(4, .int x1), (3, .int (x1 + o1)), (0, .ref (ad 9 b)), (1, .int x1), (2, .int x2)] dX2_smallestFree_8 (by decide) rfl rfl ?_
  refine im_sub [2, 3, 4, 1, 0] [(0, .ref (ad 9 b)), (1, .int x1), (2, .int x2), (3, .int (x1 + o1)), (4, .int x1)] rfl ?_
  refine im_lpI (l_X2_smallestFree_10 b x1 x2 D o1) (fun z10 => [(0, .ref (ad 9 b)), (1, .int x1), (2, .int x2), (3, .int (x1 + o1)), (4, .int z10)]) (fun z10 => D) (fun z10 X_z10 hX_z10 => ?_) FU x1
  unfold l_X2_smallestFree_10
  refine im_iload C 12 4 dX2_smallestFree_10 rfl rfl ?_
  refine im_iload_n C 13 3 dX2_smallestFree_12 rfl rfl rfl ?_
  refine im_ic_ge C 45 16 dX2_smallestFree_13 rfl rfl ?_ ?_
  · refine im_iconst C 46 dX2_smallestFree_45 rfl k_icm1 ?_
    exact im_iret C rfl rfl dX2_smallestFree_46
  · refine im_iload_n C 17 1 dX2_smallestFree_16 rfl rfl rfl ?_
    refine im_iload_n C 18 2 dX2_smallestFree_17 rfl rfl rfl ?_
    refine im_iload C 20 4 dX2_smallestFree_18 rfl rfl ?_
    refine im_cSNP C 23 sk_X9_canLease gw_732 (c_X9_canLease (x0 := x1) (x1 := x2) (x2 := z10) hU) (rle rfl) rfl (st := []) rfl (Nat.le_of_ble_eq_true rfl) dX2_smallestFree_20 rfl (fun o2 => ?_)
    refine im_if_eq C 39 26 dX2_smallestFree_23 rfl rfl ?_ ?_
    · refine im_iinc C 42 4 [(4, .int (z10 + (1 : Int32))), (0, .ref (ad 9 b)), (1, .int x1), (2, .int x2), (3, .int (x1 + o1))] dX2_smallestFree_39 rfl (k_inc1) (by decide) rfl rfl ?_
      refine im_goto C 10 dX2_smallestFree_42 rfl ?_
      exact im_sub [1, 2, 3, 4, 0] [(0, .ref (ad 9 b)), (1, .int x1), (2, .int x2), (3, .int (x1 + o1)), (4, .int (z10 + (1 : Int32)))] rfl (hX_z10 (z10 + (1 : Int32)))
    · refine im_aload_n C 27 0 dX2_smallestFree_26 rfl rfl rfl ?_
      refine im_iload C 29 4 dX2_smallestFree_27 rfl rfl ?_
      refine im_cVP C 32 vk_X2_holderOf gw_839 (c_X2_holderOf (b := b) (x1 := z10) hU h0) (h0 9 (by decide) (by decide)) rfl rfl (rle rfl) rfl (st := []) rfl (Nat.le_of_ble_eq_true rfl) dX2_smallestFree_29 rfl (fun o3 => ?_)
      refine im_iconst C 33 dX2_smallestFree_32 rfl k_icm1 ?_
      refine im_ic_ne C 39 36 dX2_smallestFree_33 rfl rfl ?_ ?_
      · refine im_iinc C 42 4 [(4, .int (z10 + (1 : Int32))), (0, .ref (ad 9 b)), (1, .int x1), (2, .int x2), (3, .int (x1 + o1))] dX2_smallestFree_39 rfl (k_inc1) (by decide) rfl rfl ?_
        refine im_goto C 10 dX2_smallestFree_42 rfl ?_
        exact im_sub [1, 2, 3, 4, 0] [(0, .ref (ad 9 b)), (1, .int x1), (2, .int x2), (3, .int (x1 + o1)), (4, .int (z10 + (1 : Int32)))] rfl (hX_z10 (z10 + (1 : Int32)))
      · refine im_iload C 38 4 dX2_smallestFree_36 rfl rfl ?_
        exact im_iret C rfl rfl dX2_smallestFree_38
set_option maxRecDepth 100000 in
set_option maxHeartbeats 4000000 in
theorem c_X6_addressFor {l : Launch} {G : va_G} {ad : Nat → Nat → Nat} {U : List (Nat × Nat)} {D : Dt} {b : Nat} {x1 : Int32} (hU : Uinj ad U) (h0 : StU U b) : MI l G ad U yX6_addressFor cX6_addressFor 4 .int (k2_rm 4 90) [.ref (ad 0 b), .int x1] D ((f_X6_addressFor b x1 D).bind (fun r => some (r, D))) := by
  refine mI_of (lv := [(0, .ref (ad 0 b)), (1, .int x1)]) (by decide) hU rfl (Nat.le_of_ble_eq_true rfl) (fun A p e s m args below meth c C => ?_)
  have C : Cx G ad U A p s m meth c args cX6_addressFor RX6 4 (some .int) := C
  unfold f_X6_addressFor
  refine im_aload_n C 1 0 dX6_addressFor_0 rfl rfl rfl ?_
  refine gl_X6_21 C 4 (h0.1 0 (by decide) (by decide)) dX6_addressFor_1 rfl ?_
  refine gl_X6_83 C 7 (h0.2.2 9 (by decide) (by decide)) dX6_addressFor_4 rfl ?_
  refine im_iload_n C 8 1 dX6_addressFor_7 rfl rfl rfl ?_
  refine im_rdi C 9 16 (h0.2.2 12 (by decide) (by decide)) rfl dX6_addressFor_8 rfl (fun v1 => ?_)
  refine im_iconst C 10 dX6_addressFor_9 rfl k_icm1 ?_
  refine im_ic_eq C 23 13 dX6_addressFor_10 rfl rfl ?_ ?_
  · refine im_aload_n C 24 0 dX6_addressFor_23 rfl rfl rfl ?_
    refine gl_X6_21 C 27 (h0.1 0 (by decide) (by decide)) dX6_addressFor_24 rfl ?_
    refine im_iload_n C 28 1 dX6_addressFor_27 rfl rfl rfl ?_
    refine im_cVP C 31 vk_X2_renewsOld gw_819 (c_X2_renewsOld (b := b) (x1 := x1) hU h0.2.2) (h0.2.2 9 (by decide) (by decide)) rfl rfl (rle rfl) rfl (st := []) rfl (Nat.le_of_ble_eq_true rfl) dX6_addressFor_28 rfl (fun o2 => ?_)
    refine im_if_eq C 44 34 dX6_addressFor_31 rfl rfl ?_ ?_
    · refine im_aload_n C 45 0 dX6_addressFor_44 rfl rfl rfl ?_
      refine gl_X6_21 C 48 (h0.1 0 (by decide) (by decide)) dX6_addressFor_45 rfl ?_
      refine gl_X6_92 C 51 (h0.2.2 9 (by decide) (by decide)) dX6_addressFor_48 rfl ?_
      refine im_iload_n C 52 1 dX6_addressFor_51 rfl rfl rfl ?_
      refine im_rdi C 53 16 (h0.2.2 10 (by decide) (by decide)) rfl dX6_addressFor_52 rfl (fun v3 => ?_)
      refine im_istore_n C 54 [(2, .int v3), (0, .ref (ad 0 b)), (1, .int x1)] dX6_addressFor_53 rfl (by decide) rfl rfl ?_
      refine im_aload_n C 55 1 dX6_addressFor_54 rfl rfl rfl ?_
      refine gl_X6_12 C 58 (h0.1 0 (by decide) (by decide)) dX6_addressFor_55 rfl ?_
      refine im_iload_n C 59 0 dX6_addressFor_58 rfl rfl rfl ?_
      refine im_cVP C 62 vk_X5_hasBlock gw_823 (c_X5_hasBlock (b := b) (x1 := v3) hU h0.2.1) (h0.2.1 1 (by decide) (by decide)) rfl rfl (rle rfl) rfl (st := []) rfl (Nat.le_of_ble_eq_true rfl) dX6_addressFor_59 rfl (fun o4 => ?_)
      refine im_if_ne C 67 65 dX6_addressFor_62 rfl rfl ?_ ?_
      · refine im_aload_n C 68 1 dX6_addressFor_67 rfl rfl rfl ?_
        refine im_iload_n C 69 2 dX6_addressFor_68 rfl rfl rfl ?_
        refine im_iload_n C 70 0 dX6_addressFor_69 rfl rfl rfl ?_
        refine im_cVP C 73 vk_X6_sameDistance gw_824 (c_X6_sameDistance (b := b) (x1 := x1) (x2 := v3) hU h0) (h0.1 0 (by decide) (by decide)) rfl rfl (rle rfl) rfl (st := []) rfl (Nat.le_of_ble_eq_true rfl) dX6_addressFor_70 rfl (fun o5 => ?_)
        refine im_istore_n C 74 [(3, .int o5), (2, .int v3), (0, .ref (ad 0 b)), (1, .int x1)] dX6_addressFor_73 rfl (by decide) rfl rfl ?_
        refine im_iload_n C 75 0 dX6_addressFor_74 rfl rfl rfl ?_
        refine im_iconst C 76 dX6_addressFor_75 rfl k_icm1 ?_
        refine im_ic_eq C 83 79 dX6_addressFor_76 rfl rfl ?_ ?_
        · refine im_aload_n C 84 2 dX6_addressFor_83 rfl rfl rfl ?_
          refine gl_X6_21 C 87 (h0.1 0 (by decide) (by decide)) dX6_addressFor_84 rfl ?_
          refine im_aload_n C 88 2 dX6_addressFor_87 rfl rfl rfl ?_
          refine gl_X6_12 C 91 (h0.1 0 (by decide) (by decide)) dX6_addressFor_88 rfl ?_
          refine gl_X6_102 C 94 (h0.2.1 1 (by decide) (by decide)) dX6_addressFor_91 rfl ?_
          refine im_iload_n C 95 1 dX6_addressFor_94 rfl rfl rfl ?_
          refine im_rdi C 96 12 (h0.2.1 4 (by decide) (by decide)) rfl dX6_addressFor_95 rfl (fun v6 => ?_)
          refine im_aload_n C 97 2 dX6_addressFor_96 rfl rfl rfl ?_
          refine gl_X6_12 C 100 (h0.1 0 (by decide) (by decide)) dX6_addressFor_97 rfl ?_
          refine gl_X6_105 C 103 (h0.2.1 1 (by decide) (by decide)) dX6_addressFor_100 rfl ?_
          refine im_iload_n C 104 1 dX6_addressFor_103 rfl rfl rfl ?_
          refine im_rdi C 105 12 (h0.2.1 5 (by decide) (by decide)) rfl dX6_addressFor_104 rfl (fun v7 => ?_)
          refine im_cVP C 108 vk_X2_smallestFree gw_834 (c_X2_smallestFree (b := b) (x1 := v6) (x2 := v7) hU h0.2.2) (h0.2.2 9 (by decide) (by decide)) rfl rfl (rle rfl) rfl (st := []) rfl (Nat.le_of_ble_eq_true rfl) dX6_addressFor_105 rfl (fun o8 => ?_)
          exact im_iret C rfl rfl dX6_addressFor_108
        · refine im_iload_n C 80 0 dX6_addressFor_79 rfl rfl rfl ?_
          refine im_goto C 108 dX6_addressFor_80 rfl ?_
          exact im_iret C rfl rfl dX6_addressFor_108
      · refine im_iconst C 66 dX6_addressFor_65 rfl k_icm1 ?_
        exact im_iret C rfl rfl dX6_addressFor_66
    · refine im_aload_n C 35 0 dX6_addressFor_34 rfl rfl rfl ?_
      refine gl_X6_21 C 38 (h0.1 0 (by decide) (by decide)) dX6_addressFor_35 rfl ?_
      refine gl_X6_89 C 41 (h0.2.2 9 (by decide) (by decide)) dX6_addressFor_38 rfl ?_
      refine im_iload_n C 42 1 dX6_addressFor_41 rfl rfl rfl ?_
      refine im_rdi C 43 16 (h0.2.2 14 (by decide) (by decide)) rfl dX6_addressFor_42 rfl (fun v9 => ?_)
      exact im_iret C rfl rfl dX6_addressFor_43
  · refine im_aload_n C 14 0 dX6_addressFor_13 rfl rfl rfl ?_
    refine gl_X6_21 C 17 (h0.1 0 (by decide) (by decide)) dX6_addressFor_14 rfl ?_
    refine gl_X6_83 C 20 (h0.2.2 9 (by decide) (by decide)) dX6_addressFor_17 rfl ?_
    refine im_iload_n C 21 1 dX6_addressFor_20 rfl rfl rfl ?_
    refine im_rdi C 22 16 (h0.2.2 12 (by decide) (by decide)) rfl dX6_addressFor_21 rfl (fun v10 => ?_)
    exact im_iret C rfl rfl dX6_addressFor_22
set_option maxRecDepth 100000 in
set_option maxHeartbeats 4000000 in
theorem c_X6_grant {l : Launch} {G : va_G} {ad : Nat → Nat → Nat} {U : List (Nat × Nat)} {D : Dt} {b : Nat} {x1 : Int32} {x2 : Int32} (hU : Uinj ad U) (h0 : StU U b) : MV l G ad U yX6_grant cX6_grant 5 (k2_rm 2 41) [.ref (ad 0 b), .int x1, .int x2] D (f_X6_grant b x1 x2 D) := by
  refine mV_of0 (lv := [(0, .ref (ad 0 b)), (1, .int x1), (2, .int x2)]) (by decide) hU rfl (Nat.le_of_ble_eq_true rfl) (fun A p e s m args below meth c C => ?_)
  have C : Cx G ad U A p s m meth c args cX6_grant RX6 5 none := C
  unfold f_X6_grant
  refine im_aload_n C 1 0 dX6_grant_0 rfl rfl rfl ?_
  refine gl_X6_30 C 4 (h0.1 0 (by decide) (by decide)) dX6_grant_1 rfl ?_
  refine im_aload_n C 5 0 dX6_grant_4 rfl rfl rfl ?_
  refine gl_X6_34 C 8 (h0.1 0 (by decide) (by decide)) dX6_grant_5 rfl ?_
  refine im_iadd C 9 dX6_grant_8 rfl ?_
  refine im_istore_n C 10 [(3, .int ((D 0 b 2) + (D 0 b 3))), (0, .ref (ad 0 b)), (1, .int x1), (2, .int x2)] dX6_grant_9 rfl (by decide) rfl rfl ?_
  refine im_aload_n C 11 1 dX6_grant_10 rfl rfl rfl ?_
  refine gl_X6_21 C 14 (h0.1 0 (by decide) (by decide)) dX6_grant_11 rfl ?_
  refine gl_X6_92 C 17 (h0.2.2 9 (by decide) (by decide)) dX6_grant_14 rfl ?_
  refine im_iload_n C 18 2 dX6_grant_17 rfl rfl rfl ?_
  refine im_rdi C 19 16 (h0.2.2 10 (by decide) (by decide)) rfl dX6_grant_18 rfl (fun v1 => ?_)
  refine im_istore C 21 [(4, .int v1), (3, .int ((D 0 b 2) + (D 0 b 3))), (0, .ref (ad 0 b)), (1, .int x1), (2, .int x2)] dX6_grant_19 (by decide) rfl rfl ?_
  refine im_aload_n C 22 2 dX6_grant_21 rfl rfl rfl ?_
  refine gl_X6_21 C 25 (h0.1 0 (by decide) (by decide)) dX6_grant_22 rfl ?_
  refine im_iload_n C 26 3 dX6_grant_25 rfl rfl rfl ?_
  refine im_cVP C 29 vk_X2_renewsOld gw_819 (c_X2_renewsOld (b := b) (x1 := x1) hU h0.2.2) (h0.2.2 9 (by decide) (by decide)) rfl rfl (rle rfl) rfl (st := []) rfl (Nat.le_of_ble_eq_true rfl) dX6_grant_26 rfl (fun o2 => ?_)
  refine im_if_eq C 70 32 dX6_grant_29 rfl rfl ?_ ?_
  · refine im_aload_n C 71 2 dX6_grant_70 rfl rfl rfl ?_
    refine gl_X6_21 C 74 (h0.1 0 (by decide) (by decide)) dX6_grant_71 rfl ?_
    refine gl_X6_83 C 77 (h0.2.2 9 (by decide) (by decide)) dX6_grant_74 rfl ?_
    refine im_iload_n C 78 3 dX6_grant_77 rfl rfl rfl ?_
    refine im_iload_n C 79 4 dX6_grant_78 rfl rfl rfl ?_
    refine im_wri C 80 16 (h0.2.2 12 (by decide) (by decide)) (fun _ => rfl) dX6_grant_79 rfl (fun D3 => ?_)
    refine im_aload_n C 81 2 dX6_grant_80 rfl rfl rfl ?_
    refine gl_X6_21 C 84 (h0.1 0 (by decide) (by decide)) dX6_grant_81 rfl ?_
    refine gl_X6_129 C 87 (h0.2.2 9 (by decide) (by decide)) dX6_grant_84 rfl ?_
    refine im_iload_n C 88 3 dX6_grant_87 rfl rfl rfl ?_
    refine im_iload_n C 89 1 dX6_grant_88 rfl rfl rfl ?_
    refine im_wri C 90 16 (h0.2.2 13 (by decide) (by decide)) (fun _ => rfl) dX6_grant_89 rfl (fun D4 => ?_)
    exact im_vret C rfl dX6_grant_90
  · refine im_aload_n C 33 2 dX6_grant_32 rfl rfl rfl ?_
    refine gl_X6_12 C 36 (h0.1 0 (by decide) (by decide)) dX6_grant_33 rfl ?_
    refine im_iload C 38 0 dX6_grant_36 rfl rfl ?_
    refine im_cVP C 41 vk_X5_hasOld gw_828 (c_X5_hasOld (b := b) (x1 := v1) hU h0.2.1) (h0.2.1 1 (by decide) (by decide)) rfl rfl (rle rfl) rfl (st := []) rfl (Nat.le_of_ble_eq_true rfl) dX6_grant_38 rfl (fun o5 => ?_)
    refine im_if_eq C 70 44 dX6_grant_41 rfl rfl ?_ ?_
    · refine im_aload_n C 71 2 dX6_grant_70 rfl rfl rfl ?_
      refine gl_X6_21 C 74 (h0.1 0 (by decide) (by decide)) dX6_grant_71 rfl ?_
      refine gl_X6_83 C 77 (h0.2.2 9 (by decide) (by decide)) dX6_grant_74 rfl ?_
      refine im_iload_n C 78 3 dX6_grant_77 rfl rfl rfl ?_
      refine im_iload_n C 79 4 dX6_grant_78 rfl rfl rfl ?_
      refine im_wri C 80 16 (h0.2.2 12 (by decide) (by decide)) (fun _ => rfl) dX6_grant_79 rfl (fun D6 => ?_)
      refine im_aload_n C 81 2 dX6_grant_80 rfl rfl rfl ?_
      refine gl_X6_21 C 84 (h0.1 0 (by decide) (by decide)) dX6_grant_81 rfl ?_
      refine gl_X6_129 C 87 (h0.2.2 9 (by decide) (by decide)) dX6_grant_84 rfl ?_
      refine im_iload_n C 88 3 dX6_grant_87 rfl rfl rfl ?_
      refine im_iload_n C 89 1 dX6_grant_88 rfl rfl rfl ?_
      refine im_wri C 90 16 (h0.2.2 13 (by decide) (by decide)) (fun _ => rfl) dX6_grant_89 rfl (fun D7 => ?_)
      exact im_vret C rfl dX6_grant_90
    · refine im_aload_n C 45 2 dX6_grant_44 rfl rfl rfl ?_
      refine gl_X6_21 C 48 (h0.1 0 (by decide) (by decide)) dX6_grant_45 rfl ?_
      refine gl_X6_121 C 51 (h0.2.2 9 (by decide) (by decide)) dX6_grant_48 rfl ?_
      refine im_iload_n C 52 3 dX6_grant_51 rfl rfl rfl ?_
      refine im_iload_n C 53 1 dX6_grant_52 rfl rfl rfl ?_
      refine im_aload_n C 54 2 dX6_grant_53 rfl rfl rfl ?_
      refine gl_X6_12 C 57 (h0.1 0 (by decide) (by decide)) dX6_grant_54 rfl ?_
      refine gl_X6_79 C 60 (h0.2.1 1 (by decide) (by decide)) dX6_grant_57 rfl ?_
      refine im_iload C 62 0 dX6_grant_60 rfl rfl ?_
      refine im_rdi C 63 12 (h0.2.1 8 (by decide) (by decide)) rfl dX6_grant_62 rfl (fun v8 => ?_)
      refine im_mmin C 66 gw_844 dX6_grant_63 rfl ⟨Nat.le_of_ble_eq_true rfl, Nat.le_of_ble_eq_true rfl⟩ ?_
      refine im_wri C 67 16 (h0.2.2 15 (by decide) (by decide)) (fun _ => rfl) dX6_grant_66 rfl (fun D9 => ?_)
      refine im_goto C 90 dX6_grant_67 rfl ?_
      exact im_vret C rfl dX6_grant_90
set_option maxRecDepth 100000 in
set_option maxHeartbeats 4000000 in
theorem c_X2_property {l : Launch} {G : va_G} {ad : Nat → Nat → Nat} {U : List (Nat × Nat)} {D : Dt} {b : Nat} {x1 : Int32} {x2 : Int32} (hU : Uinj ad U) (h0 : HoU U b) : MI l G ad U yX2_property cX2_property 3 .int (k2_rm 0 0) [.ref (ad 9 b), .int x1, .int x2] D ((f_X2_property b x1 x2 D).bind (fun r => some (r, D))) := by
  refine mI_of (lv := [(0, .ref (ad 9 b)), (1, .int x1), (2, .int x2)]) (by decide) hU rfl (Nat.le_of_ble_eq_true rfl) (fun A p e s m args below meth c C => ?_)
  have C : Cx G ad U A p s m meth c args cX2_property RX2 3 (some .int) := C
  unfold f_X2_property
  refine im_iload_n C 1 2 dX2_property_0 rfl rfl rfl ?_
  refine im_ite (fun s1_0 => ?_) (fun s1_0 => ?_)
  · refine im_tabIn C 36 (y := (0 : Int32)) s1_0 dX2_property_1 (by decide) (by decide) rfl rfl ?_
    refine im_aload_n C 37 0 dX2_property_36 rfl rfl rfl ?_
    refine gl_X2_9 C 40 (h0 9 (by decide) (by decide)) dX2_property_37 rfl ?_
    refine im_iload_n C 41 1 dX2_property_40 rfl rfl rfl ?_
    refine im_rdi C 42 16 (h0 10 (by decide) (by decide)) rfl dX2_property_41 rfl (fun v1 => ?_)
    exact im_iret C rfl rfl dX2_property_42
  · refine im_ite (fun s1_1 => ?_) (fun s1_1 => ?_)
    · refine im_tabIn C 43 (y := (1 : Int32)) s1_1 dX2_property_1 (by decide) (by decide) rfl rfl ?_
      refine im_aload_n C 44 0 dX2_property_43 rfl rfl rfl ?_
      refine gl_X2_15 C 47 (h0 9 (by decide) (by decide)) dX2_property_44 rfl ?_
      refine im_iload_n C 48 1 dX2_property_47 rfl rfl rfl ?_
      refine im_rdi C 49 16 (h0 11 (by decide) (by decide)) rfl dX2_property_48 rfl (fun v2 => ?_)
      exact im_iret C rfl rfl dX2_property_49
    · refine im_ite (fun s1_2 => ?_) (fun s1_2 => ?_)
      · refine im_tabIn C 50 (y := (2 : Int32)) s1_2 dX2_property_1 (by decide) (by decide) rfl rfl ?_
        refine im_aload_n C 51 0 dX2_property_50 rfl rfl rfl ?_
        refine gl_X2_18 C 54 (h0 9 (by decide) (by decide)) dX2_property_51 rfl ?_
        refine im_iload_n C 55 1 dX2_property_54 rfl rfl rfl ?_
        refine im_rdi C 56 16 (h0 12 (by decide) (by decide)) rfl dX2_property_55 rfl (fun v3 => ?_)
        exact im_iret C rfl rfl dX2_property_56
      · refine im_ite (fun s1_3 => ?_) (fun s1_3 => ?_)
        · refine im_tabIn C 57 (y := (3 : Int32)) s1_3 dX2_property_1 (by decide) (by decide) rfl rfl ?_
          refine im_aload_n C 58 0 dX2_property_57 rfl rfl rfl ?_
          refine gl_X2_18 C 61 (h0 9 (by decide) (by decide)) dX2_property_58 rfl ?_
          refine im_iload_n C 62 1 dX2_property_61 rfl rfl rfl ?_
          refine im_rdi C 63 16 (h0 12 (by decide) (by decide)) rfl dX2_property_62 rfl (fun v4 => ?_)
          refine im_iconst C 64 dX2_property_63 rfl k_icm1 ?_
          refine im_ic_ne C 71 67 dX2_property_64 rfl rfl ?_ ?_
          · refine im_aload_n C 72 0 dX2_property_71 rfl rfl rfl ?_
            refine gl_X2_21 C 75 (h0 9 (by decide) (by decide)) dX2_property_72 rfl ?_
            refine im_iload_n C 76 1 dX2_property_75 rfl rfl rfl ?_
            refine im_rdi C 77 16 (h0 13 (by decide) (by decide)) rfl dX2_property_76 rfl (fun v5 => ?_)
            exact im_iret C rfl rfl dX2_property_77
          · refine im_iconst C 68 dX2_property_67 rfl k_icm1 ?_
            refine im_goto C 77 dX2_property_68 rfl ?_
            exact im_iret C rfl rfl dX2_property_77
        · refine im_ite (fun s1_4 => ?_) (fun s1_4 => ?_)
          · refine im_tabIn C 78 (y := (4 : Int32)) s1_4 dX2_property_1 (by decide) (by decide) rfl rfl ?_
            refine im_aload_n C 79 0 dX2_property_78 rfl rfl rfl ?_
            refine gl_X2_24 C 82 (h0 9 (by decide) (by decide)) dX2_property_79 rfl ?_
            refine im_iload_n C 83 1 dX2_property_82 rfl rfl rfl ?_
            refine im_rdi C 84 16 (h0 14 (by decide) (by decide)) rfl dX2_property_83 rfl (fun v6 => ?_)
            exact im_iret C rfl rfl dX2_property_84
          · refine im_tabOut C 85 dX2_property_1 (by have a0 := nz s1_0 (n := 0) (by decide); have a1 := nz s1_1 (n := 1) (by decide); have a2 := nz s1_2 (n := 2) (by decide); have a3 := nz s1_3 (n := 3) (by decide); have a4 := nz s1_4 (n := 4) (by decide); omega) rfl ?_
            refine im_aload_n C 86 0 dX2_property_85 rfl rfl rfl ?_
            refine gl_X2_24 C 89 (h0 9 (by decide) (by decide)) dX2_property_86 rfl ?_
            refine im_iload_n C 90 1 dX2_property_89 rfl rfl rfl ?_
            refine im_rdi C 91 16 (h0 14 (by decide) (by decide)) rfl dX2_property_90 rfl (fun v7 => ?_)
            refine im_iconst C 92 dX2_property_91 rfl k_icm1 ?_
            refine im_ic_ne C 99 95 dX2_property_92 rfl rfl ?_ ?_
            · refine im_aload_n C 100 0 dX2_property_99 rfl rfl rfl ?_
              refine gl_X2_27 C 103 (h0 9 (by decide) (by decide)) dX2_property_100 rfl ?_
              refine im_iload_n C 104 1 dX2_property_103 rfl rfl rfl ?_
              refine im_rdi C 105 16 (h0 15 (by decide) (by decide)) rfl dX2_property_104 rfl (fun v8 => ?_)
              exact im_iret C rfl rfl dX2_property_105
            · refine im_iconst C 96 dX2_property_95 rfl k_icm1 ?_
              refine im_goto C 105 dX2_property_96 rfl ?_
              exact im_iret C rfl rfl dX2_property_105
set_option maxRecDepth 100000 in
set_option maxHeartbeats 4000000 in
theorem c_X2_dropEnded {l : Launch} {G : va_G} {ad : Nat → Nat → Nat} {U : List (Nat × Nat)} {D : Dt} {b : Nat} {x1 : Int32} (hU : Uinj ad U) (h0 : HoU U b) : MI l G ad U yX2_dropEnded cX2_dropEnded 4 .int (k2_rm 0 0) [.ref (ad 9 b), .int x1] D (f_X2_dropEnded b x1 D) := by
  refine mI_of0 (lv := [(0, .ref (ad 9 b)), (1, .int x1)]) (by decide) hU rfl (Nat.le_of_ble_eq_true rfl) (fun A p e s m args below meth c C => ?_)
  have C : Cx G ad U A p s m meth c args cX2_dropEnded RX2 4 (some .int) := C
  unfold f_X2_dropEnded
  refine im_iconst C 1 dX2_dropEnded_0 rfl k_ic0 ?_
  refine im_istore_n C 2 [(2, .int (0 : Int32)), (0, .ref (ad 9 b)), (1, .int x1)] dX2_dropEnded_1 rfl (by decide) rfl rfl ?_
  refine im_iconst C 3 dX2_dropEnded_2 rfl k_ic0 ?_
  refine im_istore_n C 4 [(3, .int (0 : Int32)), (2, .int (0 : Int32)), (0, .ref (ad 9 b)), (1, .int x1)] dX2_dropEnded_3 rfl (by decide) rfl rfl ?_
  refine im_sub [2, 3, 1, 0] [(0, .ref (ad 9 b)), (1, .int x1), (2, .int (0 : Int32)), (3, .int (0 : Int32))] rfl ?_
  refine im_lpB (l_X2_dropEnded_4 b x1) (fun z4 => [(0, .ref (ad 9 b)), (1, .int x1), (2, .int z4.1), (3, .int z4.2.1)]) (fun z4 => z4.2.2) 76 (fun e1 => [(2, .int e1.1)]) (fun e1 => e1.2) (fun e1 => ?_) (fun z4 X_z4 hX_z4 hE_z4 => ?_) FU ((0 : Int32), (0 : Int32), D)
  · refine im_iload_n C 77 0 dX2_dropEnded_76 rfl rfl rfl ?_
    exact im_iret C rfl rfl dX2_dropEnded_77
  · unfold l_X2_dropEnded_4
    refine im_iload_n C 5 3 dX2_dropEnded_4 rfl rfl rfl ?_
    refine im_bipush C 7 dX2_dropEnded_5 rfl k_bp16 ?_
    refine im_ic_ge C 76 10 dX2_dropEnded_7 rfl rfl ?_ ?_
    · exact im_sub [2] [(2, .int z4.1)] rfl (hE_z4 (z4.1, z4.2.2))
    · refine im_aload_n C 11 0 dX2_dropEnded_10 rfl rfl rfl ?_
      refine gl_X2_18 C 14 (h0 9 (by decide) (by decide)) dX2_dropEnded_11 rfl ?_
      refine im_iload_n C 15 3 dX2_dropEnded_14 rfl rfl rfl ?_
      refine im_rdi C 16 16 (h0 12 (by decide) (by decide)) rfl dX2_dropEnded_15 rfl (fun v2 => ?_)
      refine im_iconst C 17 dX2_dropEnded_16 rfl k_icm1 ?_
      refine im_jn 40 (fun t3 => [(0, .ref (ad 9 b)), (1, .int x1), (2, .int t3.1), (3, .int z4.2.1)]) (fun t3 => []) (fun t3 => t3.2) (fun t3 => j_X2_dropEnded_40_t3 b x1 z4 t3) (fun t3 => ?_) (fun ht3 => ?_)
      · unfold j_X2_dropEnded_40_t3
        refine im_aload_n C 41 0 dX2_dropEnded_40 rfl rfl rfl ?_
        refine gl_X2_24 C 44 (h0 9 (by decide) (by decide)) dX2_dropEnded_41 rfl ?_
        refine im_iload_n C 45 3 dX2_dropEnded_44 rfl rfl rfl ?_
        refine im_rdi C 46 16 (h0 14 (by decide) (by decide)) rfl dX2_dropEnded_45 rfl (fun v4 => ?_)
        refine im_iconst C 47 dX2_dropEnded_46 rfl k_icm1 ?_
        refine im_ic_eq C 70 50 dX2_dropEnded_47 rfl rfl ?_ ?_
        · refine im_iinc C 73 3 [(3, .int (z4.2.1 + (1 : Int32))), (0, .ref (ad 9 b)), (1, .int x1), (2, .int t3.1)] dX2_dropEnded_70 rfl (k_inc1) (by decide) rfl rfl ?_
          refine im_goto C 4 dX2_dropEnded_73 rfl ?_
          exact im_sub [1, 2, 3, 0] [(0, .ref (ad 9 b)), (1, .int x1), (2, .int t3.1), (3, .int (z4.2.1 + (1 : Int32)))] rfl (hX_z4 (t3.1, z4.2.1 + (1 : Int32), t3.2))
        · refine im_aload_n C 51 0 dX2_dropEnded_50 rfl rfl rfl ?_
          refine gl_X2_27 C 54 (h0 9 (by decide) (by decide)) dX2_dropEnded_51 rfl ?_
          refine im_iload_n C 55 3 dX2_dropEnded_54 rfl rfl rfl ?_
          refine im_rdi C 56 16 (h0 15 (by decide) (by decide)) rfl dX2_dropEnded_55 rfl (fun v5 => ?_)
          refine im_iload_n C 57 1 dX2_dropEnded_56 rfl rfl rfl ?_
          refine im_ic_gt C 70 60 dX2_dropEnded_57 rfl rfl ?_ ?_
          · refine im_iinc C 73 3 [(3, .int (z4.2.1 + (1 : Int32))), (0, .ref (ad 9 b)), (1, .int x1), (2, .int t3.1)] dX2_dropEnded_70 rfl (k_inc1) (by decide) rfl rfl ?_
            refine im_goto C 4 dX2_dropEnded_73 rfl ?_
            exact im_sub [1, 2, 3, 0] [(0, .ref (ad 9 b)), (1, .int x1), (2, .int t3.1), (3, .int (z4.2.1 + (1 : Int32)))] rfl (hX_z4 (t3.1, z4.2.1 + (1 : Int32), t3.2))
          · refine im_aload_n C 61 0 dX2_dropEnded_60 rfl rfl rfl ?_
            refine gl_X2_24 C 64 (h0 9 (by decide) (by decide)) dX2_dropEnded_61 rfl ?_
            refine im_iload_n C 65 3 dX2_dropEnded_64 rfl rfl rfl ?_
            refine im_iconst C 66 dX2_dropEnded_65 rfl k_icm1 ?_
            refine im_wri C 67 16 (h0 14 (by decide) (by decide)) (fun _ => rfl) dX2_dropEnded_66 rfl (fun D6 => ?_)
            refine im_iinc C 70 2 [(2, .int (t3.1 + (1 : Int32))), (0, .ref (ad 9 b)), (1, .int x1), (3, .int z4.2.1)] dX2_dropEnded_67 rfl (k_inc1) (by decide) rfl rfl ?_
            refine im_iinc C 73 3 [(3, .int (z4.2.1 + (1 : Int32))), (2, .int (t3.1 + (1 : Int32))), (0, .ref (ad 9 b)), (1, .int x1)] dX2_dropEnded_70 rfl (k_inc1) (by decide) rfl rfl ?_
            refine im_goto C 4 dX2_dropEnded_73 rfl ?_
            exact im_sub [2, 3, 1, 0] [(0, .ref (ad 9 b)), (1, .int x1), (2, .int (t3.1 + (1 : Int32))), (3, .int (z4.2.1 + (1 : Int32)))] rfl (hX_z4 (t3.1 + (1 : Int32), z4.2.1 + (1 : Int32), D6))
      · refine im_ic_eq C 40 20 dX2_dropEnded_17 rfl rfl ?_ ?_
        · exact ht3 (z4.1, z4.2.2)
        · refine im_aload_n C 21 0 dX2_dropEnded_20 rfl rfl rfl ?_
          refine gl_X2_21 C 24 (h0 9 (by decide) (by decide)) dX2_dropEnded_21 rfl ?_
          refine im_iload_n C 25 3 dX2_dropEnded_24 rfl rfl rfl ?_
          refine im_rdi C 26 16 (h0 13 (by decide) (by decide)) rfl dX2_dropEnded_25 rfl (fun v7 => ?_)
          refine im_iload_n C 27 1 dX2_dropEnded_26 rfl rfl rfl ?_
          refine im_ic_gt C 40 30 dX2_dropEnded_27 rfl rfl ?_ ?_
          · exact ht3 (z4.1, z4.2.2)
          · refine im_aload_n C 31 0 dX2_dropEnded_30 rfl rfl rfl ?_
            refine gl_X2_18 C 34 (h0 9 (by decide) (by decide)) dX2_dropEnded_31 rfl ?_
            refine im_iload_n C 35 3 dX2_dropEnded_34 rfl rfl rfl ?_
            refine im_iconst C 36 dX2_dropEnded_35 rfl k_icm1 ?_
            refine im_wri C 37 16 (h0 12 (by decide) (by decide)) (fun _ => rfl) dX2_dropEnded_36 rfl (fun D8 => ?_)
            refine im_iinc C 40 2 [(2, .int (z4.1 + (1 : Int32))), (0, .ref (ad 9 b)), (1, .int x1), (3, .int z4.2.1)] dX2_dropEnded_37 rfl (k_inc1) (by decide) rfl rfl ?_
            exact im_sub [1, 2, 0, 3] [(0, .ref (ad 9 b)), (1, .int x1), (2, .int (z4.1 + (1 : Int32))), (3, .int z4.2.1)] rfl (ht3 (z4.1 + (1 : Int32), D8))
set_option maxRecDepth 100000 in
set_option maxHeartbeats 4000000 in
theorem c_X6_advance {l : Launch} {G : va_G} {ad : Nat → Nat → Nat} {U : List (Nat × Nat)} {D : Dt} {b : Nat} {x1 : Int32} (hU : Uinj ad U) (h0 : StU U b) : MI l G ad U yX6_advance cX6_advance 4 .int (k2_rm 2 45) [.ref (ad 0 b), .int x1] D (f_X6_advance b x1 D) := by
  refine mI_of0 (lv := [(0, .ref (ad 0 b)), (1, .int x1)]) (by decide) hU rfl (Nat.le_of_ble_eq_true rfl) (fun A p e s m args below meth c C => ?_)
  have C : Cx G ad U A p s m meth c args cX6_advance RX6 4 (some .int) := C
  unfold f_X6_advance
  refine im_aload_n C 1 0 dX6_advance_0 rfl rfl rfl ?_
  refine im_dup C 2 dX6_advance_1 rfl rfl ?_
  refine gl_X6_30 C 5 (h0.1 0 (by decide) (by decide)) dX6_advance_2 rfl ?_
  refine im_iload_n C 6 1 dX6_advance_5 rfl rfl rfl ?_
  refine im_iadd C 7 dX6_advance_6 rfl ?_
  refine pl_X6_30 C 10 (h0.1 0 (by decide) (by decide)) dX6_advance_7 rfl (fun D1 => ?_)
  refine im_aload_n C 11 0 dX6_advance_10 rfl rfl rfl ?_
  refine gl_X6_21 C 14 (h0.1 0 (by decide) (by decide)) dX6_advance_11 rfl ?_
  refine im_aload_n C 15 0 dX6_advance_14 rfl rfl rfl ?_
  refine gl_X6_30 C 18 (h0.1 0 (by decide) (by decide)) dX6_advance_15 rfl ?_
  refine im_cVI C 21 vk_X2_dropEnded gw_866 (c_X2_dropEnded (b := b) (x1 := D1 0 b 2) hU h0.2.2) (h0.2.2 9 (by decide) (by decide)) rfl rfl (rle rfl) rfl (st := []) rfl (Nat.le_of_ble_eq_true rfl) dX6_advance_18 rfl (fun o2 => ?_)
  refine im_istore_n C 22 [(2, .int o2.1), (0, .ref (ad 0 b)), (1, .int x1)] dX6_advance_21 rfl (by decide) rfl rfl ?_
  refine im_iconst C 23 dX6_advance_22 rfl k_ic0 ?_
  refine im_istore_n C 24 [(3, .int (0 : Int32)), (2, .int o2.1), (0, .ref (ad 0 b)), (1, .int x1)] dX6_advance_23 rfl (by decide) rfl rfl ?_
  refine im_sub [2, 1, 0] [(0, .ref (ad 0 b)), (2, .int o2.1), (3, .int (0 : Int32))] rfl ?_
  refine im_lpB (l_X6_advance_24 b) (fun z24 => [(0, .ref (ad 0 b)), (2, .int z24.1), (3, .int z24.2.1)]) (fun z24 => z24.2.2) 71 (fun e3 => [(2, .int e3.1)]) (fun e3 => e3.2) (fun e3 => ?_) (fun z24 X_z24 hX_z24 hE_z24 => ?_) FU (o2.1, (0 : Int32), o2.2)
  · refine im_iload_n C 72 0 dX6_advance_71 rfl rfl rfl ?_
    exact im_iret C rfl rfl dX6_advance_72
  · unfold l_X6_advance_24
    refine im_iload_n C 25 2 dX6_advance_24 rfl rfl rfl ?_
    refine im_bipush C 27 dX6_advance_25 rfl k_bp12 ?_
    refine im_ic_ge C 71 30 dX6_advance_27 rfl rfl ?_ ?_
    · exact im_sub [1] [(2, .int z24.1)] rfl (hE_z24 (z24.1, z24.2.2))
    · refine im_aload_n C 31 0 dX6_advance_30 rfl rfl rfl ?_
      refine gl_X6_12 C 34 (h0.1 0 (by decide) (by decide)) dX6_advance_31 rfl ?_
      refine im_iload_n C 35 2 dX6_advance_34 rfl rfl rfl ?_
      refine im_cVP C 38 vk_X5_hasOld gw_828 (c_X5_hasOld (b := b) (x1 := z24.2.1) hU h0.2.1) (h0.2.1 1 (by decide) (by decide)) rfl rfl (rle rfl) rfl (st := []) rfl (Nat.le_of_ble_eq_true rfl) dX6_advance_35 rfl (fun o4 => ?_)
      refine im_if_eq C 65 41 dX6_advance_38 rfl rfl ?_ ?_
      · refine im_iinc C 68 2 [(3, .int (z24.2.1 + (1 : Int32))), (0, .ref (ad 0 b)), (2, .int z24.1)] dX6_advance_65 rfl (k_inc1) (by decide) rfl rfl ?_
        refine im_goto C 24 dX6_advance_68 rfl ?_
        exact im_sub [1, 2, 0] [(0, .ref (ad 0 b)), (2, .int z24.1), (3, .int (z24.2.1 + (1 : Int32)))] rfl (hX_z24 (z24.1, z24.2.1 + (1 : Int32), z24.2.2))
      · refine im_aload_n C 42 0 dX6_advance_41 rfl rfl rfl ?_
        refine gl_X6_12 C 45 (h0.1 0 (by decide) (by decide)) dX6_advance_42 rfl ?_
        refine gl_X6_79 C 48 (h0.2.1 1 (by decide) (by decide)) dX6_advance_45 rfl ?_
        refine im_iload_n C 49 2 dX6_advance_48 rfl rfl rfl ?_
        refine im_rdi C 50 12 (h0.2.1 8 (by decide) (by decide)) rfl dX6_advance_49 rfl (fun v5 => ?_)
        refine im_aload_n C 51 0 dX6_advance_50 rfl rfl rfl ?_
        refine gl_X6_30 C 54 (h0.1 0 (by decide) (by decide)) dX6_advance_51 rfl ?_
        refine im_ic_gt C 65 57 dX6_advance_54 rfl rfl ?_ ?_
        · refine im_iinc C 68 2 [(3, .int (z24.2.1 + (1 : Int32))), (0, .ref (ad 0 b)), (2, .int z24.1)] dX6_advance_65 rfl (k_inc1) (by decide) rfl rfl ?_
          refine im_goto C 24 dX6_advance_68 rfl ?_
          exact im_sub [1, 2, 0] [(0, .ref (ad 0 b)), (2, .int z24.1), (3, .int (z24.2.1 + (1 : Int32)))] rfl (hX_z24 (z24.1, z24.2.1 + (1 : Int32), z24.2.2))
        · refine im_iload_n C 58 1 dX6_advance_57 rfl rfl rfl ?_
          refine im_aload_n C 59 0 dX6_advance_58 rfl rfl rfl ?_
          refine im_iload_n C 60 2 dX6_advance_59 rfl rfl rfl ?_
          refine im_cVI C 63 vk_X6_giveUpOld gw_756 (c_X6_giveUpOld (b := b) (x1 := z24.2.1) hU h0) (h0.1 0 (by decide) (by decide)) rfl rfl (rle rfl) rfl (st := [.int z24.1]) rfl (Nat.le_of_ble_eq_true rfl) dX6_advance_60 rfl (fun o6 => ?_)
          refine im_iadd C 64 dX6_advance_63 rfl ?_
          refine im_istore_n C 65 [(2, .int (z24.1 + o6.1)), (0, .ref (ad 0 b)), (3, .int z24.2.1)] dX6_advance_64 rfl (by decide) rfl rfl ?_
          refine im_iinc C 68 2 [(3, .int (z24.2.1 + (1 : Int32))), (2, .int (z24.1 + o6.1)), (0, .ref (ad 0 b))] dX6_advance_65 rfl (k_inc1) (by decide) rfl rfl ?_
          refine im_goto C 24 dX6_advance_68 rfl ?_
          exact im_sub [2, 1, 0] [(0, .ref (ad 0 b)), (2, .int (z24.1 + o6.1)), (3, .int (z24.2.1 + (1 : Int32)))] rfl (hX_z24 (z24.1 + o6.1, z24.2.1 + (1 : Int32), o6.2))
set_option maxRecDepth 100000 in
set_option maxHeartbeats 4000000 in
theorem c_X2_firstEnd {l : Launch} {G : va_G} {ad : Nat → Nat → Nat} {U : List (Nat × Nat)} {D : Dt} {b : Nat} (hU : Uinj ad U) (h0 : HoU U b) : MI l G ad U yX2_firstEnd cX2_firstEnd 3 .int (k2_rm 1 21) [.ref (ad 9 b)] D ((f_X2_firstEnd b D).bind (fun r => some (r, D))) := by
  refine mI_of (lv := [(0, .ref (ad 9 b))]) (by decide) hU rfl (Nat.le_of_ble_eq_true rfl) (fun A p e s m args below meth c C => ?_)
  have C : Cx G ad U A p s m meth c args cX2_firstEnd RX2 3 (some .int) := C
  unfold f_X2_firstEnd
  refine im_sipush C 3 dX2_firstEnd_0 rfl k_sp10999 ?_
  refine im_istore_n C 4 [(1, .int (10999 : Int32)), (0, .ref (ad 9 b))] dX2_firstEnd_3 rfl (by decide) rfl rfl ?_
  refine im_iconst C 5 dX2_firstEnd_4 rfl k_ic0 ?_
  refine im_istore_n C 6 [(2, .int (0 : Int32)), (1, .int (10999 : Int32)), (0, .ref (ad 9 b))] dX2_firstEnd_5 rfl (by decide) rfl rfl ?_
  refine im_sub [2, 1, 0] [(0, .ref (ad 9 b)), (1, .int (10999 : Int32)), (2, .int (0 : Int32))] rfl ?_
  refine im_lpB (l_X2_firstEnd_6 b D) (fun z6 => [(0, .ref (ad 9 b)), (1, .int z6.1), (2, .int z6.2)]) (fun z6 => D) 60 (fun e1 => [(1, .int e1)]) (fun e1 => D) (fun e1 => ?_) (fun z6 X_z6 hX_z6 hE_z6 => ?_) FU ((10999 : Int32), (0 : Int32))
  · refine im_iload_n C 61 0 dX2_firstEnd_60 rfl rfl rfl ?_
    exact im_iret C rfl rfl dX2_firstEnd_61
  · unfold l_X2_firstEnd_6
    refine im_iload_n C 7 2 dX2_firstEnd_6 rfl rfl rfl ?_
    refine im_bipush C 9 dX2_firstEnd_7 rfl k_bp16 ?_
    refine im_ic_ge C 60 12 dX2_firstEnd_9 rfl rfl ?_ ?_
    · exact im_sub [1] [(1, .int z6.1)] rfl (hE_z6 z6.1)
    · refine im_aload_n C 13 0 dX2_firstEnd_12 rfl rfl rfl ?_
      refine gl_X2_18 C 16 (h0 9 (by decide) (by decide)) dX2_firstEnd_13 rfl ?_
      refine im_iload_n C 17 2 dX2_firstEnd_16 rfl rfl rfl ?_
      refine im_rdi C 18 16 (h0 12 (by decide) (by decide)) rfl dX2_firstEnd_17 rfl (fun v2 => ?_)
      refine im_iconst C 19 dX2_firstEnd_18 rfl k_icm1 ?_
      refine im_jn 33 (fun t3 => [(0, .ref (ad 9 b)), (1, .int t3), (2, .int z6.2)]) (fun t3 => []) (fun t3 => D) (fun t3 => j_X2_firstEnd_33_t3 b D z6 t3) (fun t3 => ?_) (fun ht3 => ?_)
      · unfold j_X2_firstEnd_33_t3
        refine im_aload_n C 34 0 dX2_firstEnd_33 rfl rfl rfl ?_
        refine gl_X2_24 C 37 (h0 9 (by decide) (by decide)) dX2_firstEnd_34 rfl ?_
        refine im_iload_n C 38 2 dX2_firstEnd_37 rfl rfl rfl ?_
        refine im_rdi C 39 16 (h0 14 (by decide) (by decide)) rfl dX2_firstEnd_38 rfl (fun v4 => ?_)
        refine im_iconst C 40 dX2_firstEnd_39 rfl k_icm1 ?_
        refine im_ic_eq C 54 43 dX2_firstEnd_40 rfl rfl ?_ ?_
        · refine im_iinc C 57 2 [(2, .int (z6.2 + (1 : Int32))), (0, .ref (ad 9 b)), (1, .int t3)] dX2_firstEnd_54 rfl (k_inc1) (by decide) rfl rfl ?_
          refine im_goto C 6 dX2_firstEnd_57 rfl ?_
          exact im_sub [1, 2, 0] [(0, .ref (ad 9 b)), (1, .int t3), (2, .int (z6.2 + (1 : Int32)))] rfl (hX_z6 (t3, z6.2 + (1 : Int32)))
        · refine im_iload_n C 44 1 dX2_firstEnd_43 rfl rfl rfl ?_
          refine im_aload_n C 45 0 dX2_firstEnd_44 rfl rfl rfl ?_
          refine gl_X2_27 C 48 (h0 9 (by decide) (by decide)) dX2_firstEnd_45 rfl ?_
          refine im_iload_n C 49 2 dX2_firstEnd_48 rfl rfl rfl ?_
          refine im_rdi C 50 16 (h0 15 (by decide) (by decide)) rfl dX2_firstEnd_49 rfl (fun v5 => ?_)
          refine im_mmin C 53 gw_882 dX2_firstEnd_50 rfl ⟨Nat.le_of_ble_eq_true rfl, Nat.le_of_ble_eq_true rfl⟩ ?_
          refine im_istore_n C 54 [(1, .int (if v5 < t3 then v5 else t3)), (0, .ref (ad 9 b)), (2, .int z6.2)] dX2_firstEnd_53 rfl (by decide) rfl rfl ?_
          refine im_iinc C 57 2 [(2, .int (z6.2 + (1 : Int32))), (1, .int (if v5 < t3 then v5 else t3)), (0, .ref (ad 9 b))] dX2_firstEnd_54 rfl (k_inc1) (by decide) rfl rfl ?_
          refine im_goto C 6 dX2_firstEnd_57 rfl ?_
          exact im_sub [2, 1, 0] [(0, .ref (ad 9 b)), (1, .int (if v5 < t3 then v5 else t3)), (2, .int (z6.2 + (1 : Int32)))] rfl (hX_z6 (if v5 < t3 then v5 else t3, z6.2 + (1 : Int32)))
      · refine im_ic_eq C 33 22 dX2_firstEnd_19 rfl rfl ?_ ?_
        · exact ht3 z6.1
        · refine im_iload_n C 23 1 dX2_firstEnd_22 rfl rfl rfl ?_
          refine im_aload_n C 24 0 dX2_firstEnd_23 rfl rfl rfl ?_
          refine gl_X2_21 C 27 (h0 9 (by decide) (by decide)) dX2_firstEnd_24 rfl ?_
          refine im_iload_n C 28 2 dX2_firstEnd_27 rfl rfl rfl ?_
          refine im_rdi C 29 16 (h0 13 (by decide) (by decide)) rfl dX2_firstEnd_28 rfl (fun v6 => ?_)
          refine im_mmin C 32 gw_882 dX2_firstEnd_29 rfl ⟨Nat.le_of_ble_eq_true rfl, Nat.le_of_ble_eq_true rfl⟩ ?_
          refine im_istore_n C 33 [(1, .int (if v6 < z6.1 then v6 else z6.1)), (0, .ref (ad 9 b)), (2, .int z6.2)] dX2_firstEnd_32 rfl (by decide) rfl rfl ?_
          exact im_sub [1, 0, 2] [(0, .ref (ad 9 b)), (1, .int (if v6 < z6.1 then v6 else z6.1)), (2, .int z6.2)] rfl (ht3 (if v6 < z6.1 then v6 else z6.1))
set_option maxRecDepth 100000 in
set_option maxHeartbeats 4000000 in
theorem c_X5_firstOverlapEnd {l : Launch} {G : va_G} {ad : Nat → Nat → Nat} {U : List (Nat × Nat)} {D : Dt} {b : Nat} (hU : Uinj ad U) (h0 : SpU U b) : MI l G ad U yX5_firstOverlapEnd cX5_firstOverlapEnd 3 .int (k2_rm 2 41) [.ref (ad 1 b)] D ((f_X5_firstOverlapEnd b D).bind (fun r => some (r, D))) := by
  refine mI_of (lv := [(0, .ref (ad 1 b))]) (by decide) hU rfl (Nat.le_of_ble_eq_true rfl) (fun A p e s m args below meth c C => ?_)
  have C : Cx G ad U A p s m meth c args cX5_firstOverlapEnd RX5 3 (some .int) := C
  unfold f_X5_firstOverlapEnd
  refine im_sipush C 3 dX5_firstOverlapEnd_0 rfl k_sp10999 ?_
  refine im_istore_n C 4 [(1, .int (10999 : Int32)), (0, .ref (ad 1 b))] dX5_firstOverlapEnd_3 rfl (by decide) rfl rfl ?_
  refine im_iconst C 5 dX5_firstOverlapEnd_4 rfl k_ic0 ?_
  refine im_istore_n C 6 [(2, .int (0 : Int32)), (1, .int (10999 : Int32)), (0, .ref (ad 1 b))] dX5_firstOverlapEnd_5 rfl (by decide) rfl rfl ?_
  refine im_sub [2, 1, 0] [(0, .ref (ad 1 b)), (1, .int (10999 : Int32)), (2, .int (0 : Int32))] rfl ?_
  refine im_lpB (l_X5_firstOverlapEnd_6 b D) (fun z6 => [(0, .ref (ad 1 b)), (1, .int z6.1), (2, .int z6.2)]) (fun z6 => D) 37 (fun e1 => [(1, .int e1)]) (fun e1 => D) (fun e1 => ?_) (fun z6 X_z6 hX_z6 hE_z6 => ?_) FU ((10999 : Int32), (0 : Int32))
  · refine im_iload_n C 38 0 dX5_firstOverlapEnd_37 rfl rfl rfl ?_
    exact im_iret C rfl rfl dX5_firstOverlapEnd_38
  · unfold l_X5_firstOverlapEnd_6
    refine im_iload_n C 7 2 dX5_firstOverlapEnd_6 rfl rfl rfl ?_
    refine im_bipush C 9 dX5_firstOverlapEnd_7 rfl k_bp12 ?_
    refine im_ic_ge C 37 12 dX5_firstOverlapEnd_9 rfl rfl ?_ ?_
    · exact im_sub [1] [(1, .int z6.1)] rfl (hE_z6 z6.1)
    · refine im_aload_n C 13 0 dX5_firstOverlapEnd_12 rfl rfl rfl ?_
      refine im_iload_n C 14 2 dX5_firstOverlapEnd_13 rfl rfl rfl ?_
      refine im_cVP C 17 vk_X5_hasOld gw_727 (c_X5_hasOld (b := b) (x1 := z6.2) hU h0) (h0 1 (by decide) (by decide)) rfl rfl (rle rfl) rfl (st := []) rfl (Nat.le_of_ble_eq_true rfl) dX5_firstOverlapEnd_14 rfl (fun o2 => ?_)
      refine im_if_eq C 31 20 dX5_firstOverlapEnd_17 rfl rfl ?_ ?_
      · refine im_iinc C 34 2 [(2, .int (z6.2 + (1 : Int32))), (0, .ref (ad 1 b)), (1, .int z6.1)] dX5_firstOverlapEnd_31 rfl (k_inc1) (by decide) rfl rfl ?_
        refine im_goto C 6 dX5_firstOverlapEnd_34 rfl ?_
        exact im_sub [1, 2, 0] [(0, .ref (ad 1 b)), (1, .int z6.1), (2, .int (z6.2 + (1 : Int32)))] rfl (hX_z6 (z6.1, z6.2 + (1 : Int32)))
      · refine im_iload_n C 21 1 dX5_firstOverlapEnd_20 rfl rfl rfl ?_
        refine im_aload_n C 22 0 dX5_firstOverlapEnd_21 rfl rfl rfl ?_
        refine gl_X5_30 C 25 (h0 1 (by decide) (by decide)) dX5_firstOverlapEnd_22 rfl ?_
        refine im_iload_n C 26 2 dX5_firstOverlapEnd_25 rfl rfl rfl ?_
        refine im_rdi C 27 12 (h0 8 (by decide) (by decide)) rfl dX5_firstOverlapEnd_26 rfl (fun v3 => ?_)
        refine im_mmin C 30 gw_887 dX5_firstOverlapEnd_27 rfl ⟨Nat.le_of_ble_eq_true rfl, Nat.le_of_ble_eq_true rfl⟩ ?_
        refine im_istore_n C 31 [(1, .int (if v3 < z6.1 then v3 else z6.1)), (0, .ref (ad 1 b)), (2, .int z6.2)] dX5_firstOverlapEnd_30 rfl (by decide) rfl rfl ?_
        refine im_iinc C 34 2 [(2, .int (z6.2 + (1 : Int32))), (1, .int (if v3 < z6.1 then v3 else z6.1)), (0, .ref (ad 1 b))] dX5_firstOverlapEnd_31 rfl (k_inc1) (by decide) rfl rfl ?_
        refine im_goto C 6 dX5_firstOverlapEnd_34 rfl ?_
        exact im_sub [2, 1, 0] [(0, .ref (ad 1 b)), (1, .int (if v3 < z6.1 then v3 else z6.1)), (2, .int (z6.2 + (1 : Int32)))] rfl (hX_z6 (if v3 < z6.1 then v3 else z6.1, z6.2 + (1 : Int32)))
set_option maxRecDepth 100000 in
set_option maxHeartbeats 4000000 in
theorem c_X5_currentBlocks {l : Launch} {G : va_G} {ad : Nat → Nat → Nat} {U : List (Nat × Nat)} {D : Dt} {b : Nat} (hU : Uinj ad U) (h0 : SpU U b) : MI l G ad U yX5_currentBlocks cX5_currentBlocks 3 .int (k2_rm 2 41) [.ref (ad 1 b)] D ((f_X5_currentBlocks b D).bind (fun r => some (r, D))) := by
  refine mI_of (lv := [(0, .ref (ad 1 b))]) (by decide) hU rfl (Nat.le_of_ble_eq_true rfl) (fun A p e s m args below meth c C => ?_)
  have C : Cx G ad U A p s m meth c args cX5_currentBlocks RX5 3 (some .int) := C
  unfold f_X5_currentBlocks
  refine im_iconst C 1 dX5_currentBlocks_0 rfl k_ic0 ?_
  refine im_istore_n C 2 [(1, .int (0 : Int32)), (0, .ref (ad 1 b))] dX5_currentBlocks_1 rfl (by decide) rfl rfl ?_
  refine im_iconst C 3 dX5_currentBlocks_2 rfl k_ic0 ?_
  refine im_istore_n C 4 [(2, .int (0 : Int32)), (1, .int (0 : Int32)), (0, .ref (ad 1 b))] dX5_currentBlocks_3 rfl (by decide) rfl rfl ?_
  refine im_sub [2, 1, 0] [(0, .ref (ad 1 b)), (1, .int (0 : Int32)), (2, .int (0 : Int32))] rfl ?_
  refine im_lpB (l_X5_currentBlocks_4 b D) (fun z4 => [(0, .ref (ad 1 b)), (1, .int z4.1), (2, .int z4.2)]) (fun z4 => D) 32 (fun e1 => [(1, .int e1)]) (fun e1 => D) (fun e1 => ?_) (fun z4 X_z4 hX_z4 hE_z4 => ?_) FU ((0 : Int32), (0 : Int32))
  · refine im_iload_n C 33 0 dX5_currentBlocks_32 rfl rfl rfl ?_
    exact im_iret C rfl rfl dX5_currentBlocks_33
  · unfold l_X5_currentBlocks_4
    refine im_iload_n C 5 2 dX5_currentBlocks_4 rfl rfl rfl ?_
    refine im_bipush C 7 dX5_currentBlocks_5 rfl k_bp12 ?_
    refine im_ic_ge C 32 10 dX5_currentBlocks_7 rfl rfl ?_ ?_
    · exact im_sub [1] [(1, .int z4.1)] rfl (hE_z4 z4.1)
    · refine im_iload_n C 11 1 dX5_currentBlocks_10 rfl rfl rfl ?_
      refine im_aload_n C 12 0 dX5_currentBlocks_11 rfl rfl rfl ?_
      refine im_iload_n C 13 2 dX5_currentBlocks_12 rfl rfl rfl ?_
      refine im_cVP C 16 vk_X5_hasBlock gw_726 (c_X5_hasBlock (b := b) (x1 := z4.2) hU h0) (h0 1 (by decide) (by decide)) rfl rfl (rle rfl) rfl (st := [.int z4.1]) rfl (Nat.le_of_ble_eq_true rfl) dX5_currentBlocks_13 rfl (fun o2 => ?_)
      refine im_if_eq C 23 19 dX5_currentBlocks_16 rfl rfl ?_ ?_
      · refine im_iconst C 24 dX5_currentBlocks_23 rfl k_ic0 ?_
        refine im_iadd C 25 dX5_currentBlocks_24 rfl ?_
        refine im_istore_n C 26 [(1, .int (z4.1 + (0 : Int32))), (0, .ref (ad 1 b)), (2, .int z4.2)] dX5_currentBlocks_25 rfl (by decide) rfl rfl ?_
        refine im_iinc C 29 2 [(2, .int (z4.2 + (1 : Int32))), (1, .int (z4.1 + (0 : Int32))), (0, .ref (ad 1 b))] dX5_currentBlocks_26 rfl (k_inc1) (by decide) rfl rfl ?_
        refine im_goto C 4 dX5_currentBlocks_29 rfl ?_
        exact im_sub [2, 1, 0] [(0, .ref (ad 1 b)), (1, .int (z4.1 + (0 : Int32))), (2, .int (z4.2 + (1 : Int32)))] rfl (hX_z4 (z4.1 + (0 : Int32), z4.2 + (1 : Int32)))
      · refine im_iconst C 20 dX5_currentBlocks_19 rfl k_ic1 ?_
        refine im_goto C 24 dX5_currentBlocks_20 rfl ?_
        refine im_iadd C 25 dX5_currentBlocks_24 rfl ?_
        refine im_istore_n C 26 [(1, .int (z4.1 + (1 : Int32))), (0, .ref (ad 1 b)), (2, .int z4.2)] dX5_currentBlocks_25 rfl (by decide) rfl rfl ?_
        refine im_iinc C 29 2 [(2, .int (z4.2 + (1 : Int32))), (1, .int (z4.1 + (1 : Int32))), (0, .ref (ad 1 b))] dX5_currentBlocks_26 rfl (k_inc1) (by decide) rfl rfl ?_
        refine im_goto C 4 dX5_currentBlocks_29 rfl ?_
        exact im_sub [2, 1, 0] [(0, .ref (ad 1 b)), (1, .int (z4.1 + (1 : Int32))), (2, .int (z4.2 + (1 : Int32)))] rfl (hX_z4 (z4.1 + (1 : Int32), z4.2 + (1 : Int32)))
set_option maxRecDepth 100000 in
set_option maxHeartbeats 4000000 in
theorem c_X5_oldBlocks {l : Launch} {G : va_G} {ad : Nat → Nat → Nat} {U : List (Nat × Nat)} {D : Dt} {b : Nat} (hU : Uinj ad U) (h0 : SpU U b) : MI l G ad U yX5_oldBlocks cX5_oldBlocks 3 .int (k2_rm 2 41) [.ref (ad 1 b)] D ((f_X5_oldBlocks b D).bind (fun r => some (r, D))) := by
  refine mI_of (lv := [(0, .ref (ad 1 b))]) (by decide) hU rfl (Nat.le_of_ble_eq_true rfl) (fun A p e s m args below meth c C => ?_)
  have C : Cx G ad U A p s m meth c args cX5_oldBlocks RX5 3 (some .int) := C
  unfold f_X5_oldBlocks
  refine im_iconst C 1 dX5_oldBlocks_0 rfl k_ic0 ?_
  refine im_istore_n C 2 [(1, .int (0 : Int32)), (0, .ref (ad 1 b))] dX5_oldBlocks_1 rfl (by decide) rfl rfl ?_
  refine im_iconst C 3 dX5_oldBlocks_2 rfl k_ic0 ?_
  refine im_istore_n C 4 [(2, .int (0 : Int32)), (1, .int (0 : Int32)), (0, .ref (ad 1 b))] dX5_oldBlocks_3 rfl (by decide) rfl rfl ?_
  refine im_sub [2, 1, 0] [(0, .ref (ad 1 b)), (1, .int (0 : Int32)), (2, .int (0 : Int32))] rfl ?_
  refine im_lpB (l_X5_oldBlocks_4 b D) (fun z4 => [(0, .ref (ad 1 b)), (1, .int z4.1), (2, .int z4.2)]) (fun z4 => D) 32 (fun e1 => [(1, .int e1)]) (fun e1 => D) (fun e1 => ?_) (fun z4 X_z4 hX_z4 hE_z4 => ?_) FU ((0 : Int32), (0 : Int32))
  · refine im_iload_n C 33 0 dX5_oldBlocks_32 rfl rfl rfl ?_
    exact im_iret C rfl rfl dX5_oldBlocks_33
  · unfold l_X5_oldBlocks_4
    refine im_iload_n C 5 2 dX5_oldBlocks_4 rfl rfl rfl ?_
    refine im_bipush C 7 dX5_oldBlocks_5 rfl k_bp12 ?_
    refine im_ic_ge C 32 10 dX5_oldBlocks_7 rfl rfl ?_ ?_
    · exact im_sub [1] [(1, .int z4.1)] rfl (hE_z4 z4.1)
    · refine im_iload_n C 11 1 dX5_oldBlocks_10 rfl rfl rfl ?_
      refine im_aload_n C 12 0 dX5_oldBlocks_11 rfl rfl rfl ?_
      refine im_iload_n C 13 2 dX5_oldBlocks_12 rfl rfl rfl ?_
      refine im_cVP C 16 vk_X5_hasOld gw_727 (c_X5_hasOld (b := b) (x1 := z4.2) hU h0) (h0 1 (by decide) (by decide)) rfl rfl (rle rfl) rfl (st := [.int z4.1]) rfl (Nat.le_of_ble_eq_true rfl) dX5_oldBlocks_13 rfl (fun o2 => ?_)
      refine im_if_eq C 23 19 dX5_oldBlocks_16 rfl rfl ?_ ?_
      · refine im_iconst C 24 dX5_oldBlocks_23 rfl k_ic0 ?_
        refine im_iadd C 25 dX5_oldBlocks_24 rfl ?_
        refine im_istore_n C 26 [(1, .int (z4.1 + (0 : Int32))), (0, .ref (ad 1 b)), (2, .int z4.2)] dX5_oldBlocks_25 rfl (by decide) rfl rfl ?_
        refine im_iinc C 29 2 [(2, .int (z4.2 + (1 : Int32))), (1, .int (z4.1 + (0 : Int32))), (0, .ref (ad 1 b))] dX5_oldBlocks_26 rfl (k_inc1) (by decide) rfl rfl ?_
        refine im_goto C 4 dX5_oldBlocks_29 rfl ?_
        exact im_sub [2, 1, 0] [(0, .ref (ad 1 b)), (1, .int (z4.1 + (0 : Int32))), (2, .int (z4.2 + (1 : Int32)))] rfl (hX_z4 (z4.1 + (0 : Int32), z4.2 + (1 : Int32)))
      · refine im_iconst C 20 dX5_oldBlocks_19 rfl k_ic1 ?_
        refine im_goto C 24 dX5_oldBlocks_20 rfl ?_
        refine im_iadd C 25 dX5_oldBlocks_24 rfl ?_
        refine im_istore_n C 26 [(1, .int (z4.1 + (1 : Int32))), (0, .ref (ad 1 b)), (2, .int z4.2)] dX5_oldBlocks_25 rfl (by decide) rfl rfl ?_
        refine im_iinc C 29 2 [(2, .int (z4.2 + (1 : Int32))), (1, .int (z4.1 + (1 : Int32))), (0, .ref (ad 1 b))] dX5_oldBlocks_26 rfl (k_inc1) (by decide) rfl rfl ?_
        refine im_goto C 4 dX5_oldBlocks_29 rfl ?_
        exact im_sub [2, 1, 0] [(0, .ref (ad 1 b)), (1, .int (z4.1 + (1 : Int32))), (2, .int (z4.2 + (1 : Int32)))] rfl (hX_z4 (z4.1 + (1 : Int32), z4.2 + (1 : Int32)))
set_option maxRecDepth 100000 in
set_option maxHeartbeats 4000000 in
theorem c_X2_members {l : Launch} {G : va_G} {ad : Nat → Nat → Nat} {U : List (Nat × Nat)} {D : Dt} {b : Nat} (hU : Uinj ad U) (h0 : HoU U b) : MI l G ad U yX2_members cX2_members 1 .int (k2_rm 1 23) [.ref (ad 9 b)] D ((f_X2_members b D).bind (fun r => some (r, D))) := by
  refine mI_of (lv := [(0, .ref (ad 9 b))]) (by decide) hU rfl (Nat.le_of_ble_eq_true rfl) (fun A p e s m args below meth c C => ?_)
  have C : Cx G ad U A p s m meth c args cX2_members RX2 1 (some .int) := C
  unfold f_X2_members
  refine im_bipush C 2 dX2_members_0 rfl k_bp16 ?_
  refine im_aload_n C 3 0 dX2_members_2 rfl rfl rfl ?_
  refine im_iconst C 4 dX2_members_3 rfl k_icm1 ?_
  refine im_cVP C 7 vk_X2_membersOf gw_904 (c_X2_membersOf (b := b) (x1 := (-1 : Int32)) hU h0) (h0 9 (by decide) (by decide)) rfl rfl (rle rfl) rfl (st := [.int (16 : Int32)]) rfl (Nat.le_of_ble_eq_true rfl) dX2_members_4 rfl (fun o1 => ?_)
  refine im_isub C 8 dX2_members_7 rfl ?_
  exact im_iret C rfl rfl dX2_members_8
set_option maxRecDepth 100000 in
set_option maxHeartbeats 4000000 in
theorem c_X2_leases {l : Launch} {G : va_G} {ad : Nat → Nat → Nat} {U : List (Nat × Nat)} {D : Dt} {b : Nat} (hU : Uinj ad U) (h0 : HoU U b) : MI l G ad U yX2_leases cX2_leases 3 .int (k2_rm 1 21) [.ref (ad 9 b)] D ((f_X2_leases b D).bind (fun r => some (r, D))) := by
  refine mI_of (lv := [(0, .ref (ad 9 b))]) (by decide) hU rfl (Nat.le_of_ble_eq_true rfl) (fun A p e s m args below meth c C => ?_)
  have C : Cx G ad U A p s m meth c args cX2_leases RX2 3 (some .int) := C
  unfold f_X2_leases
  refine im_iconst C 1 dX2_leases_0 rfl k_ic0 ?_
  refine im_istore_n C 2 [(1, .int (0 : Int32)), (0, .ref (ad 9 b))] dX2_leases_1 rfl (by decide) rfl rfl ?_
  refine im_iconst C 3 dX2_leases_2 rfl k_ic0 ?_
  refine im_istore_n C 4 [(2, .int (0 : Int32)), (1, .int (0 : Int32)), (0, .ref (ad 9 b))] dX2_leases_3 rfl (by decide) rfl rfl ?_
  refine im_sub [2, 1, 0] [(0, .ref (ad 9 b)), (1, .int (0 : Int32)), (2, .int (0 : Int32))] rfl ?_
  refine im_lpB (l_X2_leases_4 b D) (fun z4 => [(0, .ref (ad 9 b)), (1, .int z4.1), (2, .int z4.2)]) (fun z4 => D) 24 (fun e1 => [(1, .int e1)]) (fun e1 => D) (fun e1 => ?_) (fun z4 X_z4 hX_z4 hE_z4 => ?_) FU ((0 : Int32), (0 : Int32))
  · refine im_iload_n C 25 0 dX2_leases_24 rfl rfl rfl ?_
    exact im_iret C rfl rfl dX2_leases_25
  · unfold l_X2_leases_4
    refine im_iload_n C 5 2 dX2_leases_4 rfl rfl rfl ?_
    refine im_bipush C 7 dX2_leases_5 rfl k_bp16 ?_
    refine im_ic_ge C 24 10 dX2_leases_7 rfl rfl ?_ ?_
    · exact im_sub [1] [(1, .int z4.1)] rfl (hE_z4 z4.1)
    · refine im_iload_n C 11 1 dX2_leases_10 rfl rfl rfl ?_
      refine im_aload_n C 12 0 dX2_leases_11 rfl rfl rfl ?_
      refine im_iload_n C 13 2 dX2_leases_12 rfl rfl rfl ?_
      refine im_cVP C 16 vk_X2_leasesHeld gw_701 (c_X2_leasesHeld (b := b) (x1 := z4.2) hU h0) (h0 9 (by decide) (by decide)) rfl rfl (rle rfl) rfl (st := [.int z4.1]) rfl (Nat.le_of_ble_eq_true rfl) dX2_leases_13 rfl (fun o2 => ?_)
      refine im_iadd C 17 dX2_leases_16 rfl ?_
      refine im_istore_n C 18 [(1, .int (z4.1 + o2)), (0, .ref (ad 9 b)), (2, .int z4.2)] dX2_leases_17 rfl (by decide) rfl rfl ?_
      refine im_iinc C 21 2 [(2, .int (z4.2 + (1 : Int32))), (1, .int (z4.1 + o2)), (0, .ref (ad 9 b))] dX2_leases_18 rfl (k_inc1) (by decide) rfl rfl ?_
      refine im_goto C 4 dX2_leases_21 rfl ?_
      exact im_sub [2, 1, 0] [(0, .ref (ad 9 b)), (1, .int (z4.1 + o2)), (2, .int (z4.2 + (1 : Int32)))] rfl (hX_z4 (z4.1 + o2, z4.2 + (1 : Int32)))
set_option maxRecDepth 100000 in
set_option maxHeartbeats 4000000 in
theorem c_X7_listRoutes {l : Launch} {G : va_G} {ad : Nat → Nat → Nat} {U : List (Nat × Nat)} {D : Dt} {b : Nat} {b1 : Nat} {b2 : Nat} (hU : Uinj ad U) (h0 : SuU U b) (h1 : SpU U b1) (h2 : BlU U b2) : MV l G ad U yX7_listRoutes cX7_listRoutes 6 (k2_rm 3 65) [.ref (ad 16 b), .ref (ad 1 b1), .ref (ad 19 b2)] D (f_X7_listRoutes b b1 b2 D) := by
  refine mV_of0 (lv := [(0, .ref (ad 16 b)), (1, .ref (ad 1 b1)), (2, .ref (ad 19 b2))]) (by decide) hU rfl (Nat.le_of_ble_eq_true rfl) (fun A p e s m args below meth c C => ?_)
  have C : Cx G ad U A p s m meth c args cX7_listRoutes RX7 6 none := C
  unfold f_X7_listRoutes
  refine im_aload_n C 1 0 dX7_listRoutes_0 rfl rfl rfl ?_
  refine im_aload_n C 2 1 dX7_listRoutes_1 rfl rfl rfl ?_
  refine im_cVV C 5 vk_X7_listUsed gw_515 (c_X7_listUsed (b := b) (b1 := b1) hU h0 h1) (h0.1 16 (by decide) (by decide)) rfl rfl (rle rfl) rfl (st := []) rfl (Nat.le_of_ble_eq_true rfl) dX7_listRoutes_2 rfl (fun D1 => ?_)
  refine im_aload_n C 6 2 dX7_listRoutes_5 rfl rfl rfl ?_
  refine im_iconst C 7 dX7_listRoutes_6 rfl k_ic0 ?_
  refine pl_X7_29 C 10 (h2 19 (by decide) (by decide)) dX7_listRoutes_7 rfl (fun D2 => ?_)
  refine im_iconst C 11 dX7_listRoutes_10 rfl k_ic0 ?_
  refine im_istore_n C 12 [(3, .int (0 : Int32)), (0, .ref (ad 16 b)), (1, .ref (ad 1 b1)), (2, .ref (ad 19 b2))] dX7_listRoutes_11 rfl (by decide) rfl rfl ?_
  refine im_iconst C 13 dX7_listRoutes_12 rfl k_ic0 ?_
  refine im_istore C 15 [(4, .int (0 : Int32)), (3, .int (0 : Int32)), (0, .ref (ad 16 b)), (1, .ref (ad 1 b1)), (2, .ref (ad 19 b2))] dX7_listRoutes_13 (by decide) rfl rfl ?_
  refine im_iconst C 16 dX7_listRoutes_15 rfl k_ic0 ?_
  refine im_istore C 18 [(5, .int (0 : Int32)), (4, .int (0 : Int32)), (3, .int (0 : Int32)), (0, .ref (ad 16 b)), (1, .ref (ad 1 b1)), (2, .ref (ad 19 b2))] dX7_listRoutes_16 (by decide) rfl rfl ?_
  refine im_sub [3, 5, 2, 1, 0] [(0, .ref (ad 16 b)), (2, .ref (ad 19 b2)), (3, .int (0 : Int32)), (4, .int (0 : Int32)), (5, .int (0 : Int32))] rfl ?_
  refine im_lpB (l_X7_listRoutes_18 b b2) (fun z18 => [(0, .ref (ad 16 b)), (2, .ref (ad 19 b2)), (3, .int z18.1), (4, .int z18.2.1), (5, .int z18.2.2.1)]) (fun z18 => z18.2.2.2) 76 (fun e3 => [(2, .ref (ad 19 b2)), (3, .int e3.1), (4, .int e3.2.1)]) (fun e3 => e3.2.2) (fun e3 => ?_) (fun z18 X_z18 hX_z18 hE_z18 => ?_) FU ((0 : Int32), (0 : Int32), (0 : Int32), D2)
  · refine im_aload_n C 77 0 dX7_listRoutes_76 rfl rfl rfl ?_
    refine im_iload_n C 78 1 dX7_listRoutes_77 rfl rfl rfl ?_
    refine im_iload C 80 2 dX7_listRoutes_78 rfl rfl ?_
    refine im_cVV C 83 vk_X0_addStretch gw_534 (c_X0_addStretch (b := b2) (x1 := e3.1) (x2 := e3.2.1) hU h2) (h2 19 (by decide) (by decide)) rfl rfl (rle rfl) rfl (st := []) rfl (Nat.le_of_ble_eq_true rfl) dX7_listRoutes_80 rfl (fun D9 => ?_)
    exact im_vret C rfl dX7_listRoutes_83
  · unfold l_X7_listRoutes_18
    refine im_iload C 20 4 dX7_listRoutes_18 rfl rfl ?_
    refine im_bipush C 22 dX7_listRoutes_20 rfl k_bp24 ?_
    refine im_ic_ge C 76 25 dX7_listRoutes_22 rfl rfl ?_ ?_
    · exact im_sub [1, 2, 3] [(2, .ref (ad 19 b2)), (3, .int z18.1), (4, .int z18.2.1)] rfl (hE_z18 (z18.1, z18.2.1, z18.2.2.2))
    · refine im_iload C 27 4 dX7_listRoutes_25 rfl rfl ?_
      refine im_aload_n C 28 0 dX7_listRoutes_27 rfl rfl rfl ?_
      refine gl_X7_62 C 31 (h0.1 16 (by decide) (by decide)) dX7_listRoutes_28 rfl ?_
      refine im_ic_ge C 76 34 dX7_listRoutes_31 rfl rfl ?_ ?_
      · exact im_sub [1, 2, 3] [(2, .ref (ad 19 b2)), (3, .int z18.1), (4, .int z18.2.1)] rfl (hE_z18 (z18.1, z18.2.1, z18.2.2.2))
      · refine im_aload_n C 35 0 dX7_listRoutes_34 rfl rfl rfl ?_
        refine gl_X7_9 C 38 (h0.1 16 (by decide) (by decide)) dX7_listRoutes_35 rfl ?_
        refine im_iload C 40 4 dX7_listRoutes_38 rfl rfl ?_
        refine im_rdi C 41 24 (h0.1 17 (by decide) (by decide)) rfl dX7_listRoutes_40 rfl (fun v4 => ?_)
        refine im_iload C 43 3 dX7_listRoutes_41 rfl rfl ?_
        refine im_ic_eq C 61 46 dX7_listRoutes_43 rfl rfl ?_ ?_
        · refine im_aload_n C 62 0 dX7_listRoutes_61 rfl rfl rfl ?_
          refine gl_X7_15 C 65 (h0.1 16 (by decide) (by decide)) dX7_listRoutes_62 rfl ?_
          refine im_iload C 67 4 dX7_listRoutes_65 rfl rfl ?_
          refine im_rdi C 68 24 (h0.1 18 (by decide) (by decide)) rfl dX7_listRoutes_67 rfl (fun v5 => ?_)
          refine im_istore C 70 [(4, .int v5), (0, .ref (ad 16 b)), (2, .ref (ad 19 b2)), (3, .int z18.1), (5, .int z18.2.2.1)] dX7_listRoutes_68 (by decide) rfl rfl ?_
          refine im_iinc C 73 4 [(5, .int (z18.2.2.1 + (1 : Int32))), (4, .int v5), (0, .ref (ad 16 b)), (2, .ref (ad 19 b2)), (3, .int z18.1)] dX7_listRoutes_70 rfl (k_inc1) (by decide) rfl rfl ?_
          refine im_goto C 18 dX7_listRoutes_73 rfl ?_
          exact im_sub [2, 3, 4, 1, 0] [(0, .ref (ad 16 b)), (2, .ref (ad 19 b2)), (3, .int z18.1), (4, .int v5), (5, .int (z18.2.2.1 + (1 : Int32)))] rfl (hX_z18 (z18.1, v5, z18.2.2.1 + (1 : Int32), z18.2.2.2))
        · refine im_aload_n C 47 1 dX7_listRoutes_46 rfl rfl rfl ?_
          refine im_iload_n C 48 2 dX7_listRoutes_47 rfl rfl rfl ?_
          refine im_iload C 50 3 dX7_listRoutes_48 rfl rfl ?_
          refine im_cVV C 53 vk_X0_addStretch gw_534 (c_X0_addStretch (b := b2) (x1 := z18.1) (x2 := z18.2.1) hU h2) (h2 19 (by decide) (by decide)) rfl rfl (rle rfl) rfl (st := []) rfl (Nat.le_of_ble_eq_true rfl) dX7_listRoutes_50 rfl (fun D6 => ?_)
          refine im_aload_n C 54 0 dX7_listRoutes_53 rfl rfl rfl ?_
          refine gl_X7_9 C 57 (h0.1 16 (by decide) (by decide)) dX7_listRoutes_54 rfl ?_
          refine im_iload C 59 4 dX7_listRoutes_57 rfl rfl ?_
          refine im_rdi C 60 24 (h0.1 17 (by decide) (by decide)) rfl dX7_listRoutes_59 rfl (fun v7 => ?_)
          refine im_istore_n C 61 [(3, .int v7), (0, .ref (ad 16 b)), (2, .ref (ad 19 b2)), (4, .int z18.2.1), (5, .int z18.2.2.1)] dX7_listRoutes_60 rfl (by decide) rfl rfl ?_
          refine im_aload_n C 62 1 dX7_listRoutes_61 rfl rfl rfl ?_
          refine gl_X7_15 C 65 (h0.1 16 (by decide) (by decide)) dX7_listRoutes_62 rfl ?_
          refine im_iload C 67 4 dX7_listRoutes_65 rfl rfl ?_
          refine im_rdi C 68 24 (h0.1 18 (by decide) (by decide)) rfl dX7_listRoutes_67 rfl (fun v8 => ?_)
          refine im_istore C 70 [(4, .int v8), (3, .int v7), (0, .ref (ad 16 b)), (2, .ref (ad 19 b2)), (5, .int z18.2.2.1)] dX7_listRoutes_68 (by decide) rfl rfl ?_
          refine im_iinc C 73 4 [(5, .int (z18.2.2.1 + (1 : Int32))), (4, .int v8), (3, .int v7), (0, .ref (ad 16 b)), (2, .ref (ad 19 b2))] dX7_listRoutes_70 rfl (k_inc1) (by decide) rfl rfl ?_
          refine im_goto C 18 dX7_listRoutes_73 rfl ?_
          exact im_sub [3, 4, 2, 1, 0] [(0, .ref (ad 16 b)), (2, .ref (ad 19 b2)), (3, .int v7), (4, .int v8), (5, .int (z18.2.2.1 + (1 : Int32)))] rfl (hX_z18 (v7, v8, z18.2.2.1 + (1 : Int32), D6))
set_option maxRecDepth 100000 in
set_option maxHeartbeats 4000000 in
theorem c_X3_imagine {l : Launch} {G : va_G} {ad : Nat → Nat → Nat} {U : List (Nat × Nat)} {D : Dt} {b1 : Nat} (hU : Uinj ad U) (h0 : PlU U) (h1 : SpU U b1) : MV l G ad U yX3_imagine cX3_imagine 2 (k2_rm 4 102) [.ref (ad 27 0), .ref (ad 1 b1)] D (f_X3_imagine b1 D) := by
  refine mV_of0 (lv := [(0, .ref (ad 27 0)), (1, .ref (ad 1 b1))]) (by decide) hU rfl (Nat.le_of_ble_eq_true rfl) (fun A p e s m args below meth c C => ?_)
  have C : Cx G ad U A p s m meth c args cX3_imagine RX3 2 none := C
  unfold f_X3_imagine
  refine im_aload_n C 1 0 dX3_imagine_0 rfl rfl rfl ?_
  refine gl_X3_12 C 4 (h0.1 27 (by decide) (by decide)) dX3_imagine_1 rfl ?_
  refine im_aload_n C 5 1 dX3_imagine_4 rfl rfl rfl ?_
  refine im_cVV C 8 vk_X5_copyFrom gw_931 (c_X5_copyFrom (b := 8) (b1 := b1) hU h0.2.1 h1) (h0.2.1 1 (by decide) (by decide)) rfl rfl (rle rfl) rfl (st := []) rfl (Nat.le_of_ble_eq_true rfl) dX3_imagine_5 rfl (fun D1 => ?_)
  refine im_aload_n C 9 0 dX3_imagine_8 rfl rfl rfl ?_
  refine gl_X3_21 C 12 (h0.1 27 (by decide) (by decide)) dX3_imagine_9 rfl ?_
  refine im_aload_n C 13 0 dX3_imagine_12 rfl rfl rfl ?_
  refine gl_X3_12 C 16 (h0.1 27 (by decide) (by decide)) dX3_imagine_13 rfl ?_
  refine im_cVV C 19 vk_X7_take gw_932 (c_X7_take (b := 1) (b1 := 8) hU h0.2.2.1 h0.2.1) (h0.2.2.1.1 16 (by decide) (by decide)) rfl rfl (rle rfl) rfl (st := []) rfl (Nat.le_of_ble_eq_true rfl) dX3_imagine_16 rfl (fun D2 => ?_)
  exact im_vret C rfl dX3_imagine_19
set_option maxRecDepth 100000 in
set_option maxHeartbeats 4000000 in
theorem c_X3_tryMove {l : Launch} {G : va_G} {ad : Nat → Nat → Nat} {U : List (Nat × Nat)} {D : Dt} {x1 : Int32} (hU : Uinj ad U) (h0 : PlU U) : MI l G ad U yX3_tryMove cX3_tryMove 3 .boolean (k2_rm 4 88) [.ref (ad 27 0), .int x1] D (f_X3_tryMove x1 D) := by
  refine mI_of0 (lv := [(0, .ref (ad 27 0)), (1, .int x1)]) (by decide) hU rfl (Nat.le_of_ble_eq_true rfl) (fun A p e s m args below meth c C => ?_)
  have C : Cx G ad U A p s m meth c args cX3_tryMove RX3 3 (some .boolean) := C
  unfold f_X3_tryMove
  refine im_aload_n C 1 0 dX3_tryMove_0 rfl rfl rfl ?_
  refine gl_X3_12 C 4 (h0.1 27 (by decide) (by decide)) dX3_tryMove_1 rfl ?_
  refine gl_X3_45 C 7 (h0.2.1 1 (by decide) (by decide)) dX3_tryMove_4 rfl ?_
  refine im_iload_n C 8 1 dX3_tryMove_7 rfl rfl rfl ?_
  refine im_rdi C 9 12 (h0.2.1 4 (by decide) (by decide)) rfl dX3_tryMove_8 rfl (fun v1 => ?_)
  refine im_istore_n C 10 [(2, .int v1), (0, .ref (ad 27 0)), (1, .int x1)] dX3_tryMove_9 rfl (by decide) rfl rfl ?_
  refine im_aload_n C 11 1 dX3_tryMove_10 rfl rfl rfl ?_
  refine im_aload_n C 12 1 dX3_tryMove_11 rfl rfl rfl ?_
  refine gl_X3_21 C 15 (h0.1 27 (by decide) (by decide)) dX3_tryMove_12 rfl ?_
  refine gl_X3_48 C 18 (h0.2.2.1.1 16 (by decide) (by decide)) dX3_tryMove_15 rfl ?_
  refine im_aload_n C 19 1 dX3_tryMove_18 rfl rfl rfl ?_
  refine gl_X3_12 C 22 (h0.1 27 (by decide) (by decide)) dX3_tryMove_19 rfl ?_
  refine gl_X3_52 C 25 (h0.2.1 1 (by decide) (by decide)) dX3_tryMove_22 rfl ?_
  refine im_aload_n C 26 1 dX3_tryMove_25 rfl rfl rfl ?_
  refine gl_X3_12 C 29 (h0.1 27 (by decide) (by decide)) dX3_tryMove_26 rfl ?_
  refine gl_X3_56 C 32 (h0.2.1 1 (by decide) (by decide)) dX3_tryMove_29 rfl ?_
  refine im_iload_n C 33 2 dX3_tryMove_32 rfl rfl rfl ?_
  refine im_rdi C 34 12 (h0.2.1 5 (by decide) (by decide)) rfl dX3_tryMove_33 rfl (fun v2 => ?_)
  refine im_cVP C 37 vk_X0_placeBy gw_937 (c_X0_placeBy (b := 1) (x1 := D 1 8 0) (x2 := v2) hU h0.2.2.1.2) (h0.2.2.1.2 19 (by decide) (by decide)) rfl rfl (rle rfl) rfl (st := [.ref (ad 27 0)]) rfl (Nat.le_of_ble_eq_true rfl) dX3_tryMove_34 rfl (fun o3 => ?_)
  refine pl_X3_65 C 40 (h0.1 27 (by decide) (by decide)) dX3_tryMove_37 rfl (fun D4 => ?_)
  refine im_aload_n C 41 1 dX3_tryMove_40 rfl rfl rfl ?_
  refine gl_X3_65 C 44 (h0.1 27 (by decide) (by decide)) dX3_tryMove_41 rfl ?_
  refine im_iconst C 45 dX3_tryMove_44 rfl k_icm1 ?_
  refine im_ic_ne C 50 48 dX3_tryMove_45 rfl rfl ?_ ?_
  · refine im_aload_n C 51 1 dX3_tryMove_50 rfl rfl rfl ?_
    refine gl_X3_12 C 54 (h0.1 27 (by decide) (by decide)) dX3_tryMove_51 rfl ?_
    refine gl_X3_45 C 57 (h0.2.1 1 (by decide) (by decide)) dX3_tryMove_54 rfl ?_
    refine im_iload_n C 58 2 dX3_tryMove_57 rfl rfl rfl ?_
    refine im_aload_n C 59 1 dX3_tryMove_58 rfl rfl rfl ?_
    refine gl_X3_65 C 62 (h0.1 27 (by decide) (by decide)) dX3_tryMove_59 rfl ?_
    refine im_wri C 63 12 (h0.2.1 4 (by decide) (by decide)) (fun _ => rfl) dX3_tryMove_62 rfl (fun D5 => ?_)
    refine im_aload_n C 64 1 dX3_tryMove_63 rfl rfl rfl ?_
    refine gl_X3_25 C 67 (h0.1 27 (by decide) (by decide)) dX3_tryMove_64 rfl ?_
    refine im_aload_n C 68 1 dX3_tryMove_67 rfl rfl rfl ?_
    refine gl_X3_12 C 71 (h0.1 27 (by decide) (by decide)) dX3_tryMove_68 rfl ?_
    refine im_cVV C 74 vk_X7_take gw_932 (c_X7_take (b := 2) (b1 := 8) hU h0.2.2.2 h0.2.1) (h0.2.2.2.1 16 (by decide) (by decide)) rfl rfl (rle rfl) rfl (st := []) rfl (Nat.le_of_ble_eq_true rfl) dX3_tryMove_71 rfl (fun D6 => ?_)
    refine im_aload_n C 75 1 dX3_tryMove_74 rfl rfl rfl ?_
    refine im_aload_n C 76 1 dX3_tryMove_75 rfl rfl rfl ?_
    refine gl_X3_25 C 79 (h0.1 27 (by decide) (by decide)) dX3_tryMove_76 rfl ?_
    refine gl_X3_48 C 82 (h0.2.2.2.1 16 (by decide) (by decide)) dX3_tryMove_79 rfl ?_
    refine im_cVP C 85 vk_X0_fragmentationIndex gw_938 (c_X0_fragmentationIndex (b := 2) hU h0.2.2.2.2) (h0.2.2.2.2 19 (by decide) (by decide)) rfl rfl (rle rfl) rfl (st := [.ref (ad 27 0)]) rfl (Nat.le_of_ble_eq_true rfl) dX3_tryMove_82 rfl (fun o7 => ?_)
    refine pl_X3_72 C 88 (h0.1 27 (by decide) (by decide)) dX3_tryMove_85 rfl (fun D8 => ?_)
    refine im_aload_n C 89 1 dX3_tryMove_88 rfl rfl rfl ?_
    refine gl_X3_12 C 92 (h0.1 27 (by decide) (by decide)) dX3_tryMove_89 rfl ?_
    refine gl_X3_45 C 95 (h0.2.1 1 (by decide) (by decide)) dX3_tryMove_92 rfl ?_
    refine im_iload_n C 96 2 dX3_tryMove_95 rfl rfl rfl ?_
    refine im_iload_n C 97 0 dX3_tryMove_96 rfl rfl rfl ?_
    refine im_wri C 98 12 (h0.2.1 4 (by decide) (by decide)) (fun _ => rfl) dX3_tryMove_97 rfl (fun D9 => ?_)
    refine im_iconst C 99 dX3_tryMove_98 rfl k_ic1 ?_
    exact im_iret C rfl rfl dX3_tryMove_99
  · refine im_iconst C 49 dX3_tryMove_48 rfl k_ic0 ?_
    exact im_iret C rfl rfl dX3_tryMove_49
set_option maxRecDepth 100000 in
set_option maxHeartbeats 4000000 in
theorem c_X3_findBest {l : Launch} {G : va_G} {ad : Nat → Nat → Nat} {U : List (Nat × Nat)} {D : Dt} (hU : Uinj ad U) (h0 : PlU U) : MI l G ad U yX3_findBest cX3_findBest 2 .boolean (k2_rm 5 110) [.ref (ad 27 0)] D (f_X3_findBest D) := by
  refine mI_of0 (lv := [(0, .ref (ad 27 0))]) (by decide) hU rfl (Nat.le_of_ble_eq_true rfl) (fun A p e s m args below meth c C => ?_)
  have C : Cx G ad U A p s m meth c args cX3_findBest RX3 2 (some .boolean) := C
  unfold f_X3_findBest
  refine im_aload_n C 1 0 dX3_findBest_0 rfl rfl rfl ?_
  refine im_iconst C 2 dX3_findBest_1 rfl k_icm1 ?_
  refine pl_X3_75 C 5 (h0.1 27 (by decide) (by decide)) dX3_findBest_2 rfl (fun D1 => ?_)
  refine im_aload_n C 6 0 dX3_findBest_5 rfl rfl rfl ?_
  refine im_aload_n C 7 0 dX3_findBest_6 rfl rfl rfl ?_
  refine gl_X3_21 C 10 (h0.1 27 (by decide) (by decide)) dX3_findBest_7 rfl ?_
  refine gl_X3_48 C 13 (h0.2.2.1.1 16 (by decide) (by decide)) dX3_findBest_10 rfl ?_
  refine im_cVP C 16 vk_X0_fragmentationIndex gw_938 (c_X0_fragmentationIndex (b := 1) hU h0.2.2.1.2) (h0.2.2.1.2 19 (by decide) (by decide)) rfl rfl (rle rfl) rfl (st := [.ref (ad 27 0)]) rfl (Nat.le_of_ble_eq_true rfl) dX3_findBest_13 rfl (fun o2 => ?_)
  refine pl_X3_78 C 19 (h0.1 27 (by decide) (by decide)) dX3_findBest_16 rfl (fun D3 => ?_)
  refine im_iconst C 20 dX3_findBest_19 rfl k_ic0 ?_
  refine im_istore_n C 21 [(1, .int (0 : Int32)), (0, .ref (ad 27 0))] dX3_findBest_20 rfl (by decide) rfl rfl ?_
  refine im_sub [1, 0] [(0, .ref (ad 27 0)), (1, .int (0 : Int32))] rfl ?_
  refine im_lpB l_X3_findBest_21 (fun z21 => [(0, .ref (ad 27 0)), (1, .int z21.1)]) (fun z21 => z21.2) 84 (fun e4 => [(0, .ref (ad 27 0))]) (fun e4 => e4) (fun e4 => ?_) (fun z21 X_z21 hX_z21 hE_z21 => ?_) FU ((0 : Int32), D3)
  · refine im_aload_n C 85 0 dX3_findBest_84 rfl rfl rfl ?_
    refine gl_X3_75 C 88 (h0.1 27 (by decide) (by decide)) dX3_findBest_85 rfl ?_
    refine im_iconst C 89 dX3_findBest_88 rfl k_icm1 ?_
    refine im_ic_eq C 96 92 dX3_findBest_89 rfl rfl ?_ ?_
    · refine im_iconst C 97 dX3_findBest_96 rfl k_ic0 ?_
      exact im_iret C rfl rfl dX3_findBest_97
    · refine im_iconst C 93 dX3_findBest_92 rfl k_ic1 ?_
      refine im_goto C 97 dX3_findBest_93 rfl ?_
      exact im_iret C rfl rfl dX3_findBest_97
  · unfold l_X3_findBest_21
    refine im_iload_n C 22 1 dX3_findBest_21 rfl rfl rfl ?_
    refine im_bipush C 24 dX3_findBest_22 rfl k_bp12 ?_
    refine im_ic_ge C 84 27 dX3_findBest_24 rfl rfl ?_ ?_
    · exact im_sub [0] [(0, .ref (ad 27 0))] rfl (hE_z21 z21.2)
    · refine im_aload_n C 28 0 dX3_findBest_27 rfl rfl rfl ?_
      refine gl_X3_12 C 31 (h0.1 27 (by decide) (by decide)) dX3_findBest_28 rfl ?_
      refine im_iload_n C 32 1 dX3_findBest_31 rfl rfl rfl ?_
      refine im_cVP C 35 vk_X5_isMovable gw_947 (c_X5_isMovable (b := 8) (x1 := z21.1) hU h0.2.1) (h0.2.1 1 (by decide) (by decide)) rfl rfl (rle rfl) rfl (st := []) rfl (Nat.le_of_ble_eq_true rfl) dX3_findBest_32 rfl (fun o5 => ?_)
      refine im_if_eq C 78 38 dX3_findBest_35 rfl rfl ?_ ?_
      · refine im_iinc C 81 1 [(1, .int (z21.1 + (1 : Int32))), (0, .ref (ad 27 0))] dX3_findBest_78 rfl (k_inc1) (by decide) rfl rfl ?_
        refine im_goto C 21 dX3_findBest_81 rfl ?_
        exact im_sub [1, 0] [(0, .ref (ad 27 0)), (1, .int (z21.1 + (1 : Int32)))] rfl (hX_z21 (z21.1 + (1 : Int32), z21.2))
      · refine im_aload_n C 39 0 dX3_findBest_38 rfl rfl rfl ?_
        refine im_iload_n C 40 1 dX3_findBest_39 rfl rfl rfl ?_
        refine im_cVI C 43 vk_X3_tryMove gw_948 (c_X3_tryMove (x1 := z21.1) hU h0) (h0.1 27 (by decide) (by decide)) rfl rfl (rle rfl) rfl (st := []) rfl (Nat.le_of_ble_eq_true rfl) dX3_findBest_40 rfl (fun o6 => ?_)
        refine im_if_eq C 78 46 dX3_findBest_43 rfl rfl ?_ ?_
        · refine im_iinc C 81 1 [(1, .int (z21.1 + (1 : Int32))), (0, .ref (ad 27 0))] dX3_findBest_78 rfl (k_inc1) (by decide) rfl rfl ?_
          refine im_goto C 21 dX3_findBest_81 rfl ?_
          exact im_sub [1, 0] [(0, .ref (ad 27 0)), (1, .int (z21.1 + (1 : Int32)))] rfl (hX_z21 (z21.1 + (1 : Int32), o6.2))
        · refine im_aload_n C 47 0 dX3_findBest_46 rfl rfl rfl ?_
          refine gl_X3_72 C 50 (h0.1 27 (by decide) (by decide)) dX3_findBest_47 rfl ?_
          refine im_aload_n C 51 0 dX3_findBest_50 rfl rfl rfl ?_
          refine gl_X3_78 C 54 (h0.1 27 (by decide) (by decide)) dX3_findBest_51 rfl ?_
          refine im_ic_ge C 78 57 dX3_findBest_54 rfl rfl ?_ ?_
          · refine im_iinc C 81 1 [(1, .int (z21.1 + (1 : Int32))), (0, .ref (ad 27 0))] dX3_findBest_78 rfl (k_inc1) (by decide) rfl rfl ?_
            refine im_goto C 21 dX3_findBest_81 rfl ?_
            exact im_sub [1, 0] [(0, .ref (ad 27 0)), (1, .int (z21.1 + (1 : Int32)))] rfl (hX_z21 (z21.1 + (1 : Int32), o6.2))
          · refine im_aload_n C 58 0 dX3_findBest_57 rfl rfl rfl ?_
            refine im_iload_n C 59 1 dX3_findBest_58 rfl rfl rfl ?_
            refine pl_X3_75 C 62 (h0.1 27 (by decide) (by decide)) dX3_findBest_59 rfl (fun D7 => ?_)
            refine im_aload_n C 63 0 dX3_findBest_62 rfl rfl rfl ?_
            refine im_aload_n C 64 0 dX3_findBest_63 rfl rfl rfl ?_
            refine gl_X3_65 C 67 (h0.1 27 (by decide) (by decide)) dX3_findBest_64 rfl ?_
            refine pl_X3_88 C 70 (h0.1 27 (by decide) (by decide)) dX3_findBest_67 rfl (fun D8 => ?_)
            refine im_aload_n C 71 0 dX3_findBest_70 rfl rfl rfl ?_
            refine im_aload_n C 72 0 dX3_findBest_71 rfl rfl rfl ?_
            refine gl_X3_72 C 75 (h0.1 27 (by decide) (by decide)) dX3_findBest_72 rfl ?_
            refine pl_X3_78 C 78 (h0.1 27 (by decide) (by decide)) dX3_findBest_75 rfl (fun D9 => ?_)
            refine im_iinc C 81 1 [(1, .int (z21.1 + (1 : Int32))), (0, .ref (ad 27 0))] dX3_findBest_78 rfl (k_inc1) (by decide) rfl rfl ?_
            refine im_goto C 21 dX3_findBest_81 rfl ?_
            exact im_sub [1, 0] [(0, .ref (ad 27 0)), (1, .int (z21.1 + (1 : Int32)))] rfl (hX_z21 (z21.1 + (1 : Int32), D9))
set_option maxRecDepth 100000 in
set_option maxHeartbeats 4000000 in
theorem c_X3_fillPlan {l : Launch} {G : va_G} {ad : Nat → Nat → Nat} {U : List (Nat × Nat)} {D : Dt} {b1 : Nat} {x2 : Int32} (hU : Uinj ad U) (h0 : PlU U) (h1 : SpU U b1) : MV l G ad U yX3_fillPlan cX3_fillPlan 4 (k2_rm 6 131) [.ref (ad 27 0), .ref (ad 1 b1), .int x2] D (f_X3_fillPlan b1 x2 D) := by
  refine mV_of0 (lv := [(0, .ref (ad 27 0)), (1, .ref (ad 1 b1)), (2, .int x2)]) (by decide) hU rfl (Nat.le_of_ble_eq_true rfl) (fun A p e s m args below meth c C => ?_)
  have C : Cx G ad U A p s m meth c args cX3_fillPlan RX3 4 none := C
  unfold f_X3_fillPlan
  refine im_aload_n C 1 0 dX3_fillPlan_0 rfl rfl rfl ?_
  refine im_iconst C 2 dX3_fillPlan_1 rfl k_ic0 ?_
  refine pl_X3_91 C 5 (h0.1 27 (by decide) (by decide)) dX3_fillPlan_2 rfl (fun D1 => ?_)
  refine im_aload_n C 6 0 dX3_fillPlan_5 rfl rfl rfl ?_
  refine im_aload_n C 7 1 dX3_fillPlan_6 rfl rfl rfl ?_
  refine im_cVV C 10 vk_X3_imagine gw_957 (c_X3_imagine (b1 := b1) hU h0 h1) (h0.1 27 (by decide) (by decide)) rfl rfl (rle rfl) rfl (st := []) rfl (Nat.le_of_ble_eq_true rfl) dX3_fillPlan_7 rfl (fun D2 => ?_)
  refine im_iconst C 11 dX3_fillPlan_10 rfl k_ic0 ?_
  refine im_istore_n C 12 [(3, .int (0 : Int32)), (0, .ref (ad 27 0)), (1, .ref (ad 1 b1)), (2, .int x2)] dX3_fillPlan_11 rfl (by decide) rfl rfl ?_
  refine im_sub [1, 3, 0] [(0, .ref (ad 27 0)), (2, .int x2), (3, .int (0 : Int32))] rfl ?_
  refine im_lpB (l_X3_fillPlan_12 x2) (fun z12 => [(0, .ref (ad 27 0)), (2, .int x2), (3, .int z12.1)]) (fun z12 => z12.2) 113 (fun e3 => []) (fun e3 => e3) (fun e3 => ?_) (fun z12 X_z12 hX_z12 hE_z12 => ?_) FU ((0 : Int32), D2)
  · exact im_vret C rfl dX3_fillPlan_113
  · unfold l_X3_fillPlan_12
    refine im_iload_n C 13 2 dX3_fillPlan_12 rfl rfl rfl ?_
    refine im_iload_n C 14 1 dX3_fillPlan_13 rfl rfl rfl ?_
    refine im_ic_ge C 113 17 dX3_fillPlan_14 rfl rfl ?_ ?_
    · exact im_sub [] [] rfl (hE_z12 z12.2)
    · refine im_iload_n C 18 2 dX3_fillPlan_17 rfl rfl rfl ?_
      refine im_bipush C 20 dX3_fillPlan_18 rfl k_bp12 ?_
      refine im_ic_ge C 113 23 dX3_fillPlan_20 rfl rfl ?_ ?_
      · exact im_sub [] [] rfl (hE_z12 z12.2)
      · refine im_aload_n C 24 0 dX3_fillPlan_23 rfl rfl rfl ?_
        refine im_cVI C 27 vk_X3_findBest gw_958 (c_X3_findBest  hU h0) (h0.1 27 (by decide) (by decide)) rfl rfl (rle rfl) rfl (st := []) rfl (Nat.le_of_ble_eq_true rfl) dX3_fillPlan_24 rfl (fun o4 => ?_)
        refine im_if_eq C 113 30 dX3_fillPlan_27 rfl rfl ?_ ?_
        · exact im_sub [] [] rfl (hE_z12 o4.2)
        · refine im_aload_n C 31 0 dX3_fillPlan_30 rfl rfl rfl ?_
          refine gl_X3_28 C 34 (h0.1 27 (by decide) (by decide)) dX3_fillPlan_31 rfl ?_
          refine im_iload_n C 35 2 dX3_fillPlan_34 rfl rfl rfl ?_
          refine im_aload_n C 36 0 dX3_fillPlan_35 rfl rfl rfl ?_
          refine gl_X3_75 C 39 (h0.1 27 (by decide) (by decide)) dX3_fillPlan_36 rfl ?_
          refine im_wri C 40 12 (h0.1 28 (by decide) (by decide)) (fun _ => rfl) dX3_fillPlan_39 rfl (fun D5 => ?_)
          refine im_aload_n C 41 0 dX3_fillPlan_40 rfl rfl rfl ?_
          refine gl_X3_32 C 44 (h0.1 27 (by decide) (by decide)) dX3_fillPlan_41 rfl ?_
          refine im_iload_n C 45 2 dX3_fillPlan_44 rfl rfl rfl ?_
          refine im_aload_n C 46 0 dX3_fillPlan_45 rfl rfl rfl ?_
          refine gl_X3_88 C 49 (h0.1 27 (by decide) (by decide)) dX3_fillPlan_46 rfl ?_
          refine im_wri C 50 12 (h0.1 29 (by decide) (by decide)) (fun _ => rfl) dX3_fillPlan_49 rfl (fun D6 => ?_)
          refine im_aload_n C 51 0 dX3_fillPlan_50 rfl rfl rfl ?_
          refine gl_X3_35 C 54 (h0.1 27 (by decide) (by decide)) dX3_fillPlan_51 rfl ?_
          refine im_iload_n C 55 2 dX3_fillPlan_54 rfl rfl rfl ?_
          refine im_aload_n C 56 0 dX3_fillPlan_55 rfl rfl rfl ?_
          refine gl_X3_78 C 59 (h0.1 27 (by decide) (by decide)) dX3_fillPlan_56 rfl ?_
          refine im_wri C 60 12 (h0.1 30 (by decide) (by decide)) (fun _ => rfl) dX3_fillPlan_59 rfl (fun D7 => ?_)
          refine im_aload_n C 61 0 dX3_fillPlan_60 rfl rfl rfl ?_
          refine im_dup C 62 dX3_fillPlan_61 rfl rfl ?_
          refine gl_X3_91 C 65 (h0.1 27 (by decide) (by decide)) dX3_fillPlan_62 rfl ?_
          refine im_iconst C 66 dX3_fillPlan_65 rfl k_ic1 ?_
          refine im_iadd C 67 dX3_fillPlan_66 rfl ?_
          refine pl_X3_91 C 70 (h0.1 27 (by decide) (by decide)) dX3_fillPlan_67 rfl (fun D8 => ?_)
          refine im_aload_n C 71 0 dX3_fillPlan_70 rfl rfl rfl ?_
          refine gl_X3_75 C 74 (h0.1 27 (by decide) (by decide)) dX3_fillPlan_71 rfl ?_
          refine im_cSNP C 77 sk_X9_isNetwork gw_959 (c_X9_isNetwork (x0 := D8 27 0 5) hU) (rle rfl) rfl (st := []) rfl (Nat.le_of_ble_eq_true rfl) dX3_fillPlan_74 rfl (fun o9 => ?_)
          refine im_if_eq C 107 80 dX3_fillPlan_77 rfl rfl ?_ ?_
          · refine im_iinc C 110 2 [(3, .int (z12.1 + (1 : Int32))), (0, .ref (ad 27 0)), (2, .int x2)] dX3_fillPlan_107 rfl (k_inc1) (by decide) rfl rfl ?_
            refine im_goto C 12 dX3_fillPlan_110 rfl ?_
            exact im_sub [1, 2, 0] [(0, .ref (ad 27 0)), (2, .int x2), (3, .int (z12.1 + (1 : Int32)))] rfl (hX_z12 (z12.1 + (1 : Int32), D8))
          · refine im_aload_n C 81 0 dX3_fillPlan_80 rfl rfl rfl ?_
            refine gl_X3_12 C 84 (h0.1 27 (by decide) (by decide)) dX3_fillPlan_81 rfl ?_
            refine gl_X3_45 C 87 (h0.2.1 1 (by decide) (by decide)) dX3_fillPlan_84 rfl ?_
            refine im_aload_n C 88 0 dX3_fillPlan_87 rfl rfl rfl ?_
            refine gl_X3_75 C 91 (h0.1 27 (by decide) (by decide)) dX3_fillPlan_88 rfl ?_
            refine im_aload_n C 92 0 dX3_fillPlan_91 rfl rfl rfl ?_
            refine gl_X3_88 C 95 (h0.1 27 (by decide) (by decide)) dX3_fillPlan_92 rfl ?_
            refine im_wri C 96 12 (h0.2.1 4 (by decide) (by decide)) (fun _ => rfl) dX3_fillPlan_95 rfl (fun D10 => ?_)
            refine im_aload_n C 97 0 dX3_fillPlan_96 rfl rfl rfl ?_
            refine gl_X3_21 C 100 (h0.1 27 (by decide) (by decide)) dX3_fillPlan_97 rfl ?_
            refine im_aload_n C 101 0 dX3_fillPlan_100 rfl rfl rfl ?_
            refine gl_X3_12 C 104 (h0.1 27 (by decide) (by decide)) dX3_fillPlan_101 rfl ?_
            refine im_cVV C 107 vk_X7_take gw_932 (c_X7_take (b := 1) (b1 := 8) hU h0.2.2.1 h0.2.1) (h0.2.2.1.1 16 (by decide) (by decide)) rfl rfl (rle rfl) rfl (st := []) rfl (Nat.le_of_ble_eq_true rfl) dX3_fillPlan_104 rfl (fun D11 => ?_)
            refine im_iinc C 110 2 [(3, .int (z12.1 + (1 : Int32))), (0, .ref (ad 27 0)), (2, .int x2)] dX3_fillPlan_107 rfl (k_inc1) (by decide) rfl rfl ?_
            refine im_goto C 12 dX3_fillPlan_110 rfl ?_
            exact im_sub [1, 2, 0] [(0, .ref (ad 27 0)), (2, .int x2), (3, .int (z12.1 + (1 : Int32)))] rfl (hX_z12 (z12.1 + (1 : Int32), D11))
set_option maxRecDepth 100000 in
set_option maxHeartbeats 4000000 in
theorem c_X3_isPlanned {l : Launch} {G : va_G} {ad : Nat → Nat → Nat} {U : List (Nat × Nat)} {D : Dt} {x1 : Int32} (hU : Uinj ad U) (h0 : PlU U) : MI l G ad U yX3_isPlanned cX3_isPlanned 2 .boolean (k2_rm 0 0) [.ref (ad 27 0), .int x1] D ((f_X3_isPlanned x1 D).bind (fun r => some (r, D))) := by
  refine mI_of (lv := [(0, .ref (ad 27 0)), (1, .int x1)]) (by decide) hU rfl (Nat.le_of_ble_eq_true rfl) (fun A p e s m args below meth c C => ?_)
  have C : Cx G ad U A p s m meth c args cX3_isPlanned RX3 2 (some .boolean) := C
  unfold f_X3_isPlanned
  refine im_iload_n C 1 1 dX3_isPlanned_0 rfl rfl rfl ?_
  refine im_if_lt C 22 4 dX3_isPlanned_1 rfl rfl ?_ ?_
  · refine im_iconst C 23 dX3_isPlanned_22 rfl k_ic0 ?_
    exact im_iret C rfl rfl dX3_isPlanned_23
  · refine im_iload_n C 5 1 dX3_isPlanned_4 rfl rfl rfl ?_
    refine im_aload_n C 6 0 dX3_isPlanned_5 rfl rfl rfl ?_
    refine gl_X3_91 C 9 (h0.1 27 (by decide) (by decide)) dX3_isPlanned_6 rfl ?_
    refine im_ic_ge C 22 12 dX3_isPlanned_9 rfl rfl ?_ ?_
    · refine im_iconst C 23 dX3_isPlanned_22 rfl k_ic0 ?_
      exact im_iret C rfl rfl dX3_isPlanned_23
    · refine im_iload_n C 13 1 dX3_isPlanned_12 rfl rfl rfl ?_
      refine im_bipush C 15 dX3_isPlanned_13 rfl k_bp12 ?_
      refine im_ic_ge C 22 18 dX3_isPlanned_15 rfl rfl ?_ ?_
      · refine im_iconst C 23 dX3_isPlanned_22 rfl k_ic0 ?_
        exact im_iret C rfl rfl dX3_isPlanned_23
      · refine im_iconst C 19 dX3_isPlanned_18 rfl k_ic1 ?_
        refine im_goto C 23 dX3_isPlanned_19 rfl ?_
        exact im_iret C rfl rfl dX3_isPlanned_23
set_option maxRecDepth 100000 in
set_option maxHeartbeats 4000000 in
theorem c_X3_planPart {l : Launch} {G : va_G} {ad : Nat → Nat → Nat} {U : List (Nat × Nat)} {D : Dt} {x1 : Int32} {x2 : Int32} (hU : Uinj ad U) (h0 : PlU U) : MI l G ad U yX3_planPart cX3_planPart 3 .int (k2_rm 0 0) [.ref (ad 27 0), .int x1, .int x2] D ((f_X3_planPart x1 x2 D).bind (fun r => some (r, D))) := by
  refine mI_of (lv := [(0, .ref (ad 27 0)), (1, .int x1), (2, .int x2)]) (by decide) hU rfl (Nat.le_of_ble_eq_true rfl) (fun A p e s m args below meth c C => ?_)
  have C : Cx G ad U A p s m meth c args cX3_planPart RX3 3 (some .int) := C
  unfold f_X3_planPart
  refine im_iload_n C 1 2 dX3_planPart_0 rfl rfl rfl ?_
  refine im_ite (fun s1_0 => ?_) (fun s1_0 => ?_)
  · refine im_look C 28 dX3_planPart_1 (by decide) (by rw [s1_0]) rfl ?_
    refine im_aload_n C 29 0 dX3_planPart_28 rfl rfl rfl ?_
    refine gl_X3_28 C 32 (h0.1 27 (by decide) (by decide)) dX3_planPart_29 rfl ?_
    refine im_iload_n C 33 1 dX3_planPart_32 rfl rfl rfl ?_
    refine im_rdi C 34 12 (h0.1 28 (by decide) (by decide)) rfl dX3_planPart_33 rfl (fun v1 => ?_)
    exact im_iret C rfl rfl dX3_planPart_34
  · refine im_ite (fun s1_1 => ?_) (fun s1_1 => ?_)
    · refine im_look C 35 dX3_planPart_1 (by decide) (by rw [s1_1]) rfl ?_
      refine im_aload_n C 36 0 dX3_planPart_35 rfl rfl rfl ?_
      refine gl_X3_32 C 39 (h0.1 27 (by decide) (by decide)) dX3_planPart_36 rfl ?_
      refine im_iload_n C 40 1 dX3_planPart_39 rfl rfl rfl ?_
      refine im_rdi C 41 12 (h0.1 29 (by decide) (by decide)) rfl dX3_planPart_40 rfl (fun v2 => ?_)
      exact im_iret C rfl rfl dX3_planPart_41
    · refine im_look C 42 dX3_planPart_1 (by decide) (look2 s1_0 s1_1) rfl ?_
      refine im_aload_n C 43 0 dX3_planPart_42 rfl rfl rfl ?_
      refine gl_X3_35 C 46 (h0.1 27 (by decide) (by decide)) dX3_planPart_43 rfl ?_
      refine im_iload_n C 47 1 dX3_planPart_46 rfl rfl rfl ?_
      refine im_rdi C 48 12 (h0.1 30 (by decide) (by decide)) rfl dX3_planPart_47 rfl (fun v3 => ?_)
      exact im_iret C rfl rfl dX3_planPart_48
set_option maxRecDepth 100000 in
set_option maxHeartbeats 4000000 in
theorem c_X1_giveBack {l : Launch} {G : va_G} {ad : Nat → Nat → Nat} {U : List (Nat × Nat)} {D : Dt} {b1 : Nat} (hU : Uinj ad U) (h0 : HiU U) (h1 : StU U b1) : MV l G ad U yX1_giveBack cX1_giveBack 4 (k2_rm 4 123) [.ref (ad 24 0), .ref (ad 0 b1)] D (f_X1_giveBack b1 D) := by
  refine mV_of0 (lv := [(0, .ref (ad 24 0)), (1, .ref (ad 0 b1))]) (by decide) hU rfl (Nat.le_of_ble_eq_true rfl) (fun A p e s m args below meth c C => ?_)
  have C : Cx G ad U A p s m meth c args cX1_giveBack RX1 4 none := C
  unfold f_X1_giveBack
  refine im_aload_n C 1 0 dX1_giveBack_0 rfl rfl rfl ?_
  refine gl_X1_18 C 4 (h0.1 24 (by decide) (by decide)) dX1_giveBack_1 rfl ?_
  refine im_bipush C 6 dX1_giveBack_4 rfl k_bp6 ?_
  refine im_iadd C 7 dX1_giveBack_6 rfl ?_
  refine im_iconst C 8 dX1_giveBack_7 rfl k_ic1 ?_
  refine im_isub C 9 dX1_giveBack_8 rfl ?_
  refine im_bipush C 11 dX1_giveBack_9 rfl k_bp6 ?_
  refine im_irem C 12 dX1_giveBack_11 rfl ?_
  refine im_letV (fun v1 => ?_)
  refine im_istore_n C 13 [(2, .int v1), (0, .ref (ad 24 0)), (1, .ref (ad 0 b1))] dX1_giveBack_12 rfl (by decide) rfl rfl ?_
  refine im_aload_n C 14 1 dX1_giveBack_13 rfl rfl rfl ?_
  refine im_iload_n C 15 0 dX1_giveBack_14 rfl rfl rfl ?_
  refine im_cVR C 18 vk_X1_stateAt gw_579 (c_X1_stateAt (x1 := v1) hU h0) (h0.1 24 (by decide) (by decide)) rfl rfl (rle rfl) rfl (st := []) rfl (Nat.le_of_ble_eq_true rfl) dX1_giveBack_15 rfl (fun o2 => ?_)
  refine im_gd (fun hgo2 => ?_)
  refine im_astore_n C 19 [(3, .ref (ad 0 o2.1)), (2, .int v1), (0, .ref (ad 24 0)), (1, .ref (ad 0 b1))] dX1_giveBack_18 rfl (by decide) rfl rfl ?_
  refine im_aload_n C 20 0 dX1_giveBack_19 rfl rfl rfl ?_
  refine im_ifnull C 23 dX1_giveBack_20 rfl ?_
  refine im_aload_n C 24 2 dX1_giveBack_23 rfl rfl rfl ?_
  refine gl_X1_30 C 27 (h0.1 24 (by decide) (by decide)) dX1_giveBack_24 rfl ?_
  refine im_if_le C 50 30 dX1_giveBack_27 rfl rfl ?_ ?_
  · exact im_vret C rfl dX1_giveBack_50
  · refine im_aload_n C 31 3 dX1_giveBack_30 rfl rfl rfl ?_
    refine im_aload_n C 32 0 dX1_giveBack_31 rfl rfl rfl ?_
    refine im_cVV C 35 vk_X6_copyFrom gw_584 (c_X6_copyFrom (b := b1) (b1 := o2.1) hU h1 (ring_at h0 hgo2)) (h1.1 0 (by decide) (by decide)) rfl rfl (rle rfl) rfl (st := []) rfl (Nat.le_of_ble_eq_true rfl) dX1_giveBack_32 rfl (fun D3 => ?_)
    refine im_aload_n C 36 2 dX1_giveBack_35 rfl rfl rfl ?_
    refine im_iload_n C 37 1 dX1_giveBack_36 rfl rfl rfl ?_
    refine pl_X1_18 C 40 (h0.1 24 (by decide) (by decide)) dX1_giveBack_37 rfl (fun D4 => ?_)
    refine im_aload_n C 41 2 dX1_giveBack_40 rfl rfl rfl ?_
    refine im_dup C 42 dX1_giveBack_41 rfl rfl ?_
    refine gl_X1_30 C 45 (h0.1 24 (by decide) (by decide)) dX1_giveBack_42 rfl ?_
    refine im_iconst C 46 dX1_giveBack_45 rfl k_ic1 ?_
    refine im_isub C 47 dX1_giveBack_46 rfl ?_
    refine pl_X1_30 C 50 (h0.1 24 (by decide) (by decide)) dX1_giveBack_47 rfl (fun D5 => ?_)
    exact im_vret C rfl dX1_giveBack_50
