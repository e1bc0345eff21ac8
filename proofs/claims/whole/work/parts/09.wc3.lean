set_option maxRecDepth 100000 in
set_option maxHeartbeats 4000000 in
theorem c_X10_request {l : Launch} {G : va_G} {ad : Nat → Nat → Nat} {U : List (Nat × Nat)} {D : Dt} {x1 : Int32} (hU : Uinj ad U) (h0 : MoU U) : MI l G ad U yX10_request cX10_request 5 .int (k2_rm 3 69) [.ref (ad 32 0), .int x1] D (f_X10_request x1 D) := by
  refine mI_of0 (lv := [(0, .ref (ad 32 0)), (1, .int x1)]) (by decide) hU rfl (Nat.le_of_ble_eq_true rfl) (fun A p e s m args below meth c C => ?_)
  have C : Cx G ad U A p s m meth c args cX10_request RX10 5 (some .int) := C
  unfold f_X10_request
  refine im_iload_n C 1 1 dX10_request_0 rfl rfl rfl ?_
  refine im_cSP C 4 sk_X10_isHost gw_1287 (c_X10_isHost (x0 := x1) hU) (rle rfl) rfl (st := []) rfl (Nat.le_of_ble_eq_true rfl) dX10_request_1 rfl (fun o1 => ?_)
  refine im_if_ne C 9 7 dX10_request_4 rfl rfl ?_ ?_
  · refine im_iload_n C 10 1 dX10_request_9 rfl rfl rfl ?_
    refine im_cSP C 13 sk_X10_hostAt gw_997 (c_X10_hostAt (x0 := x1) hU) (rle rfl) rfl (st := []) rfl (Nat.le_of_ble_eq_true rfl) dX10_request_10 rfl (fun o2 => ?_)
    refine im_istore_n C 14 [(2, .int o2), (0, .ref (ad 32 0)), (1, .int x1)] dX10_request_13 rfl (by decide) rfl rfl ?_
    refine im_aload_n C 15 1 dX10_request_14 rfl rfl rfl ?_
    refine gl_X10_7 C 18 (h0 32 (by decide) (by decide)) dX10_request_15 rfl ?_
    refine im_iload_n C 19 0 dX10_request_18 rfl rfl rfl ?_
    refine im_rdi C 20 170 (h0 33 (by decide) (by decide)) rfl dX10_request_19 rfl (fun v3 => ?_)
    refine im_if_ge C 26 23 dX10_request_20 rfl rfl ?_ ?_
    · refine im_aload_n C 27 1 dX10_request_26 rfl rfl rfl ?_
      refine gl_X10_7 C 30 (h0 32 (by decide) (by decide)) dX10_request_27 rfl ?_
      refine im_iconst C 31 dX10_request_30 rfl k_ic0 ?_
      refine im_rdi C 32 170 (h0 33 (by decide) (by decide)) rfl dX10_request_31 rfl (fun v4 => ?_)
      refine im_aload_n C 33 1 dX10_request_32 rfl rfl rfl ?_
      refine gl_X10_7 C 36 (h0 32 (by decide) (by decide)) dX10_request_33 rfl ?_
      refine im_iconst C 37 dX10_request_36 rfl k_ic1 ?_
      refine im_rdi C 38 170 (h0 33 (by decide) (by decide)) rfl dX10_request_37 rfl (fun v5 => ?_)
      refine im_iadd C 39 dX10_request_38 rfl ?_
      refine im_istore_n C 40 [(3, .int (v4 + v5)), (2, .int o2), (0, .ref (ad 32 0)), (1, .int x1)] dX10_request_39 rfl (by decide) rfl rfl ?_
      refine im_aload_n C 41 2 dX10_request_40 rfl rfl rfl ?_
      refine gl_X10_7 C 44 (h0 32 (by decide) (by decide)) dX10_request_41 rfl ?_
      refine im_iload_n C 45 1 dX10_request_44 rfl rfl rfl ?_
      refine im_iconst C 46 dX10_request_45 rfl k_ic2 ?_
      refine im_iadd C 47 dX10_request_46 rfl ?_
      refine im_rdi C 48 170 (h0 33 (by decide) (by decide)) rfl dX10_request_47 rfl (fun v6 => ?_)
      refine im_if_ge C 127 51 dX10_request_48 rfl rfl ?_ ?_
      · refine im_aload_n C 128 2 dX10_request_127 rfl rfl rfl ?_
        refine gl_X10_7 C 131 (h0 32 (by decide) (by decide)) dX10_request_128 rfl ?_
        refine im_iload_n C 132 1 dX10_request_131 rfl rfl rfl ?_
        refine im_iconst C 133 dX10_request_132 rfl k_ic2 ?_
        refine im_iadd C 134 dX10_request_133 rfl ?_
        refine im_rdi C 135 170 (h0 33 (by decide) (by decide)) rfl dX10_request_134 rfl (fun v7 => ?_)
        refine im_jn 154 (fun t8 => [(0, .ref (ad 32 0)), (2, .int o2), (3, .int (v4 + v5))]) (fun t8 => [.int t8]) (fun t8 => D) (fun t8 => j_X10_request_154_t8 D o2 v4 v5 t8) (fun t8 => ?_) (fun ht8 => ?_)
        · unfold j_X10_request_154_t8
          refine im_istore C 156 [(4, .int t8), (0, .ref (ad 32 0)), (2, .int o2), (3, .int (v4 + v5))] dX10_request_154 (by decide) rfl rfl ?_
          refine im_iload C 158 0 dX10_request_156 rfl rfl ?_
          refine im_if_ge C 164 161 dX10_request_158 rfl rfl ?_ ?_
          · refine im_aload_n C 165 1 dX10_request_164 rfl rfl rfl ?_
            refine im_cVV C 168 vk_X10_note gw_1172 (c_X10_note  hU h0) (h0 32 (by decide) (by decide)) rfl rfl (rle rfl) rfl (st := []) rfl (Nat.le_of_ble_eq_true rfl) dX10_request_165 rfl (fun D9 => ?_)
            refine im_aload_n C 169 1 dX10_request_168 rfl rfl rfl ?_
            refine gl_X10_7 C 172 (h0 32 (by decide) (by decide)) dX10_request_169 rfl ?_
            refine im_iload_n C 173 2 dX10_request_172 rfl rfl rfl ?_
            refine im_iconst C 174 dX10_request_173 rfl k_ic2 ?_
            refine im_iadd C 175 dX10_request_174 rfl ?_
            refine im_iload C 177 0 dX10_request_175 rfl rfl ?_
            refine im_wri C 178 170 (h0 33 (by decide) (by decide)) (fun _ => rfl) dX10_request_177 rfl (fun D10 => ?_)
            refine im_aload_n C 179 1 dX10_request_178 rfl rfl rfl ?_
            refine gl_X10_7 C 182 (h0 32 (by decide) (by decide)) dX10_request_179 rfl ?_
            refine im_iload_n C 183 2 dX10_request_182 rfl rfl rfl ?_
            refine im_iconst C 184 dX10_request_183 rfl k_ic2 ?_
            refine im_iadd C 185 dX10_request_184 rfl ?_
            refine im_iconst C 186 dX10_request_185 rfl k_ic1 ?_
            refine im_iadd C 187 dX10_request_186 rfl ?_
            refine im_iload_n C 188 3 dX10_request_187 rfl rfl rfl ?_
            refine im_wri C 189 170 (h0 33 (by decide) (by decide)) (fun _ => rfl) dX10_request_188 rfl (fun D11 => ?_)
            refine im_iload C 191 0 dX10_request_189 rfl rfl ?_
            exact im_iret C rfl rfl dX10_request_191
          · refine im_bipush C 163 dX10_request_161 rfl k_bpm3 ?_
            exact im_iret C rfl rfl dX10_request_163
        · refine im_if_lt C 149 138 dX10_request_135 rfl rfl ?_ ?_
          · refine im_aload_n C 150 2 dX10_request_149 rfl rfl rfl ?_
            refine im_iload_n C 151 3 dX10_request_150 rfl rfl rfl ?_
            refine im_cVP C 154 vk_X10_newAddress gw_1298 (c_X10_newAddress (x1 := x1) hU h0) (h0 32 (by decide) (by decide)) rfl rfl (rle rfl) rfl (st := []) rfl (Nat.le_of_ble_eq_true rfl) dX10_request_151 rfl (fun o12 => ?_)
            exact im_sub [2, 1, 0] [(0, .ref (ad 32 0)), (2, .int o2), (3, .int (v4 + v5))] rfl (ht8 o12)
          · refine im_aload_n C 139 2 dX10_request_138 rfl rfl rfl ?_
            refine gl_X10_7 C 142 (h0 32 (by decide) (by decide)) dX10_request_139 rfl ?_
            refine im_iload_n C 143 1 dX10_request_142 rfl rfl rfl ?_
            refine im_iconst C 144 dX10_request_143 rfl k_ic2 ?_
            refine im_iadd C 145 dX10_request_144 rfl ?_
            refine im_rdi C 146 170 (h0 33 (by decide) (by decide)) rfl dX10_request_145 rfl (fun v13 => ?_)
            refine im_goto C 154 dX10_request_146 rfl ?_
            exact im_sub [2, 1, 0] [(0, .ref (ad 32 0)), (2, .int o2), (3, .int (v4 + v5))] rfl (ht8 v13)
      · refine im_aload_n C 52 2 dX10_request_51 rfl rfl rfl ?_
        refine gl_X10_7 C 55 (h0 32 (by decide) (by decide)) dX10_request_52 rfl ?_
        refine im_iload_n C 56 1 dX10_request_55 rfl rfl rfl ?_
        refine im_iconst C 57 dX10_request_56 rfl k_ic1 ?_
        refine im_iadd C 58 dX10_request_57 rfl ?_
        refine im_rdi C 59 170 (h0 33 (by decide) (by decide)) rfl dX10_request_58 rfl (fun v14 => ?_)
        refine im_iconst C 60 dX10_request_59 rfl k_ic1 ?_
        refine im_ic_ne C 127 63 dX10_request_60 rfl rfl ?_ ?_
        · refine im_aload_n C 128 2 dX10_request_127 rfl rfl rfl ?_
          refine gl_X10_7 C 131 (h0 32 (by decide) (by decide)) dX10_request_128 rfl ?_
          refine im_iload_n C 132 1 dX10_request_131 rfl rfl rfl ?_
          refine im_iconst C 133 dX10_request_132 rfl k_ic2 ?_
          refine im_iadd C 134 dX10_request_133 rfl ?_
          refine im_rdi C 135 170 (h0 33 (by decide) (by decide)) rfl dX10_request_134 rfl (fun v15 => ?_)
          refine im_jn 154 (fun t16 => [(0, .ref (ad 32 0)), (2, .int o2), (3, .int (v4 + v5))]) (fun t16 => [.int t16]) (fun t16 => D) (fun t16 => j_X10_request_154_t16 D o2 v4 v5 t16) (fun t16 => ?_) (fun ht16 => ?_)
          · unfold j_X10_request_154_t16
            refine im_istore C 156 [(4, .int t16), (0, .ref (ad 32 0)), (2, .int o2), (3, .int (v4 + v5))] dX10_request_154 (by decide) rfl rfl ?_
            refine im_iload C 158 0 dX10_request_156 rfl rfl ?_
            refine im_if_ge C 164 161 dX10_request_158 rfl rfl ?_ ?_
            · refine im_aload_n C 165 1 dX10_request_164 rfl rfl rfl ?_
              refine im_cVV C 168 vk_X10_note gw_1172 (c_X10_note  hU h0) (h0 32 (by decide) (by decide)) rfl rfl (rle rfl) rfl (st := []) rfl (Nat.le_of_ble_eq_true rfl) dX10_request_165 rfl (fun D17 => ?_)
              refine im_aload_n C 169 1 dX10_request_168 rfl rfl rfl ?_
              refine gl_X10_7 C 172 (h0 32 (by decide) (by decide)) dX10_request_169 rfl ?_
              refine im_iload_n C 173 2 dX10_request_172 rfl rfl rfl ?_
              refine im_iconst C 174 dX10_request_173 rfl k_ic2 ?_
              refine im_iadd C 175 dX10_request_174 rfl ?_
              refine im_iload C 177 0 dX10_request_175 rfl rfl ?_
              refine im_wri C 178 170 (h0 33 (by decide) (by decide)) (fun _ => rfl) dX10_request_177 rfl (fun D18 => ?_)
              refine im_aload_n C 179 1 dX10_request_178 rfl rfl rfl ?_
              refine gl_X10_7 C 182 (h0 32 (by decide) (by decide)) dX10_request_179 rfl ?_
              refine im_iload_n C 183 2 dX10_request_182 rfl rfl rfl ?_
              refine im_iconst C 184 dX10_request_183 rfl k_ic2 ?_
              refine im_iadd C 185 dX10_request_184 rfl ?_
              refine im_iconst C 186 dX10_request_185 rfl k_ic1 ?_
              refine im_iadd C 187 dX10_request_186 rfl ?_
              refine im_iload_n C 188 3 dX10_request_187 rfl rfl rfl ?_
              refine im_wri C 189 170 (h0 33 (by decide) (by decide)) (fun _ => rfl) dX10_request_188 rfl (fun D19 => ?_)
              refine im_iload C 191 0 dX10_request_189 rfl rfl ?_
              exact im_iret C rfl rfl dX10_request_191
            · refine im_bipush C 163 dX10_request_161 rfl k_bpm3 ?_
              exact im_iret C rfl rfl dX10_request_163
          · refine im_if_lt C 149 138 dX10_request_135 rfl rfl ?_ ?_
            · refine im_aload_n C 150 2 dX10_request_149 rfl rfl rfl ?_
              refine im_iload_n C 151 3 dX10_request_150 rfl rfl rfl ?_
              refine im_cVP C 154 vk_X10_newAddress gw_1298 (c_X10_newAddress (x1 := x1) hU h0) (h0 32 (by decide) (by decide)) rfl rfl (rle rfl) rfl (st := []) rfl (Nat.le_of_ble_eq_true rfl) dX10_request_151 rfl (fun o20 => ?_)
              exact im_sub [2, 1, 0] [(0, .ref (ad 32 0)), (2, .int o2), (3, .int (v4 + v5))] rfl (ht16 o20)
            · refine im_aload_n C 139 2 dX10_request_138 rfl rfl rfl ?_
              refine gl_X10_7 C 142 (h0 32 (by decide) (by decide)) dX10_request_139 rfl ?_
              refine im_iload_n C 143 1 dX10_request_142 rfl rfl rfl ?_
              refine im_iconst C 144 dX10_request_143 rfl k_ic2 ?_
              refine im_iadd C 145 dX10_request_144 rfl ?_
              refine im_rdi C 146 170 (h0 33 (by decide) (by decide)) rfl dX10_request_145 rfl (fun v21 => ?_)
              refine im_goto C 154 dX10_request_146 rfl ?_
              exact im_sub [2, 1, 0] [(0, .ref (ad 32 0)), (2, .int o2), (3, .int (v4 + v5))] rfl (ht16 v21)
        · refine im_aload_n C 64 2 dX10_request_63 rfl rfl rfl ?_
          refine gl_X10_7 C 67 (h0 32 (by decide) (by decide)) dX10_request_64 rfl ?_
          refine im_iload_n C 68 1 dX10_request_67 rfl rfl rfl ?_
          refine im_iconst C 69 dX10_request_68 rfl k_ic4 ?_
          refine im_iadd C 70 dX10_request_69 rfl ?_
          refine im_rdi C 71 170 (h0 33 (by decide) (by decide)) rfl dX10_request_70 rfl (fun v22 => ?_)
          refine im_if_lt C 127 74 dX10_request_71 rfl rfl ?_ ?_
          · refine im_aload_n C 128 2 dX10_request_127 rfl rfl rfl ?_
            refine gl_X10_7 C 131 (h0 32 (by decide) (by decide)) dX10_request_128 rfl ?_
            refine im_iload_n C 132 1 dX10_request_131 rfl rfl rfl ?_
            refine im_iconst C 133 dX10_request_132 rfl k_ic2 ?_
            refine im_iadd C 134 dX10_request_133 rfl ?_
            refine im_rdi C 135 170 (h0 33 (by decide) (by decide)) rfl dX10_request_134 rfl (fun v23 => ?_)
            refine im_jn 154 (fun t24 => [(0, .ref (ad 32 0)), (2, .int o2), (3, .int (v4 + v5))]) (fun t24 => [.int t24]) (fun t24 => D) (fun t24 => j_X10_request_154_t24 D o2 v4 v5 t24) (fun t24 => ?_) (fun ht24 => ?_)
            · unfold j_X10_request_154_t24
              refine im_istore C 156 [(4, .int t24), (0, .ref (ad 32 0)), (2, .int o2), (3, .int (v4 + v5))] dX10_request_154 (by decide) rfl rfl ?_
              refine im_iload C 158 0 dX10_request_156 rfl rfl ?_
              refine im_if_ge C 164 161 dX10_request_158 rfl rfl ?_ ?_
              · refine im_aload_n C 165 1 dX10_request_164 rfl rfl rfl ?_
                refine im_cVV C 168 vk_X10_note gw_1172 (c_X10_note  hU h0) (h0 32 (by decide) (by decide)) rfl rfl (rle rfl) rfl (st := []) rfl (Nat.le_of_ble_eq_true rfl) dX10_request_165 rfl (fun D25 => ?_)
                refine im_aload_n C 169 1 dX10_request_168 rfl rfl rfl ?_
                refine gl_X10_7 C 172 (h0 32 (by decide) (by decide)) dX10_request_169 rfl ?_
                refine im_iload_n C 173 2 dX10_request_172 rfl rfl rfl ?_
                refine im_iconst C 174 dX10_request_173 rfl k_ic2 ?_
                refine im_iadd C 175 dX10_request_174 rfl ?_
                refine im_iload C 177 0 dX10_request_175 rfl rfl ?_
                refine im_wri C 178 170 (h0 33 (by decide) (by decide)) (fun _ => rfl) dX10_request_177 rfl (fun D26 => ?_)
                refine im_aload_n C 179 1 dX10_request_178 rfl rfl rfl ?_
                refine gl_X10_7 C 182 (h0 32 (by decide) (by decide)) dX10_request_179 rfl ?_
                refine im_iload_n C 183 2 dX10_request_182 rfl rfl rfl ?_
                refine im_iconst C 184 dX10_request_183 rfl k_ic2 ?_
                refine im_iadd C 185 dX10_request_184 rfl ?_
                refine im_iconst C 186 dX10_request_185 rfl k_ic1 ?_
                refine im_iadd C 187 dX10_request_186 rfl ?_
                refine im_iload_n C 188 3 dX10_request_187 rfl rfl rfl ?_
                refine im_wri C 189 170 (h0 33 (by decide) (by decide)) (fun _ => rfl) dX10_request_188 rfl (fun D27 => ?_)
                refine im_iload C 191 0 dX10_request_189 rfl rfl ?_
                exact im_iret C rfl rfl dX10_request_191
              · refine im_bipush C 163 dX10_request_161 rfl k_bpm3 ?_
                exact im_iret C rfl rfl dX10_request_163
            · refine im_if_lt C 149 138 dX10_request_135 rfl rfl ?_ ?_
              · refine im_aload_n C 150 2 dX10_request_149 rfl rfl rfl ?_
                refine im_iload_n C 151 3 dX10_request_150 rfl rfl rfl ?_
                refine im_cVP C 154 vk_X10_newAddress gw_1298 (c_X10_newAddress (x1 := x1) hU h0) (h0 32 (by decide) (by decide)) rfl rfl (rle rfl) rfl (st := []) rfl (Nat.le_of_ble_eq_true rfl) dX10_request_151 rfl (fun o28 => ?_)
                exact im_sub [2, 1, 0] [(0, .ref (ad 32 0)), (2, .int o2), (3, .int (v4 + v5))] rfl (ht24 o28)
              · refine im_aload_n C 139 2 dX10_request_138 rfl rfl rfl ?_
                refine gl_X10_7 C 142 (h0 32 (by decide) (by decide)) dX10_request_139 rfl ?_
                refine im_iload_n C 143 1 dX10_request_142 rfl rfl rfl ?_
                refine im_iconst C 144 dX10_request_143 rfl k_ic2 ?_
                refine im_iadd C 145 dX10_request_144 rfl ?_
                refine im_rdi C 146 170 (h0 33 (by decide) (by decide)) rfl dX10_request_145 rfl (fun v29 => ?_)
                refine im_goto C 154 dX10_request_146 rfl ?_
                exact im_sub [2, 1, 0] [(0, .ref (ad 32 0)), (2, .int o2), (3, .int (v4 + v5))] rfl (ht24 v29)
          · refine im_aload_n C 75 2 dX10_request_74 rfl rfl rfl ?_
            refine im_cVV C 78 vk_X10_note gw_1172 (c_X10_note  hU h0) (h0 32 (by decide) (by decide)) rfl rfl (rle rfl) rfl (st := []) rfl (Nat.le_of_ble_eq_true rfl) dX10_request_75 rfl (fun D30 => ?_)
            refine im_aload_n C 79 2 dX10_request_78 rfl rfl rfl ?_
            refine gl_X10_7 C 82 (h0 32 (by decide) (by decide)) dX10_request_79 rfl ?_
            refine im_aload_n C 83 2 dX10_request_82 rfl rfl rfl ?_
            refine gl_X10_7 C 86 (h0 32 (by decide) (by decide)) dX10_request_83 rfl ?_
            refine im_iload_n C 87 1 dX10_request_86 rfl rfl rfl ?_
            refine im_rdi C 88 170 (h0 33 (by decide) (by decide)) rfl dX10_request_87 rfl (fun v31 => ?_)
            refine im_cSP C 91 sk_X10_net gw_990 (c_X10_net (x0 := v31) hU) (rle rfl) rfl (st := [.ref (ad 33 0)]) rfl (Nat.le_of_ble_eq_true rfl) dX10_request_88 rfl (fun o32 => ?_)
            refine im_iconst C 92 dX10_request_91 rfl k_ic4 ?_
            refine im_iadd C 93 dX10_request_92 rfl ?_
            refine im_rdi C 94 170 (h0 33 (by decide) (by decide)) rfl dX10_request_93 rfl (fun v33 => ?_)
            refine im_istore C 96 [(4, .int v33), (3, .int (v4 + v5)), (2, .int o2), (0, .ref (ad 32 0)), (1, .int x1)] dX10_request_94 (by decide) rfl rfl ?_
            refine im_aload_n C 97 3 dX10_request_96 rfl rfl rfl ?_
            refine gl_X10_7 C 100 (h0 32 (by decide) (by decide)) dX10_request_97 rfl ?_
            refine im_iload_n C 101 2 dX10_request_100 rfl rfl rfl ?_
            refine im_iconst C 102 dX10_request_101 rfl k_ic4 ?_
            refine im_iadd C 103 dX10_request_102 rfl ?_
            refine im_iconst C 104 dX10_request_103 rfl k_ic1 ?_
            refine im_iadd C 105 dX10_request_104 rfl ?_
            refine im_iload_n C 106 1 dX10_request_105 rfl rfl rfl ?_
            refine im_iload C 108 0 dX10_request_106 rfl rfl ?_
            refine im_ic_ge C 115 111 dX10_request_108 rfl rfl ?_ ?_
            · refine im_iload C 117 0 dX10_request_115 rfl rfl ?_
              refine im_wri C 118 170 (h0 33 (by decide) (by decide)) (fun _ => rfl) dX10_request_117 rfl (fun D34 => ?_)
              refine im_aload_n C 119 3 dX10_request_118 rfl rfl rfl ?_
              refine gl_X10_7 C 122 (h0 32 (by decide) (by decide)) dX10_request_119 rfl ?_
              refine im_iload_n C 123 2 dX10_request_122 rfl rfl rfl ?_
              refine im_iconst C 124 dX10_request_123 rfl k_ic4 ?_
              refine im_iadd C 125 dX10_request_124 rfl ?_
              refine im_rdi C 126 170 (h0 33 (by decide) (by decide)) rfl dX10_request_125 rfl (fun v35 => ?_)
              exact im_iret C rfl rfl dX10_request_126
            · refine im_iload_n C 112 1 dX10_request_111 rfl rfl rfl ?_
              refine im_goto C 117 dX10_request_112 rfl ?_
              refine im_wri C 118 170 (h0 33 (by decide) (by decide)) (fun _ => rfl) dX10_request_117 rfl (fun D36 => ?_)
              refine im_aload_n C 119 3 dX10_request_118 rfl rfl rfl ?_
              refine gl_X10_7 C 122 (h0 32 (by decide) (by decide)) dX10_request_119 rfl ?_
              refine im_iload_n C 123 2 dX10_request_122 rfl rfl rfl ?_
              refine im_iconst C 124 dX10_request_123 rfl k_ic4 ?_
              refine im_iadd C 125 dX10_request_124 rfl ?_
              refine im_rdi C 126 170 (h0 33 (by decide) (by decide)) rfl dX10_request_125 rfl (fun v37 => ?_)
              exact im_iret C rfl rfl dX10_request_126
    · refine im_bipush C 25 dX10_request_23 rfl k_bpm2 ?_
      exact im_iret C rfl rfl dX10_request_25
  · refine im_iconst C 8 dX10_request_7 rfl k_icm1 ?_
    exact im_iret C rfl rfl dX10_request_8
set_option maxRecDepth 100000 in
set_option maxHeartbeats 4000000 in
theorem c_X10_host {l : Launch} {G : va_G} {ad : Nat → Nat → Nat} {U : List (Nat × Nat)} {D : Dt} {x1 : Int32} {x2 : Int32} (hU : Uinj ad U) (h0 : MoU U) : MI l G ad U yX10_host cX10_host 5 .int (k2_rm 2 42) [.ref (ad 32 0), .int x1, .int x2] D ((f_X10_host x1 x2 D).bind (fun r => some (r, D))) := by
  refine mI_of (lv := [(0, .ref (ad 32 0)), (1, .int x1), (2, .int x2)]) (by decide) hU rfl (Nat.le_of_ble_eq_true rfl) (fun A p e s m args below meth c C => ?_)
  have C : Cx G ad U A p s m meth c args cX10_host RX10 5 (some .int) := C
  unfold f_X10_host
  refine im_iload_n C 1 1 dX10_host_0 rfl rfl rfl ?_
  refine im_cSP C 4 sk_X10_isHost gw_1287 (c_X10_isHost (x0 := x1) hU) (rle rfl) rfl (st := []) rfl (Nat.le_of_ble_eq_true rfl) dX10_host_1 rfl (fun o1 => ?_)
  refine im_if_eq C 16 7 dX10_host_4 rfl rfl ?_ ?_
  · refine im_iconst C 17 dX10_host_16 rfl k_icm1 ?_
    exact im_iret C rfl rfl dX10_host_17
  · refine im_iload_n C 8 2 dX10_host_7 rfl rfl rfl ?_
    refine im_iconst C 9 dX10_host_8 rfl k_ic0 ?_
    refine im_iconst C 10 dX10_host_9 rfl k_ic5 ?_
    refine im_cSP C 13 sk_X10_in gw_1066 (c_X10_in (x0 := x2) (x1 := (0 : Int32)) (x2 := (5 : Int32)) hU) (rle rfl) rfl (st := []) rfl (Nat.le_of_ble_eq_true rfl) dX10_host_10 rfl (fun o2 => ?_)
    refine im_if_ne C 18 16 dX10_host_13 rfl rfl ?_ ?_
    · refine im_iload_n C 19 1 dX10_host_18 rfl rfl rfl ?_
      refine im_cSP C 22 sk_X10_hostAt gw_997 (c_X10_hostAt (x0 := x1) hU) (rle rfl) rfl (st := []) rfl (Nat.le_of_ble_eq_true rfl) dX10_host_19 rfl (fun o3 => ?_)
      refine im_istore_n C 23 [(3, .int o3), (0, .ref (ad 32 0)), (1, .int x1), (2, .int x2)] dX10_host_22 rfl (by decide) rfl rfl ?_
      refine im_aload_n C 24 1 dX10_host_23 rfl rfl rfl ?_
      refine gl_X10_7 C 27 (h0 32 (by decide) (by decide)) dX10_host_24 rfl ?_
      refine im_iload_n C 28 0 dX10_host_27 rfl rfl rfl ?_
      refine im_rdi C 29 170 (h0 33 (by decide) (by decide)) rfl dX10_host_28 rfl (fun v4 => ?_)
      refine im_if_lt C 56 32 dX10_host_29 rfl rfl ?_ ?_
      · refine im_iconst C 57 dX10_host_56 rfl k_ic0 ?_
        refine im_istore C 59 [(4, .int (0 : Int32)), (3, .int o3), (0, .ref (ad 32 0)), (1, .int x1), (2, .int x2)] dX10_host_57 (by decide) rfl rfl ?_
        refine im_iload C 61 0 dX10_host_59 rfl rfl ?_
        refine im_if_eq C 75 64 dX10_host_61 rfl rfl ?_ ?_
        · refine im_bipush C 77 dX10_host_75 rfl k_bpm9 ?_
          exact im_iret C rfl rfl dX10_host_77
        · refine im_aload_n C 65 2 dX10_host_64 rfl rfl rfl ?_
          refine gl_X10_7 C 68 (h0 32 (by decide) (by decide)) dX10_host_65 rfl ?_
          refine im_iload_n C 69 1 dX10_host_68 rfl rfl rfl ?_
          refine im_iload_n C 70 4 dX10_host_69 rfl rfl rfl ?_
          refine im_iadd C 71 dX10_host_70 rfl ?_
          refine im_rdi C 72 170 (h0 33 (by decide) (by decide)) rfl dX10_host_71 rfl (fun v5 => ?_)
          refine im_goto C 77 dX10_host_72 rfl ?_
          exact im_iret C rfl rfl dX10_host_77
      · refine im_iload_n C 33 3 dX10_host_32 rfl rfl rfl ?_
        refine im_iconst C 34 dX10_host_33 rfl k_ic2 ?_
        refine im_ic_lt C 52 37 dX10_host_34 rfl rfl ?_ ?_
        · refine im_iconst C 53 dX10_host_52 rfl k_ic1 ?_
          refine im_goto C 57 dX10_host_53 rfl ?_
          refine im_istore C 59 [(4, .int (1 : Int32)), (3, .int o3), (0, .ref (ad 32 0)), (1, .int x1), (2, .int x2)] dX10_host_57 (by decide) rfl rfl ?_
          refine im_iload C 61 0 dX10_host_59 rfl rfl ?_
          refine im_if_eq C 75 64 dX10_host_61 rfl rfl ?_ ?_
          · refine im_bipush C 77 dX10_host_75 rfl k_bpm9 ?_
            exact im_iret C rfl rfl dX10_host_77
          · refine im_aload_n C 65 2 dX10_host_64 rfl rfl rfl ?_
            refine gl_X10_7 C 68 (h0 32 (by decide) (by decide)) dX10_host_65 rfl ?_
            refine im_iload_n C 69 1 dX10_host_68 rfl rfl rfl ?_
            refine im_iload_n C 70 4 dX10_host_69 rfl rfl rfl ?_
            refine im_iadd C 71 dX10_host_70 rfl ?_
            refine im_rdi C 72 170 (h0 33 (by decide) (by decide)) rfl dX10_host_71 rfl (fun v6 => ?_)
            refine im_goto C 77 dX10_host_72 rfl ?_
            exact im_iret C rfl rfl dX10_host_77
        · refine im_aload_n C 38 1 dX10_host_37 rfl rfl rfl ?_
          refine gl_X10_7 C 41 (h0 32 (by decide) (by decide)) dX10_host_38 rfl ?_
          refine im_iload_n C 42 0 dX10_host_41 rfl rfl rfl ?_
          refine im_iload_n C 43 3 dX10_host_42 rfl rfl rfl ?_
          refine im_iadd C 44 dX10_host_43 rfl ?_
          refine im_iload_n C 45 3 dX10_host_44 rfl rfl rfl ?_
          refine im_iconst C 46 dX10_host_45 rfl k_ic2 ?_
          refine im_irem C 47 dX10_host_46 rfl ?_
          refine im_isub C 48 dX10_host_47 rfl ?_
          refine im_rdi C 49 170 (h0 33 (by decide) (by decide)) rfl dX10_host_48 rfl (fun v7 => ?_)
          refine im_if_lt C 56 52 dX10_host_49 rfl rfl ?_ ?_
          · refine im_iconst C 57 dX10_host_56 rfl k_ic0 ?_
            refine im_istore C 59 [(4, .int (0 : Int32)), (3, .int o3), (0, .ref (ad 32 0)), (1, .int x1), (2, .int x2)] dX10_host_57 (by decide) rfl rfl ?_
            refine im_iload C 61 0 dX10_host_59 rfl rfl ?_
            refine im_if_eq C 75 64 dX10_host_61 rfl rfl ?_ ?_
            · refine im_bipush C 77 dX10_host_75 rfl k_bpm9 ?_
              exact im_iret C rfl rfl dX10_host_77
            · refine im_aload_n C 65 2 dX10_host_64 rfl rfl rfl ?_
              refine gl_X10_7 C 68 (h0 32 (by decide) (by decide)) dX10_host_65 rfl ?_
              refine im_iload_n C 69 1 dX10_host_68 rfl rfl rfl ?_
              refine im_iload_n C 70 4 dX10_host_69 rfl rfl rfl ?_
              refine im_iadd C 71 dX10_host_70 rfl ?_
              refine im_rdi C 72 170 (h0 33 (by decide) (by decide)) rfl dX10_host_71 rfl (fun v8 => ?_)
              refine im_goto C 77 dX10_host_72 rfl ?_
              exact im_iret C rfl rfl dX10_host_77
          · refine im_iconst C 53 dX10_host_52 rfl k_ic1 ?_
            refine im_goto C 57 dX10_host_53 rfl ?_
            refine im_istore C 59 [(4, .int (1 : Int32)), (3, .int o3), (0, .ref (ad 32 0)), (1, .int x1), (2, .int x2)] dX10_host_57 (by decide) rfl rfl ?_
            refine im_iload C 61 0 dX10_host_59 rfl rfl ?_
            refine im_if_eq C 75 64 dX10_host_61 rfl rfl ?_ ?_
            · refine im_bipush C 77 dX10_host_75 rfl k_bpm9 ?_
              exact im_iret C rfl rfl dX10_host_77
            · refine im_aload_n C 65 2 dX10_host_64 rfl rfl rfl ?_
              refine gl_X10_7 C 68 (h0 32 (by decide) (by decide)) dX10_host_65 rfl ?_
              refine im_iload_n C 69 1 dX10_host_68 rfl rfl rfl ?_
              refine im_iload_n C 70 4 dX10_host_69 rfl rfl rfl ?_
              refine im_iadd C 71 dX10_host_70 rfl ?_
              refine im_rdi C 72 170 (h0 33 (by decide) (by decide)) rfl dX10_host_71 rfl (fun v9 => ?_)
              refine im_goto C 77 dX10_host_72 rfl ?_
              exact im_iret C rfl rfl dX10_host_77
    · refine im_iconst C 17 dX10_host_16 rfl k_icm1 ?_
      exact im_iret C rfl rfl dX10_host_17
set_option maxRecDepth 100000 in
set_option maxHeartbeats 4000000 in
theorem c_X10_leaseOf {l : Launch} {G : va_G} {ad : Nat → Nat → Nat} {U : List (Nat × Nat)} {D : Dt} {x1 : Int32} (hU : Uinj ad U) (h0 : MoU U) : MI l G ad U yX10_leaseOf cX10_leaseOf 2 .int (k2_rm 2 42) [.ref (ad 32 0), .int x1] D ((f_X10_leaseOf x1 D).bind (fun r => some (r, D))) := by
  refine mI_of (lv := [(0, .ref (ad 32 0)), (1, .int x1)]) (by decide) hU rfl (Nat.le_of_ble_eq_true rfl) (fun A p e s m args below meth c C => ?_)
  have C : Cx G ad U A p s m meth c args cX10_leaseOf RX10 2 (some .int) := C
  unfold f_X10_leaseOf
  refine im_iload_n C 1 1 dX10_leaseOf_0 rfl rfl rfl ?_
  refine im_iconst C 2 dX10_leaseOf_1 rfl k_ic0 ?_
  refine im_ldc C 4 gw_1112 dX10_leaseOf_2 rfl ?_
  refine im_cSP C 7 sk_X10_in gw_1066 (c_X10_in (x0 := x1) (x1 := (0 : Int32)) (x2 := (65535 : Int32)) hU) (rle rfl) rfl (st := []) rfl (Nat.le_of_ble_eq_true rfl) dX10_leaseOf_4 rfl (fun o1 => ?_)
  refine im_if_eq C 18 10 dX10_leaseOf_7 rfl rfl ?_ ?_
  · refine im_iconst C 19 dX10_leaseOf_18 rfl k_icm1 ?_
    exact im_iret C rfl rfl dX10_leaseOf_19
  · refine im_aload_n C 11 0 dX10_leaseOf_10 rfl rfl rfl ?_
    refine im_iload_n C 12 1 dX10_leaseOf_11 rfl rfl rfl ?_
    refine im_cVP C 15 vk_X10_holder gw_1302 (c_X10_holder (x1 := x1) hU h0) (h0 32 (by decide) (by decide)) rfl rfl (rle rfl) rfl (st := []) rfl (Nat.le_of_ble_eq_true rfl) dX10_leaseOf_12 rfl (fun o2 => ?_)
    refine im_goto C 19 dX10_leaseOf_15 rfl ?_
    exact im_iret C rfl rfl dX10_leaseOf_19
set_option maxRecDepth 100000 in
set_option maxHeartbeats 4000000 in
theorem c_X10_pass {l : Launch} {G : va_G} {ad : Nat → Nat → Nat} {U : List (Nat × Nat)} {D : Dt} {x1 : Int32} (hU : Uinj ad U) (h0 : MoU U) : MI l G ad U yX10_pass cX10_pass 5 .int (k2_rm 2 43) [.ref (ad 32 0), .int x1] D (f_X10_pass x1 D) := by
  refine mI_of0 (lv := [(0, .ref (ad 32 0)), (1, .int x1)]) (by decide) hU rfl (Nat.le_of_ble_eq_true rfl) (fun A p e s m args below meth c C => ?_)
  have C : Cx G ad U A p s m meth c args cX10_pass RX10 5 (some .int) := C
  unfold f_X10_pass
  refine im_iload_n C 1 1 dX10_pass_0 rfl rfl rfl ?_
  refine im_iconst C 2 dX10_pass_1 rfl k_ic1 ?_
  refine im_sipush C 5 dX10_pass_2 rfl k_sp1000 ?_
  refine im_cSP C 8 sk_X10_in gw_1066 (c_X10_in (x0 := x1) (x1 := (1 : Int32)) (x2 := (1000 : Int32)) hU) (rle rfl) rfl (st := []) rfl (Nat.le_of_ble_eq_true rfl) dX10_pass_5 rfl (fun o1 => ?_)
  refine im_if_ne C 13 11 dX10_pass_8 rfl rfl ?_ ?_
  · refine im_aload_n C 14 0 dX10_pass_13 rfl rfl rfl ?_
    refine gl_X10_7 C 17 (h0 32 (by decide) (by decide)) dX10_pass_14 rfl ?_
    refine im_iconst C 18 dX10_pass_17 rfl k_ic0 ?_
    refine im_rdi C 19 170 (h0 33 (by decide) (by decide)) rfl dX10_pass_18 rfl (fun v2 => ?_)
    refine im_iload_n C 20 1 dX10_pass_19 rfl rfl rfl ?_
    refine im_iadd C 21 dX10_pass_20 rfl ?_
    refine im_sipush C 24 dX10_pass_21 rfl k_sp9999 ?_
    refine im_ic_le C 30 27 dX10_pass_24 rfl rfl ?_ ?_
    · refine im_aload_n C 31 0 dX10_pass_30 rfl rfl rfl ?_
      refine im_cVV C 34 vk_X10_note gw_1172 (c_X10_note  hU h0) (h0 32 (by decide) (by decide)) rfl rfl (rle rfl) rfl (st := []) rfl (Nat.le_of_ble_eq_true rfl) dX10_pass_31 rfl (fun D3 => ?_)
      refine im_aload_n C 35 0 dX10_pass_34 rfl rfl rfl ?_
      refine gl_X10_7 C 38 (h0 32 (by decide) (by decide)) dX10_pass_35 rfl ?_
      refine im_iconst C 39 dX10_pass_38 rfl k_ic0 ?_
      refine im_dup2 C 40 dX10_pass_39 rfl rfl rfl ?_
      refine im_rdi C 41 170 (h0 33 (by decide) (by decide)) rfl dX10_pass_40 rfl (fun v4 => ?_)
      refine im_iload_n C 42 1 dX10_pass_41 rfl rfl rfl ?_
      refine im_iadd C 43 dX10_pass_42 rfl ?_
      refine im_wri C 44 170 (h0 33 (by decide) (by decide)) (fun _ => rfl) dX10_pass_43 rfl (fun D5 => ?_)
      refine im_iconst C 45 dX10_pass_44 rfl k_ic0 ?_
      refine im_istore_n C 46 [(2, .int (0 : Int32)), (0, .ref (ad 32 0)), (1, .int x1)] dX10_pass_45 rfl (by decide) rfl rfl ?_
      refine im_iconst C 47 dX10_pass_46 rfl k_ic0 ?_
      refine im_istore_n C 48 [(3, .int (0 : Int32)), (2, .int (0 : Int32)), (0, .ref (ad 32 0)), (1, .int x1)] dX10_pass_47 rfl (by decide) rfl rfl ?_
      refine im_sub [2, 1, 0] [(0, .ref (ad 32 0)), (2, .int (0 : Int32)), (3, .int (0 : Int32))] rfl ?_
      refine im_lpB l_X10_pass_48 (fun z48 => [(0, .ref (ad 32 0)), (2, .int z48.1), (3, .int z48.2.1)]) (fun z48 => z48.2.2) 124 (fun e6 => [(0, .ref (ad 32 0)), (2, .int e6.1)]) (fun e6 => e6.2) (fun e6 => ?_) (fun z48 X_z48 hX_z48 hE_z48 => ?_) FU ((0 : Int32), (0 : Int32), D5)
      · refine im_iconst C 125 dX10_pass_124 rfl k_ic0 ?_
        refine im_istore_n C 126 [(3, .int (0 : Int32)), (0, .ref (ad 32 0)), (2, .int e6.1)] dX10_pass_125 rfl (by decide) rfl rfl ?_
        refine im_sub [1, 2, 0] [(0, .ref (ad 32 0)), (2, .int e6.1), (3, .int (0 : Int32))] rfl ?_
        refine im_lpB l_X10_pass_126 (fun z126 => [(0, .ref (ad 32 0)), (2, .int z126.1), (3, .int z126.2.1)]) (fun z126 => z126.2.2) 178 (fun e14 => [(2, .int e14.1)]) (fun e14 => e14.2) (fun e14 => ?_) (fun z126 X_z126 hX_z126 hE_z126 => ?_) FU (e6.1, (0 : Int32), e6.2)
        · refine im_iload_n C 179 0 dX10_pass_178 rfl rfl rfl ?_
          exact im_iret C rfl rfl dX10_pass_179
        · unfold l_X10_pass_126
          refine im_iload_n C 127 2 dX10_pass_126 rfl rfl rfl ?_
          refine im_bipush C 129 dX10_pass_127 rfl k_bp12 ?_
          refine im_ic_ge C 178 132 dX10_pass_129 rfl rfl ?_ ?_
          · exact im_sub [1] [(2, .int z126.1)] rfl (hE_z126 (z126.1, z126.2.2))
          · refine im_iload_n C 133 1 dX10_pass_132 rfl rfl rfl ?_
            refine im_aload_n C 134 0 dX10_pass_133 rfl rfl rfl ?_
            refine im_iload_n C 135 2 dX10_pass_134 rfl rfl rfl ?_
            refine im_cVP C 138 vk_X10_hasOld gw_1254 (c_X10_hasOld (x1 := z126.2.1) hU h0) (h0 32 (by decide) (by decide)) rfl rfl (rle rfl) rfl (st := [.int z126.1]) rfl (Nat.le_of_ble_eq_true rfl) dX10_pass_135 rfl (fun o15 => ?_)
            refine im_if_eq C 169 141 dX10_pass_138 rfl rfl ?_ ?_
            · refine im_iconst C 170 dX10_pass_169 rfl k_ic0 ?_
              refine im_iadd C 171 dX10_pass_170 rfl ?_
              refine im_istore_n C 172 [(2, .int (z126.1 + (0 : Int32))), (0, .ref (ad 32 0)), (3, .int z126.2.1)] dX10_pass_171 rfl (by decide) rfl rfl ?_
              refine im_iinc C 175 2 [(3, .int (z126.2.1 + (1 : Int32))), (2, .int (z126.1 + (0 : Int32))), (0, .ref (ad 32 0))] dX10_pass_172 rfl (k_inc1) (by decide) rfl rfl ?_
              refine im_goto C 126 dX10_pass_175 rfl ?_
              exact im_sub [2, 1, 0] [(0, .ref (ad 32 0)), (2, .int (z126.1 + (0 : Int32))), (3, .int (z126.2.1 + (1 : Int32)))] rfl (hX_z126 (z126.1 + (0 : Int32), z126.2.1 + (1 : Int32), z126.2.2))
            · refine im_aload_n C 142 0 dX10_pass_141 rfl rfl rfl ?_
              refine gl_X10_7 C 145 (h0 32 (by decide) (by decide)) dX10_pass_142 rfl ?_
              refine im_iload_n C 146 2 dX10_pass_145 rfl rfl rfl ?_
              refine im_cSP C 149 sk_X10_net gw_990 (c_X10_net (x0 := z126.2.1) hU) (rle rfl) rfl (st := [.ref (ad 33 0), .int z126.1]) rfl (Nat.le_of_ble_eq_true rfl) dX10_pass_146 rfl (fun o16 => ?_)
              refine im_iconst C 150 dX10_pass_149 rfl k_ic4 ?_
              refine im_iadd C 151 dX10_pass_150 rfl ?_
              refine im_rdi C 152 170 (h0 33 (by decide) (by decide)) rfl dX10_pass_151 rfl (fun v17 => ?_)
              refine im_aload_n C 153 0 dX10_pass_152 rfl rfl rfl ?_
              refine gl_X10_7 C 156 (h0 32 (by decide) (by decide)) dX10_pass_153 rfl ?_
              refine im_iconst C 157 dX10_pass_156 rfl k_ic0 ?_
              refine im_rdi C 158 170 (h0 33 (by decide) (by decide)) rfl dX10_pass_157 rfl (fun v18 => ?_)
              refine im_ic_gt C 169 161 dX10_pass_158 rfl rfl ?_ ?_
              · refine im_iconst C 170 dX10_pass_169 rfl k_ic0 ?_
                refine im_iadd C 171 dX10_pass_170 rfl ?_
                refine im_istore_n C 172 [(2, .int (z126.1 + (0 : Int32))), (0, .ref (ad 32 0)), (3, .int z126.2.1)] dX10_pass_171 rfl (by decide) rfl rfl ?_
                refine im_iinc C 175 2 [(3, .int (z126.2.1 + (1 : Int32))), (2, .int (z126.1 + (0 : Int32))), (0, .ref (ad 32 0))] dX10_pass_172 rfl (k_inc1) (by decide) rfl rfl ?_
                refine im_goto C 126 dX10_pass_175 rfl ?_
                exact im_sub [2, 1, 0] [(0, .ref (ad 32 0)), (2, .int (z126.1 + (0 : Int32))), (3, .int (z126.2.1 + (1 : Int32)))] rfl (hX_z126 (z126.1 + (0 : Int32), z126.2.1 + (1 : Int32), z126.2.2))
              · refine im_aload_n C 162 0 dX10_pass_161 rfl rfl rfl ?_
                refine im_iload_n C 163 2 dX10_pass_162 rfl rfl rfl ?_
                refine im_cVI C 166 vk_X10_givesUp gw_1262 (c_X10_givesUp (x1 := z126.2.1) hU h0) (h0 32 (by decide) (by decide)) rfl rfl (rle rfl) rfl (st := [.int z126.1]) rfl (Nat.le_of_ble_eq_true rfl) dX10_pass_163 rfl (fun o19 => ?_)
                refine im_goto C 170 dX10_pass_166 rfl ?_
                refine im_iadd C 171 dX10_pass_170 rfl ?_
                refine im_istore_n C 172 [(2, .int (z126.1 + o19.1)), (0, .ref (ad 32 0)), (3, .int z126.2.1)] dX10_pass_171 rfl (by decide) rfl rfl ?_
                refine im_iinc C 175 2 [(3, .int (z126.2.1 + (1 : Int32))), (2, .int (z126.1 + o19.1)), (0, .ref (ad 32 0))] dX10_pass_172 rfl (k_inc1) (by decide) rfl rfl ?_
                refine im_goto C 126 dX10_pass_175 rfl ?_
                exact im_sub [2, 1, 0] [(0, .ref (ad 32 0)), (2, .int (z126.1 + o19.1)), (3, .int (z126.2.1 + (1 : Int32)))] rfl (hX_z126 (z126.1 + o19.1, z126.2.1 + (1 : Int32), o19.2))
      · unfold l_X10_pass_48
        refine im_iload_n C 49 2 dX10_pass_48 rfl rfl rfl ?_
        refine im_bipush C 51 dX10_pass_49 rfl k_bp16 ?_
        refine im_ic_ge C 124 54 dX10_pass_51 rfl rfl ?_ ?_
        · exact im_sub [0, 1] [(0, .ref (ad 32 0)), (2, .int z48.1)] rfl (hE_z48 (z48.1, z48.2.2))
        · refine im_iload_n C 55 2 dX10_pass_54 rfl rfl rfl ?_
          refine im_cSP C 58 sk_X10_hostAt gw_997 (c_X10_hostAt (x0 := z48.2.1) hU) (rle rfl) rfl (st := []) rfl (Nat.le_of_ble_eq_true rfl) dX10_pass_55 rfl (fun o7 => ?_)
          refine im_iconst C 59 dX10_pass_58 rfl k_ic2 ?_
          refine im_iadd C 60 dX10_pass_59 rfl ?_
          refine im_istore C 62 [(4, .int (o7 + (2 : Int32))), (0, .ref (ad 32 0)), (2, .int z48.1), (3, .int z48.2.1)] dX10_pass_60 (by decide) rfl rfl ?_
          refine im_sub [1, 2, 3, 0] [(0, .ref (ad 32 0)), (2, .int z48.1), (3, .int z48.2.1), (4, .int (o7 + (2 : Int32)))] rfl ?_
          refine im_lpB (l_X10_pass_62 z48) (fun z62 => [(0, .ref (ad 32 0)), (2, .int z62.1), (3, .int z48.2.1), (4, .int z62.2.1)]) (fun z62 => z62.2.2) 118 (fun e8 => [(0, .ref (ad 32 0)), (2, .int e8.1), (3, .int z48.2.1)]) (fun e8 => e8.2) (fun e8 => ?_) (fun z62 X_z62 hX_z62 hE_z62 => ?_) FU (z48.1, o7 + (2 : Int32), z48.2.2)
          · refine im_iinc C 121 2 [(3, .int (z48.2.1 + (1 : Int32))), (0, .ref (ad 32 0)), (2, .int e8.1)] dX10_pass_118 rfl (k_inc1) (by decide) rfl rfl ?_
            refine im_goto C 48 dX10_pass_121 rfl ?_
            exact im_sub [1, 2, 0] [(0, .ref (ad 32 0)), (2, .int e8.1), (3, .int (z48.2.1 + (1 : Int32)))] rfl (hX_z48 (e8.1, z48.2.1 + (1 : Int32), e8.2))
          · unfold l_X10_pass_62
            refine im_iload C 64 3 dX10_pass_62 rfl rfl ?_
            refine im_iload_n C 65 2 dX10_pass_64 rfl rfl rfl ?_
            refine im_cSP C 68 sk_X10_hostAt gw_997 (c_X10_hostAt (x0 := z48.2.1) hU) (rle rfl) rfl (st := [.int z62.2.1]) rfl (Nat.le_of_ble_eq_true rfl) dX10_pass_65 rfl (fun o9 => ?_)
            refine im_iconst C 69 dX10_pass_68 rfl k_ic4 ?_
            refine im_iadd C 70 dX10_pass_69 rfl ?_
            refine im_ic_gt C 118 73 dX10_pass_70 rfl rfl ?_ ?_
            · exact im_sub [0, 1, 2] [(0, .ref (ad 32 0)), (2, .int z62.1), (3, .int z48.2.1)] rfl (hE_z62 (z62.1, z62.2.2))
            · refine im_aload_n C 74 0 dX10_pass_73 rfl rfl rfl ?_
              refine gl_X10_7 C 77 (h0 32 (by decide) (by decide)) dX10_pass_74 rfl ?_
              refine im_iload C 79 3 dX10_pass_77 rfl rfl ?_
              refine im_rdi C 80 170 (h0 33 (by decide) (by decide)) rfl dX10_pass_79 rfl (fun v10 => ?_)
              refine im_if_lt C 112 83 dX10_pass_80 rfl rfl ?_ ?_
              · refine im_iinc C 115 3 [(4, .int (z62.2.1 + (2 : Int32))), (0, .ref (ad 32 0)), (2, .int z62.1), (3, .int z48.2.1)] dX10_pass_112 rfl (k_inc2) (by decide) rfl rfl ?_
                refine im_goto C 62 dX10_pass_115 rfl ?_
                exact im_sub [1, 2, 3, 0] [(0, .ref (ad 32 0)), (2, .int z62.1), (3, .int z48.2.1), (4, .int (z62.2.1 + (2 : Int32)))] rfl (hX_z62 (z62.1, z62.2.1 + (2 : Int32), z62.2.2))
              · refine im_aload_n C 84 0 dX10_pass_83 rfl rfl rfl ?_
                refine gl_X10_7 C 87 (h0 32 (by decide) (by decide)) dX10_pass_84 rfl ?_
                refine im_iload C 89 3 dX10_pass_87 rfl rfl ?_
                refine im_iconst C 90 dX10_pass_89 rfl k_ic1 ?_
                refine im_iadd C 91 dX10_pass_90 rfl ?_
                refine im_rdi C 92 170 (h0 33 (by decide) (by decide)) rfl dX10_pass_91 rfl (fun v11 => ?_)
                refine im_aload_n C 93 0 dX10_pass_92 rfl rfl rfl ?_
                refine gl_X10_7 C 96 (h0 32 (by decide) (by decide)) dX10_pass_93 rfl ?_
                refine im_iconst C 97 dX10_pass_96 rfl k_ic0 ?_
                refine im_rdi C 98 170 (h0 33 (by decide) (by decide)) rfl dX10_pass_97 rfl (fun v12 => ?_)
                refine im_ic_gt C 112 101 dX10_pass_98 rfl rfl ?_ ?_
                · refine im_iinc C 115 3 [(4, .int (z62.2.1 + (2 : Int32))), (0, .ref (ad 32 0)), (2, .int z62.1), (3, .int z48.2.1)] dX10_pass_112 rfl (k_inc2) (by decide) rfl rfl ?_
                  refine im_goto C 62 dX10_pass_115 rfl ?_
                  exact im_sub [1, 2, 3, 0] [(0, .ref (ad 32 0)), (2, .int z62.1), (3, .int z48.2.1), (4, .int (z62.2.1 + (2 : Int32)))] rfl (hX_z62 (z62.1, z62.2.1 + (2 : Int32), z62.2.2))
                · refine im_aload_n C 102 0 dX10_pass_101 rfl rfl rfl ?_
                  refine gl_X10_7 C 105 (h0 32 (by decide) (by decide)) dX10_pass_102 rfl ?_
                  refine im_iload C 107 3 dX10_pass_105 rfl rfl ?_
                  refine im_iconst C 108 dX10_pass_107 rfl k_icm1 ?_
                  refine im_wri C 109 170 (h0 33 (by decide) (by decide)) (fun _ => rfl) dX10_pass_108 rfl (fun D13 => ?_)
                  refine im_iinc C 112 1 [(2, .int (z62.1 + (1 : Int32))), (0, .ref (ad 32 0)), (3, .int z48.2.1), (4, .int z62.2.1)] dX10_pass_109 rfl (k_inc1) (by decide) rfl rfl ?_
                  refine im_iinc C 115 3 [(4, .int (z62.2.1 + (2 : Int32))), (2, .int (z62.1 + (1 : Int32))), (0, .ref (ad 32 0)), (3, .int z48.2.1)] dX10_pass_112 rfl (k_inc2) (by decide) rfl rfl ?_
                  refine im_goto C 62 dX10_pass_115 rfl ?_
                  exact im_sub [2, 1, 3, 0] [(0, .ref (ad 32 0)), (2, .int (z62.1 + (1 : Int32))), (3, .int z48.2.1), (4, .int (z62.2.1 + (2 : Int32)))] rfl (hX_z62 (z62.1 + (1 : Int32), z62.2.1 + (2 : Int32), D13))
    · refine im_bipush C 29 dX10_pass_27 rfl k_bpm3 ?_
      exact im_iret C rfl rfl dX10_pass_29
  · refine im_iconst C 12 dX10_pass_11 rfl k_icm1 ?_
    exact im_iret C rfl rfl dX10_pass_12
set_option maxRecDepth 100000 in
set_option maxHeartbeats 4000000 in
theorem c_X10_setTimes {l : Launch} {G : va_G} {ad : Nat → Nat → Nat} {U : List (Nat × Nat)} {D : Dt} {x1 : Int32} {x2 : Int32} (hU : Uinj ad U) (h0 : MoU U) : MI l G ad U yX10_setTimes cX10_setTimes 4 .int (k2_rm 1 22) [.ref (ad 32 0), .int x1, .int x2] D (f_X10_setTimes x1 x2 D) := by
  refine mI_of0 (lv := [(0, .ref (ad 32 0)), (1, .int x1), (2, .int x2)]) (by decide) hU rfl (Nat.le_of_ble_eq_true rfl) (fun A p e s m args below meth c C => ?_)
  have C : Cx G ad U A p s m meth c args cX10_setTimes RX10 4 (some .int) := C
  unfold f_X10_setTimes
  refine im_iload_n C 1 1 dX10_setTimes_0 rfl rfl rfl ?_
  refine im_iconst C 2 dX10_setTimes_1 rfl k_ic1 ?_
  refine im_sipush C 5 dX10_setTimes_2 rfl k_sp500 ?_
  refine im_cSP C 8 sk_X10_in gw_1066 (c_X10_in (x0 := x1) (x1 := (1 : Int32)) (x2 := (500 : Int32)) hU) (rle rfl) rfl (st := []) rfl (Nat.le_of_ble_eq_true rfl) dX10_setTimes_5 rfl (fun o1 => ?_)
  refine im_if_eq C 22 11 dX10_setTimes_8 rfl rfl ?_ ?_
  · refine im_iconst C 23 dX10_setTimes_22 rfl k_icm1 ?_
    exact im_iret C rfl rfl dX10_setTimes_23
  · refine im_iload_n C 12 2 dX10_setTimes_11 rfl rfl rfl ?_
    refine im_iconst C 13 dX10_setTimes_12 rfl k_ic0 ?_
    refine im_sipush C 16 dX10_setTimes_13 rfl k_sp500 ?_
    refine im_cSP C 19 sk_X10_in gw_1066 (c_X10_in (x0 := x2) (x1 := (0 : Int32)) (x2 := (500 : Int32)) hU) (rle rfl) rfl (st := []) rfl (Nat.le_of_ble_eq_true rfl) dX10_setTimes_16 rfl (fun o2 => ?_)
    refine im_if_ne C 24 22 dX10_setTimes_19 rfl rfl ?_ ?_
    · refine im_aload_n C 25 0 dX10_setTimes_24 rfl rfl rfl ?_
      refine im_cVV C 28 vk_X10_note gw_1172 (c_X10_note  hU h0) (h0 32 (by decide) (by decide)) rfl rfl (rle rfl) rfl (st := []) rfl (Nat.le_of_ble_eq_true rfl) dX10_setTimes_25 rfl (fun D3 => ?_)
      refine im_aload_n C 29 0 dX10_setTimes_28 rfl rfl rfl ?_
      refine gl_X10_7 C 32 (h0 32 (by decide) (by decide)) dX10_setTimes_29 rfl ?_
      refine im_iconst C 33 dX10_setTimes_32 rfl k_ic1 ?_
      refine im_rdi C 34 170 (h0 33 (by decide) (by decide)) rfl dX10_setTimes_33 rfl (fun v4 => ?_)
      refine im_iload_n C 35 1 dX10_setTimes_34 rfl rfl rfl ?_
      refine im_jn 53 (fun t5 => [(0, .ref (ad 32 0)), (1, .int x1), (2, .int x2)]) (fun t5 => [.int t5]) (fun t5 => D3) (fun t5 => j_X10_setTimes_53_t5 x1 x2 D3 t5) (fun t5 => ?_) (fun ht5 => ?_)
      · unfold j_X10_setTimes_53_t5
        refine im_istore_n C 54 [(3, .int t5), (0, .ref (ad 32 0)), (1, .int x1), (2, .int x2)] dX10_setTimes_53 rfl (by decide) rfl rfl ?_
        refine im_aload_n C 55 1 dX10_setTimes_54 rfl rfl rfl ?_
        refine gl_X10_7 C 58 (h0 32 (by decide) (by decide)) dX10_setTimes_55 rfl ?_
        refine im_iconst C 59 dX10_setTimes_58 rfl k_ic1 ?_
        refine im_iload_n C 60 2 dX10_setTimes_59 rfl rfl rfl ?_
        refine im_wri C 61 170 (h0 33 (by decide) (by decide)) (fun _ => rfl) dX10_setTimes_60 rfl (fun D6 => ?_)
        refine im_aload_n C 62 1 dX10_setTimes_61 rfl rfl rfl ?_
        refine gl_X10_7 C 65 (h0 32 (by decide) (by decide)) dX10_setTimes_62 rfl ?_
        refine im_iconst C 66 dX10_setTimes_65 rfl k_ic2 ?_
        refine im_iload_n C 67 3 dX10_setTimes_66 rfl rfl rfl ?_
        refine im_wri C 68 170 (h0 33 (by decide) (by decide)) (fun _ => rfl) dX10_setTimes_67 rfl (fun D7 => ?_)
        refine im_iload_n C 69 0 dX10_setTimes_68 rfl rfl rfl ?_
        refine im_if_eq C 76 72 dX10_setTimes_69 rfl rfl ?_ ?_
        · refine im_iconst C 77 dX10_setTimes_76 rfl k_ic0 ?_
          exact im_iret C rfl rfl dX10_setTimes_77
        · refine im_iconst C 73 dX10_setTimes_72 rfl k_ic1 ?_
          refine im_goto C 77 dX10_setTimes_73 rfl ?_
          exact im_iret C rfl rfl dX10_setTimes_77
      · refine im_ic_ne C 48 38 dX10_setTimes_35 rfl rfl ?_ ?_
        · refine im_iconst C 49 dX10_setTimes_48 rfl k_ic1 ?_
          refine im_goto C 53 dX10_setTimes_49 rfl ?_
          exact ht5 (1 : Int32)
        · refine im_aload_n C 39 0 dX10_setTimes_38 rfl rfl rfl ?_
          refine gl_X10_7 C 42 (h0 32 (by decide) (by decide)) dX10_setTimes_39 rfl ?_
          refine im_iconst C 43 dX10_setTimes_42 rfl k_ic2 ?_
          refine im_rdi C 44 170 (h0 33 (by decide) (by decide)) rfl dX10_setTimes_43 rfl (fun v8 => ?_)
          refine im_iload_n C 45 2 dX10_setTimes_44 rfl rfl rfl ?_
          refine im_ic_eq C 52 48 dX10_setTimes_45 rfl rfl ?_ ?_
          · refine im_iconst C 53 dX10_setTimes_52 rfl k_ic0 ?_
            exact ht5 (0 : Int32)
          · refine im_iconst C 49 dX10_setTimes_48 rfl k_ic1 ?_
            refine im_goto C 53 dX10_setTimes_49 rfl ?_
            exact ht5 (1 : Int32)
    · refine im_iconst C 23 dX10_setTimes_22 rfl k_icm1 ?_
      exact im_iret C rfl rfl dX10_setTimes_23
set_option maxRecDepth 100000 in
set_option maxHeartbeats 4000000 in
theorem c_X10_leases {l : Launch} {G : va_G} {ad : Nat → Nat → Nat} {U : List (Nat × Nat)} {D : Dt} (hU : Uinj ad U) (h0 : MoU U) : MI l G ad U yX10_leases cX10_leases 3 .int (k2_rm 1 20) [.ref (ad 32 0)] D ((f_X10_leases D).bind (fun r => some (r, D))) := by
  refine mI_of (lv := [(0, .ref (ad 32 0))]) (by decide) hU rfl (Nat.le_of_ble_eq_true rfl) (fun A p e s m args below meth c C => ?_)
  have C : Cx G ad U A p s m meth c args cX10_leases RX10 3 (some .int) := C
  unfold f_X10_leases
  refine im_iconst C 1 dX10_leases_0 rfl k_ic0 ?_
  refine im_istore_n C 2 [(1, .int (0 : Int32)), (0, .ref (ad 32 0))] dX10_leases_1 rfl (by decide) rfl rfl ?_
  refine im_iconst C 3 dX10_leases_2 rfl k_ic0 ?_
  refine im_istore_n C 4 [(2, .int (0 : Int32)), (1, .int (0 : Int32)), (0, .ref (ad 32 0))] dX10_leases_3 rfl (by decide) rfl rfl ?_
  refine im_sub [2, 1, 0] [(0, .ref (ad 32 0)), (1, .int (0 : Int32)), (2, .int (0 : Int32))] rfl ?_
  refine im_lpB (l_X10_leases_4 D) (fun z4 => [(0, .ref (ad 32 0)), (1, .int z4.1), (2, .int z4.2)]) (fun z4 => D) 58 (fun e1 => [(1, .int e1)]) (fun e1 => D) (fun e1 => ?_) (fun z4 X_z4 hX_z4 hE_z4 => ?_) FU ((0 : Int32), (0 : Int32))
  · refine im_iload_n C 59 0 dX10_leases_58 rfl rfl rfl ?_
    exact im_iret C rfl rfl dX10_leases_59
  · unfold l_X10_leases_4
    refine im_iload_n C 5 2 dX10_leases_4 rfl rfl rfl ?_
    refine im_bipush C 7 dX10_leases_5 rfl k_bp16 ?_
    refine im_ic_ge C 58 10 dX10_leases_7 rfl rfl ?_ ?_
    · exact im_sub [1] [(1, .int z4.1)] rfl (hE_z4 z4.1)
    · refine im_iload_n C 11 1 dX10_leases_10 rfl rfl rfl ?_
      refine im_aload_n C 12 0 dX10_leases_11 rfl rfl rfl ?_
      refine gl_X10_7 C 15 (h0 32 (by decide) (by decide)) dX10_leases_12 rfl ?_
      refine im_iload_n C 16 2 dX10_leases_15 rfl rfl rfl ?_
      refine im_cSP C 19 sk_X10_hostAt gw_997 (c_X10_hostAt (x0 := z4.2) hU) (rle rfl) rfl (st := [.ref (ad 33 0), .int z4.1]) rfl (Nat.le_of_ble_eq_true rfl) dX10_leases_16 rfl (fun o2 => ?_)
      refine im_iconst C 20 dX10_leases_19 rfl k_ic2 ?_
      refine im_iadd C 21 dX10_leases_20 rfl ?_
      refine im_rdi C 22 170 (h0 33 (by decide) (by decide)) rfl dX10_leases_21 rfl (fun v3 => ?_)
      refine im_jn 30 (fun t4 => [(0, .ref (ad 32 0)), (2, .int z4.2)]) (fun t4 => [.int t4, .int z4.1]) (fun t4 => D) (fun t4 => j_X10_leases_30_t4 D z4 t4) (fun t4 => ?_) (fun ht4 => ?_)
      · unfold j_X10_leases_30_t4
        refine im_aload_n C 31 0 dX10_leases_30 rfl rfl rfl ?_
        refine gl_X10_7 C 34 (h0 32 (by decide) (by decide)) dX10_leases_31 rfl ?_
        refine im_iload_n C 35 1 dX10_leases_34 rfl rfl rfl ?_
        refine im_cSP C 38 sk_X10_hostAt gw_997 (c_X10_hostAt (x0 := z4.2) hU) (rle rfl) rfl (st := [.ref (ad 33 0), .int t4, .int z4.1]) rfl (Nat.le_of_ble_eq_true rfl) dX10_leases_35 rfl (fun o5 => ?_)
        refine im_iconst C 39 dX10_leases_38 rfl k_ic4 ?_
        refine im_iadd C 40 dX10_leases_39 rfl ?_
        refine im_rdi C 41 170 (h0 33 (by decide) (by decide)) rfl dX10_leases_40 rfl (fun v6 => ?_)
        refine im_if_lt C 48 44 dX10_leases_41 rfl rfl ?_ ?_
        · refine im_iconst C 49 dX10_leases_48 rfl k_ic0 ?_
          refine im_iadd C 50 dX10_leases_49 rfl ?_
          refine im_iadd C 51 dX10_leases_50 rfl ?_
          refine im_istore_n C 52 [(1, .int (z4.1 + (t4 + (0 : Int32)))), (0, .ref (ad 32 0)), (2, .int z4.2)] dX10_leases_51 rfl (by decide) rfl rfl ?_
          refine im_iinc C 55 2 [(2, .int (z4.2 + (1 : Int32))), (1, .int (z4.1 + (t4 + (0 : Int32)))), (0, .ref (ad 32 0))] dX10_leases_52 rfl (k_inc1) (by decide) rfl rfl ?_
          refine im_goto C 4 dX10_leases_55 rfl ?_
          exact im_sub [2, 1, 0] [(0, .ref (ad 32 0)), (1, .int (z4.1 + (t4 + (0 : Int32)))), (2, .int (z4.2 + (1 : Int32)))] rfl (hX_z4 (z4.1 + (t4 + (0 : Int32)), z4.2 + (1 : Int32)))
        · refine im_iconst C 45 dX10_leases_44 rfl k_ic1 ?_
          refine im_goto C 49 dX10_leases_45 rfl ?_
          refine im_iadd C 50 dX10_leases_49 rfl ?_
          refine im_iadd C 51 dX10_leases_50 rfl ?_
          refine im_istore_n C 52 [(1, .int (z4.1 + (t4 + (1 : Int32)))), (0, .ref (ad 32 0)), (2, .int z4.2)] dX10_leases_51 rfl (by decide) rfl rfl ?_
          refine im_iinc C 55 2 [(2, .int (z4.2 + (1 : Int32))), (1, .int (z4.1 + (t4 + (1 : Int32)))), (0, .ref (ad 32 0))] dX10_leases_52 rfl (k_inc1) (by decide) rfl rfl ?_
          refine im_goto C 4 dX10_leases_55 rfl ?_
          exact im_sub [2, 1, 0] [(0, .ref (ad 32 0)), (1, .int (z4.1 + (t4 + (1 : Int32)))), (2, .int (z4.2 + (1 : Int32)))] rfl (hX_z4 (z4.1 + (t4 + (1 : Int32)), z4.2 + (1 : Int32)))
      · refine im_if_lt C 29 25 dX10_leases_22 rfl rfl ?_ ?_
        · refine im_iconst C 30 dX10_leases_29 rfl k_ic0 ?_
          exact im_sub [0, 2] [(0, .ref (ad 32 0)), (2, .int z4.2)] rfl (ht4 (0 : Int32))
        · refine im_iconst C 26 dX10_leases_25 rfl k_ic1 ?_
          refine im_goto C 30 dX10_leases_26 rfl ?_
          exact im_sub [0, 2] [(0, .ref (ad 32 0)), (2, .int z4.2)] rfl (ht4 (1 : Int32))
set_option maxRecDepth 100000 in
set_option maxHeartbeats 4000000 in
theorem c_X10_nextEvent {l : Launch} {G : va_G} {ad : Nat → Nat → Nat} {U : List (Nat × Nat)} {D : Dt} (hU : Uinj ad U) (h0 : MoU U) : MI l G ad U yX10_nextEvent cX10_nextEvent 4 .int (k2_rm 2 41) [.ref (ad 32 0)] D ((f_X10_nextEvent D).bind (fun r => some (r, D))) := by
  refine mI_of (lv := [(0, .ref (ad 32 0))]) (by decide) hU rfl (Nat.le_of_ble_eq_true rfl) (fun A p e s m args below meth c C => ?_)
  have C : Cx G ad U A p s m meth c args cX10_nextEvent RX10 4 (some .int) := C
  unfold f_X10_nextEvent
  refine im_bipush C 2 dX10_nextEvent_0 rfl k_bpm9 ?_
  refine im_istore_n C 3 [(1, .int (-9 : Int32)), (0, .ref (ad 32 0))] dX10_nextEvent_2 rfl (by decide) rfl rfl ?_
  refine im_iconst C 4 dX10_nextEvent_3 rfl k_ic0 ?_
  refine im_istore_n C 5 [(2, .int (0 : Int32)), (1, .int (-9 : Int32)), (0, .ref (ad 32 0))] dX10_nextEvent_4 rfl (by decide) rfl rfl ?_
  refine im_sub [2, 1, 0] [(0, .ref (ad 32 0)), (1, .int (-9 : Int32)), (2, .int (0 : Int32))] rfl ?_
  refine im_lpB (l_X10_nextEvent_5 D) (fun z5 => [(0, .ref (ad 32 0)), (1, .int z5.1), (2, .int z5.2)]) (fun z5 => D) 80 (fun e1 => [(0, .ref (ad 32 0)), (1, .int e1)]) (fun e1 => D) (fun e1 => ?_) (fun z5 X_z5 hX_z5 hE_z5 => ?_) FU ((-9 : Int32), (0 : Int32))
  · refine im_iconst C 81 dX10_nextEvent_80 rfl k_ic0 ?_
    refine im_istore_n C 82 [(2, .int (0 : Int32)), (0, .ref (ad 32 0)), (1, .int e1)] dX10_nextEvent_81 rfl (by decide) rfl rfl ?_
    refine im_sub [1, 2, 0] [(0, .ref (ad 32 0)), (1, .int e1), (2, .int (0 : Int32))] rfl ?_
    refine im_lpB (l_X10_nextEvent_82 D) (fun z82 => [(0, .ref (ad 32 0)), (1, .int z82.1), (2, .int z82.2)]) (fun z82 => D) 131 (fun e9 => [(1, .int e9)]) (fun e9 => D) (fun e9 => ?_) (fun z82 X_z82 hX_z82 hE_z82 => ?_) FU (e1, (0 : Int32))
    · refine im_iload_n C 132 0 dX10_nextEvent_131 rfl rfl rfl ?_
      exact im_iret C rfl rfl dX10_nextEvent_132
    · unfold l_X10_nextEvent_82
      refine im_iload_n C 83 2 dX10_nextEvent_82 rfl rfl rfl ?_
      refine im_bipush C 85 dX10_nextEvent_83 rfl k_bp12 ?_
      refine im_ic_ge C 131 88 dX10_nextEvent_85 rfl rfl ?_ ?_
      · exact im_sub [1] [(1, .int z82.1)] rfl (hE_z82 z82.1)
      · refine im_aload_n C 89 0 dX10_nextEvent_88 rfl rfl rfl ?_
        refine gl_X10_7 C 92 (h0 32 (by decide) (by decide)) dX10_nextEvent_89 rfl ?_
        refine im_iload_n C 93 2 dX10_nextEvent_92 rfl rfl rfl ?_
        refine im_cSP C 96 sk_X10_net gw_990 (c_X10_net (x0 := z82.2) hU) (rle rfl) rfl (st := [.ref (ad 33 0)]) rfl (Nat.le_of_ble_eq_true rfl) dX10_nextEvent_93 rfl (fun o10 => ?_)
        refine im_iconst C 97 dX10_nextEvent_96 rfl k_ic4 ?_
        refine im_iadd C 98 dX10_nextEvent_97 rfl ?_
        refine im_rdi C 99 170 (h0 33 (by decide) (by decide)) rfl dX10_nextEvent_98 rfl (fun v11 => ?_)
        refine im_istore_n C 100 [(3, .int v11), (0, .ref (ad 32 0)), (1, .int z82.1), (2, .int z82.2)] dX10_nextEvent_99 rfl (by decide) rfl rfl ?_
        refine im_aload_n C 101 1 dX10_nextEvent_100 rfl rfl rfl ?_
        refine im_iload_n C 102 3 dX10_nextEvent_101 rfl rfl rfl ?_
        refine im_cVP C 105 vk_X10_hasOld gw_1254 (c_X10_hasOld (x1 := z82.2) hU h0) (h0 32 (by decide) (by decide)) rfl rfl (rle rfl) rfl (st := []) rfl (Nat.le_of_ble_eq_true rfl) dX10_nextEvent_102 rfl (fun o12 => ?_)
        refine im_if_eq C 123 108 dX10_nextEvent_105 rfl rfl ?_ ?_
        · refine im_iload_n C 124 2 dX10_nextEvent_123 rfl rfl rfl ?_
          refine im_istore_n C 125 [(1, .int z82.1), (3, .int v11), (0, .ref (ad 32 0)), (2, .int z82.2)] dX10_nextEvent_124 rfl (by decide) rfl rfl ?_
          refine im_iinc C 128 3 [(2, .int (z82.2 + (1 : Int32))), (1, .int z82.1), (3, .int v11), (0, .ref (ad 32 0))] dX10_nextEvent_125 rfl (k_inc1) (by decide) rfl rfl ?_
          refine im_goto C 82 dX10_nextEvent_128 rfl ?_
          exact im_sub [3, 1, 0] [(0, .ref (ad 32 0)), (1, .int z82.1), (2, .int (z82.2 + (1 : Int32)))] rfl (hX_z82 (z82.1, z82.2 + (1 : Int32)))
        · refine im_iload_n C 109 2 dX10_nextEvent_108 rfl rfl rfl ?_
          refine im_bipush C 111 dX10_nextEvent_109 rfl k_bpm9 ?_
          refine im_ic_eq C 119 114 dX10_nextEvent_111 rfl rfl ?_ ?_
          · refine im_iload_n C 120 0 dX10_nextEvent_119 rfl rfl rfl ?_
            refine im_goto C 124 dX10_nextEvent_120 rfl ?_
            refine im_istore_n C 125 [(1, .int v11), (3, .int v11), (0, .ref (ad 32 0)), (2, .int z82.2)] dX10_nextEvent_124 rfl (by decide) rfl rfl ?_
            refine im_iinc C 128 3 [(2, .int (z82.2 + (1 : Int32))), (1, .int v11), (3, .int v11), (0, .ref (ad 32 0))] dX10_nextEvent_125 rfl (k_inc1) (by decide) rfl rfl ?_
            refine im_goto C 82 dX10_nextEvent_128 rfl ?_
            exact im_sub [3, 1, 0] [(0, .ref (ad 32 0)), (1, .int v11), (2, .int (z82.2 + (1 : Int32)))] rfl (hX_z82 (v11, z82.2 + (1 : Int32)))
          · refine im_iload_n C 115 0 dX10_nextEvent_114 rfl rfl rfl ?_
            refine im_iload_n C 116 2 dX10_nextEvent_115 rfl rfl rfl ?_
            refine im_ic_ge C 123 119 dX10_nextEvent_116 rfl rfl ?_ ?_
            · refine im_iload_n C 124 2 dX10_nextEvent_123 rfl rfl rfl ?_
              refine im_istore_n C 125 [(1, .int z82.1), (3, .int v11), (0, .ref (ad 32 0)), (2, .int z82.2)] dX10_nextEvent_124 rfl (by decide) rfl rfl ?_
              refine im_iinc C 128 3 [(2, .int (z82.2 + (1 : Int32))), (1, .int z82.1), (3, .int v11), (0, .ref (ad 32 0))] dX10_nextEvent_125 rfl (k_inc1) (by decide) rfl rfl ?_
              refine im_goto C 82 dX10_nextEvent_128 rfl ?_
              exact im_sub [3, 1, 0] [(0, .ref (ad 32 0)), (1, .int z82.1), (2, .int (z82.2 + (1 : Int32)))] rfl (hX_z82 (z82.1, z82.2 + (1 : Int32)))
            · refine im_iload_n C 120 0 dX10_nextEvent_119 rfl rfl rfl ?_
              refine im_goto C 124 dX10_nextEvent_120 rfl ?_
              refine im_istore_n C 125 [(1, .int v11), (3, .int v11), (0, .ref (ad 32 0)), (2, .int z82.2)] dX10_nextEvent_124 rfl (by decide) rfl rfl ?_
              refine im_iinc C 128 3 [(2, .int (z82.2 + (1 : Int32))), (1, .int v11), (3, .int v11), (0, .ref (ad 32 0))] dX10_nextEvent_125 rfl (k_inc1) (by decide) rfl rfl ?_
              refine im_goto C 82 dX10_nextEvent_128 rfl ?_
              exact im_sub [3, 1, 0] [(0, .ref (ad 32 0)), (1, .int v11), (2, .int (z82.2 + (1 : Int32)))] rfl (hX_z82 (v11, z82.2 + (1 : Int32)))
  · unfold l_X10_nextEvent_5
    refine im_iload_n C 6 2 dX10_nextEvent_5 rfl rfl rfl ?_
    refine im_bipush C 8 dX10_nextEvent_6 rfl k_bp16 ?_
    refine im_ic_ge C 80 11 dX10_nextEvent_8 rfl rfl ?_ ?_
    · exact im_sub [0, 1] [(0, .ref (ad 32 0)), (1, .int z5.1)] rfl (hE_z5 z5.1)
    · refine im_iload_n C 12 2 dX10_nextEvent_11 rfl rfl rfl ?_
      refine im_cSP C 15 sk_X10_hostAt gw_997 (c_X10_hostAt (x0 := z5.2) hU) (rle rfl) rfl (st := []) rfl (Nat.le_of_ble_eq_true rfl) dX10_nextEvent_12 rfl (fun o2 => ?_)
      refine im_iconst C 16 dX10_nextEvent_15 rfl k_ic2 ?_
      refine im_iadd C 17 dX10_nextEvent_16 rfl ?_
      refine im_istore_n C 18 [(3, .int (o2 + (2 : Int32))), (0, .ref (ad 32 0)), (1, .int z5.1), (2, .int z5.2)] dX10_nextEvent_17 rfl (by decide) rfl rfl ?_
      refine im_sub [1, 2, 3, 0] [(0, .ref (ad 32 0)), (1, .int z5.1), (2, .int z5.2), (3, .int (o2 + (2 : Int32)))] rfl ?_
      refine im_lpB (l_X10_nextEvent_18 D z5) (fun z18 => [(0, .ref (ad 32 0)), (1, .int z18.1), (2, .int z5.2), (3, .int z18.2)]) (fun z18 => D) 74 (fun e3 => [(0, .ref (ad 32 0)), (1, .int e3), (2, .int z5.2)]) (fun e3 => D) (fun e3 => ?_) (fun z18 X_z18 hX_z18 hE_z18 => ?_) FU (z5.1, o2 + (2 : Int32))
      · refine im_iinc C 77 2 [(2, .int (z5.2 + (1 : Int32))), (0, .ref (ad 32 0)), (1, .int e3)] dX10_nextEvent_74 rfl (k_inc1) (by decide) rfl rfl ?_
        refine im_goto C 5 dX10_nextEvent_77 rfl ?_
        exact im_sub [1, 2, 0] [(0, .ref (ad 32 0)), (1, .int e3), (2, .int (z5.2 + (1 : Int32)))] rfl (hX_z5 (e3, z5.2 + (1 : Int32)))
      · unfold l_X10_nextEvent_18
        refine im_iload_n C 19 3 dX10_nextEvent_18 rfl rfl rfl ?_
        refine im_iload_n C 20 2 dX10_nextEvent_19 rfl rfl rfl ?_
        refine im_cSP C 23 sk_X10_hostAt gw_997 (c_X10_hostAt (x0 := z5.2) hU) (rle rfl) rfl (st := [.int z18.2]) rfl (Nat.le_of_ble_eq_true rfl) dX10_nextEvent_20 rfl (fun o4 => ?_)
        refine im_iconst C 24 dX10_nextEvent_23 rfl k_ic4 ?_
        refine im_iadd C 25 dX10_nextEvent_24 rfl ?_
        refine im_ic_gt C 74 28 dX10_nextEvent_25 rfl rfl ?_ ?_
        · exact im_sub [0, 1, 2] [(0, .ref (ad 32 0)), (1, .int z18.1), (2, .int z5.2)] rfl (hE_z18 z18.1)
        · refine im_aload_n C 29 0 dX10_nextEvent_28 rfl rfl rfl ?_
          refine gl_X10_7 C 32 (h0 32 (by decide) (by decide)) dX10_nextEvent_29 rfl ?_
          refine im_iload_n C 33 3 dX10_nextEvent_32 rfl rfl rfl ?_
          refine im_rdi C 34 170 (h0 33 (by decide) (by decide)) rfl dX10_nextEvent_33 rfl (fun v5 => ?_)
          refine im_if_lt C 66 37 dX10_nextEvent_34 rfl rfl ?_ ?_
          · refine im_iload_n C 67 1 dX10_nextEvent_66 rfl rfl rfl ?_
            refine im_istore_n C 68 [(1, .int z18.1), (0, .ref (ad 32 0)), (2, .int z5.2), (3, .int z18.2)] dX10_nextEvent_67 rfl (by decide) rfl rfl ?_
            refine im_iinc C 71 3 [(3, .int (z18.2 + (2 : Int32))), (1, .int z18.1), (0, .ref (ad 32 0)), (2, .int z5.2)] dX10_nextEvent_68 rfl (k_inc2) (by decide) rfl rfl ?_
            refine im_goto C 18 dX10_nextEvent_71 rfl ?_
            exact im_sub [2, 1, 3, 0] [(0, .ref (ad 32 0)), (1, .int z18.1), (2, .int z5.2), (3, .int (z18.2 + (2 : Int32)))] rfl (hX_z18 (z18.1, z18.2 + (2 : Int32)))
          · refine im_iload_n C 38 1 dX10_nextEvent_37 rfl rfl rfl ?_
            refine im_bipush C 40 dX10_nextEvent_38 rfl k_bpm9 ?_
            refine im_ic_eq C 55 43 dX10_nextEvent_40 rfl rfl ?_ ?_
            · refine im_aload_n C 56 0 dX10_nextEvent_55 rfl rfl rfl ?_
              refine gl_X10_7 C 59 (h0 32 (by decide) (by decide)) dX10_nextEvent_56 rfl ?_
              refine im_iload_n C 60 3 dX10_nextEvent_59 rfl rfl rfl ?_
              refine im_iconst C 61 dX10_nextEvent_60 rfl k_ic1 ?_
              refine im_iadd C 62 dX10_nextEvent_61 rfl ?_
              refine im_rdi C 63 170 (h0 33 (by decide) (by decide)) rfl dX10_nextEvent_62 rfl (fun v6 => ?_)
              refine im_goto C 67 dX10_nextEvent_63 rfl ?_
              refine im_istore_n C 68 [(1, .int v6), (0, .ref (ad 32 0)), (2, .int z5.2), (3, .int z18.2)] dX10_nextEvent_67 rfl (by decide) rfl rfl ?_
              refine im_iinc C 71 3 [(3, .int (z18.2 + (2 : Int32))), (1, .int v6), (0, .ref (ad 32 0)), (2, .int z5.2)] dX10_nextEvent_68 rfl (k_inc2) (by decide) rfl rfl ?_
              refine im_goto C 18 dX10_nextEvent_71 rfl ?_
              exact im_sub [2, 1, 3, 0] [(0, .ref (ad 32 0)), (1, .int v6), (2, .int z5.2), (3, .int (z18.2 + (2 : Int32)))] rfl (hX_z18 (v6, z18.2 + (2 : Int32)))
            · refine im_aload_n C 44 0 dX10_nextEvent_43 rfl rfl rfl ?_
              refine gl_X10_7 C 47 (h0 32 (by decide) (by decide)) dX10_nextEvent_44 rfl ?_
              refine im_iload_n C 48 3 dX10_nextEvent_47 rfl rfl rfl ?_
              refine im_iconst C 49 dX10_nextEvent_48 rfl k_ic1 ?_
              refine im_iadd C 50 dX10_nextEvent_49 rfl ?_
              refine im_rdi C 51 170 (h0 33 (by decide) (by decide)) rfl dX10_nextEvent_50 rfl (fun v7 => ?_)
              refine im_iload_n C 52 1 dX10_nextEvent_51 rfl rfl rfl ?_
              refine im_ic_ge C 66 55 dX10_nextEvent_52 rfl rfl ?_ ?_
              · refine im_iload_n C 67 1 dX10_nextEvent_66 rfl rfl rfl ?_
                refine im_istore_n C 68 [(1, .int z18.1), (0, .ref (ad 32 0)), (2, .int z5.2), (3, .int z18.2)] dX10_nextEvent_67 rfl (by decide) rfl rfl ?_
                refine im_iinc C 71 3 [(3, .int (z18.2 + (2 : Int32))), (1, .int z18.1), (0, .ref (ad 32 0)), (2, .int z5.2)] dX10_nextEvent_68 rfl (k_inc2) (by decide) rfl rfl ?_
                refine im_goto C 18 dX10_nextEvent_71 rfl ?_
                exact im_sub [2, 1, 3, 0] [(0, .ref (ad 32 0)), (1, .int z18.1), (2, .int z5.2), (3, .int (z18.2 + (2 : Int32)))] rfl (hX_z18 (z18.1, z18.2 + (2 : Int32)))
              · refine im_aload_n C 56 0 dX10_nextEvent_55 rfl rfl rfl ?_
                refine gl_X10_7 C 59 (h0 32 (by decide) (by decide)) dX10_nextEvent_56 rfl ?_
                refine im_iload_n C 60 3 dX10_nextEvent_59 rfl rfl rfl ?_
                refine im_iconst C 61 dX10_nextEvent_60 rfl k_ic1 ?_
                refine im_iadd C 62 dX10_nextEvent_61 rfl ?_
                refine im_rdi C 63 170 (h0 33 (by decide) (by decide)) rfl dX10_nextEvent_62 rfl (fun v8 => ?_)
                refine im_goto C 67 dX10_nextEvent_63 rfl ?_
                refine im_istore_n C 68 [(1, .int v8), (0, .ref (ad 32 0)), (2, .int z5.2), (3, .int z18.2)] dX10_nextEvent_67 rfl (by decide) rfl rfl ?_
                refine im_iinc C 71 3 [(3, .int (z18.2 + (2 : Int32))), (1, .int v8), (0, .ref (ad 32 0)), (2, .int z5.2)] dX10_nextEvent_68 rfl (k_inc2) (by decide) rfl rfl ?_
                refine im_goto C 18 dX10_nextEvent_71 rfl ?_
                exact im_sub [2, 1, 3, 0] [(0, .ref (ad 32 0)), (1, .int v8), (2, .int z5.2), (3, .int (z18.2 + (2 : Int32)))] rfl (hX_z18 (v8, z18.2 + (2 : Int32)))
set_option maxRecDepth 100000 in
set_option maxHeartbeats 4000000 in
theorem c_X10_netsWith {l : Launch} {G : va_G} {ad : Nat → Nat → Nat} {U : List (Nat × Nat)} {D : Dt} {x1 : Int32} (hU : Uinj ad U) (h0 : MoU U) : MI l G ad U yX10_netsWith cX10_netsWith 4 .int (k2_rm 1 20) [.ref (ad 32 0), .int x1] D ((f_X10_netsWith x1 D).bind (fun r => some (r, D))) := by
  refine mI_of (lv := [(0, .ref (ad 32 0)), (1, .int x1)]) (by decide) hU rfl (Nat.le_of_ble_eq_true rfl) (fun A p e s m args below meth c C => ?_)
  have C : Cx G ad U A p s m meth c args cX10_netsWith RX10 4 (some .int) := C
  unfold f_X10_netsWith
  refine im_iconst C 1 dX10_netsWith_0 rfl k_ic0 ?_
  refine im_istore_n C 2 [(2, .int (0 : Int32)), (0, .ref (ad 32 0)), (1, .int x1)] dX10_netsWith_1 rfl (by decide) rfl rfl ?_
  refine im_iconst C 3 dX10_netsWith_2 rfl k_ic0 ?_
  refine im_istore_n C 4 [(3, .int (0 : Int32)), (2, .int (0 : Int32)), (0, .ref (ad 32 0)), (1, .int x1)] dX10_netsWith_3 rfl (by decide) rfl rfl ?_
  refine im_sub [2, 3, 1, 0] [(0, .ref (ad 32 0)), (1, .int x1), (2, .int (0 : Int32)), (3, .int (0 : Int32))] rfl ?_
  refine im_lpB (l_X10_netsWith_4 x1 D) (fun z4 => [(0, .ref (ad 32 0)), (1, .int x1), (2, .int z4.1), (3, .int z4.2)]) (fun z4 => D) 38 (fun e1 => [(2, .int e1)]) (fun e1 => D) (fun e1 => ?_) (fun z4 X_z4 hX_z4 hE_z4 => ?_) FU ((0 : Int32), (0 : Int32))
  · refine im_iload_n C 39 0 dX10_netsWith_38 rfl rfl rfl ?_
    exact im_iret C rfl rfl dX10_netsWith_39
  · unfold l_X10_netsWith_4
    refine im_iload_n C 5 3 dX10_netsWith_4 rfl rfl rfl ?_
    refine im_bipush C 7 dX10_netsWith_5 rfl k_bp12 ?_
    refine im_ic_ge C 38 10 dX10_netsWith_7 rfl rfl ?_ ?_
    · exact im_sub [2] [(2, .int z4.1)] rfl (hE_z4 z4.1)
    · refine im_iload_n C 11 2 dX10_netsWith_10 rfl rfl rfl ?_
      refine im_aload_n C 12 0 dX10_netsWith_11 rfl rfl rfl ?_
      refine gl_X10_7 C 15 (h0 32 (by decide) (by decide)) dX10_netsWith_12 rfl ?_
      refine im_iload_n C 16 3 dX10_netsWith_15 rfl rfl rfl ?_
      refine im_cSP C 19 sk_X10_net gw_990 (c_X10_net (x0 := z4.2) hU) (rle rfl) rfl (st := [.ref (ad 33 0), .int z4.1]) rfl (Nat.le_of_ble_eq_true rfl) dX10_netsWith_16 rfl (fun o2 => ?_)
      refine im_iload_n C 20 1 dX10_netsWith_19 rfl rfl rfl ?_
      refine im_iadd C 21 dX10_netsWith_20 rfl ?_
      refine im_rdi C 22 170 (h0 33 (by decide) (by decide)) rfl dX10_netsWith_21 rfl (fun v3 => ?_)
      refine im_if_lt C 29 25 dX10_netsWith_22 rfl rfl ?_ ?_
      · refine im_iconst C 30 dX10_netsWith_29 rfl k_ic0 ?_
        refine im_iadd C 31 dX10_netsWith_30 rfl ?_
        refine im_istore_n C 32 [(2, .int (z4.1 + (0 : Int32))), (0, .ref (ad 32 0)), (1, .int x1), (3, .int z4.2)] dX10_netsWith_31 rfl (by decide) rfl rfl ?_
        refine im_iinc C 35 3 [(3, .int (z4.2 + (1 : Int32))), (2, .int (z4.1 + (0 : Int32))), (0, .ref (ad 32 0)), (1, .int x1)] dX10_netsWith_32 rfl (k_inc1) (by decide) rfl rfl ?_
        refine im_goto C 4 dX10_netsWith_35 rfl ?_
        exact im_sub [2, 3, 1, 0] [(0, .ref (ad 32 0)), (1, .int x1), (2, .int (z4.1 + (0 : Int32))), (3, .int (z4.2 + (1 : Int32)))] rfl (hX_z4 (z4.1 + (0 : Int32), z4.2 + (1 : Int32)))
      · refine im_iconst C 26 dX10_netsWith_25 rfl k_ic1 ?_
        refine im_goto C 30 dX10_netsWith_26 rfl ?_
        refine im_iadd C 31 dX10_netsWith_30 rfl ?_
        refine im_istore_n C 32 [(2, .int (z4.1 + (1 : Int32))), (0, .ref (ad 32 0)), (1, .int x1), (3, .int z4.2)] dX10_netsWith_31 rfl (by decide) rfl rfl ?_
        refine im_iinc C 35 3 [(3, .int (z4.2 + (1 : Int32))), (2, .int (z4.1 + (1 : Int32))), (0, .ref (ad 32 0)), (1, .int x1)] dX10_netsWith_32 rfl (k_inc1) (by decide) rfl rfl ?_
        refine im_goto C 4 dX10_netsWith_35 rfl ?_
        exact im_sub [2, 3, 1, 0] [(0, .ref (ad 32 0)), (1, .int x1), (2, .int (z4.1 + (1 : Int32))), (3, .int (z4.2 + (1 : Int32)))] rfl (hX_z4 (z4.1 + (1 : Int32), z4.2 + (1 : Int32)))
set_option maxRecDepth 100000 in
set_option maxHeartbeats 4000000 in
theorem c_X10_count {l : Launch} {G : va_G} {ad : Nat → Nat → Nat} {U : List (Nat × Nat)} {D : Dt} {x1 : Int32} (hU : Uinj ad U) (h0 : MoU U) : MI l G ad U yX10_count cX10_count 2 .int (k2_rm 5 113) [.ref (ad 32 0), .int x1] D (f_X10_count x1 D) := by
  refine mI_of0 (lv := [(0, .ref (ad 32 0)), (1, .int x1)]) (by decide) hU rfl (Nat.le_of_ble_eq_true rfl) (fun A p e s m args below meth c C => ?_)
  have C : Cx G ad U A p s m meth c args cX10_count RX10 2 (some .int) := C
  unfold f_X10_count
  refine im_aload_n C 1 0 dX10_count_0 rfl rfl rfl ?_
  refine im_cVV C 4 vk_X10_findsAllFree gw_1129 (c_X10_findsAllFree  hU h0) (h0 32 (by decide) (by decide)) rfl rfl (rle rfl) rfl (st := []) rfl (Nat.le_of_ble_eq_true rfl) dX10_count_1 rfl (fun D1 => ?_)
  refine im_iload_n C 5 1 dX10_count_4 rfl rfl rfl ?_
  refine im_ite (fun s5_0 => ?_) (fun s5_0 => ?_)
  · refine im_tabIn C 56 (y := (0 : Int32)) s5_0 dX10_count_5 (by decide) (by decide) rfl rfl ?_
    refine im_aload_n C 57 0 dX10_count_56 rfl rfl rfl ?_
    refine gl_X10_7 C 60 (h0 32 (by decide) (by decide)) dX10_count_57 rfl ?_
    refine im_iconst C 61 dX10_count_60 rfl k_ic0 ?_
    refine im_rdi C 62 170 (h0 33 (by decide) (by decide)) rfl dX10_count_61 rfl (fun v2 => ?_)
    exact im_iret C rfl rfl dX10_count_62
  · refine im_ite (fun s5_1 => ?_) (fun s5_1 => ?_)
    · refine im_tabIn C 63 (y := (1 : Int32)) s5_1 dX10_count_5 (by decide) (by decide) rfl rfl ?_
      refine im_aload_n C 64 0 dX10_count_63 rfl rfl rfl ?_
      refine gl_X10_7 C 67 (h0 32 (by decide) (by decide)) dX10_count_64 rfl ?_
      refine im_iconst C 68 dX10_count_67 rfl k_ic5 ?_
      refine im_rdi C 69 170 (h0 33 (by decide) (by decide)) rfl dX10_count_68 rfl (fun v3 => ?_)
      exact im_iret C rfl rfl dX10_count_69
    · refine im_ite (fun s5_2 => ?_) (fun s5_2 => ?_)
      · refine im_tabIn C 70 (y := (2 : Int32)) s5_2 dX10_count_5 (by decide) (by decide) rfl rfl ?_
        refine im_aload_n C 71 0 dX10_count_70 rfl rfl rfl ?_
        refine im_iconst C 72 dX10_count_71 rfl k_ic0 ?_
        refine im_cVP C 75 vk_X10_netsWith gw_1330 (c_X10_netsWith (x1 := (0 : Int32)) hU h0) (h0 32 (by decide) (by decide)) rfl rfl (rle rfl) rfl (st := []) rfl (Nat.le_of_ble_eq_true rfl) dX10_count_72 rfl (fun o4 => ?_)
        exact im_iret C rfl rfl dX10_count_75
      · refine im_ite (fun s5_3 => ?_) (fun s5_3 => ?_)
        · refine im_tabIn C 76 (y := (3 : Int32)) s5_3 dX10_count_5 (by decide) (by decide) rfl rfl ?_
          refine im_aload_n C 77 0 dX10_count_76 rfl rfl rfl ?_
          refine im_iconst C 78 dX10_count_77 rfl k_ic2 ?_
          refine im_cVP C 81 vk_X10_netsWith gw_1330 (c_X10_netsWith (x1 := (2 : Int32)) hU h0) (h0 32 (by decide) (by decide)) rfl rfl (rle rfl) rfl (st := []) rfl (Nat.le_of_ble_eq_true rfl) dX10_count_78 rfl (fun o5 => ?_)
          exact im_iret C rfl rfl dX10_count_81
        · refine im_ite (fun s5_4 => ?_) (fun s5_4 => ?_)
          · refine im_tabIn C 82 (y := (4 : Int32)) s5_4 dX10_count_5 (by decide) (by decide) rfl rfl ?_
            refine im_bipush C 84 dX10_count_82 rfl k_bp16 ?_
            refine im_aload_n C 85 0 dX10_count_84 rfl rfl rfl ?_
            refine im_iconst C 86 dX10_count_85 rfl k_icm1 ?_
            refine im_cVP C 89 vk_X10_hostsOf gw_1235 (c_X10_hostsOf (x1 := (-1 : Int32)) hU h0) (h0 32 (by decide) (by decide)) rfl rfl (rle rfl) rfl (st := [.int (16 : Int32)]) rfl (Nat.le_of_ble_eq_true rfl) dX10_count_86 rfl (fun o6 => ?_)
            refine im_isub C 90 dX10_count_89 rfl ?_
            exact im_iret C rfl rfl dX10_count_90
          · refine im_ite (fun s5_5 => ?_) (fun s5_5 => ?_)
            · refine im_tabIn C 91 (y := (5 : Int32)) s5_5 dX10_count_5 (by decide) (by decide) rfl rfl ?_
              refine im_aload_n C 92 0 dX10_count_91 rfl rfl rfl ?_
              refine im_cVP C 95 vk_X10_leases gw_1334 (c_X10_leases  hU h0) (h0 32 (by decide) (by decide)) rfl rfl (rle rfl) rfl (st := []) rfl (Nat.le_of_ble_eq_true rfl) dX10_count_92 rfl (fun o7 => ?_)
              exact im_iret C rfl rfl dX10_count_95
            · refine im_ite (fun s5_6 => ?_) (fun s5_6 => ?_)
              · refine im_tabIn C 96 (y := (6 : Int32)) s5_6 dX10_count_5 (by decide) (by decide) rfl rfl ?_
                refine im_aload_n C 97 0 dX10_count_96 rfl rfl rfl ?_
                refine gl_X10_7 C 100 (h0 32 (by decide) (by decide)) dX10_count_97 rfl ?_
                refine im_iconst C 101 dX10_count_100 rfl k_ic4 ?_
                refine im_rdi C 102 170 (h0 33 (by decide) (by decide)) rfl dX10_count_101 rfl (fun v8 => ?_)
                exact im_iret C rfl rfl dX10_count_102
              · refine im_ite (fun s5_7 => ?_) (fun s5_7 => ?_)
                · refine im_tabIn C 103 (y := (7 : Int32)) s5_7 dX10_count_5 (by decide) (by decide) rfl rfl ?_
                  refine im_aload_n C 104 0 dX10_count_103 rfl rfl rfl ?_
                  refine gl_X10_66 C 107 (h0 32 (by decide) (by decide)) dX10_count_104 rfl ?_
                  exact im_iret C rfl rfl dX10_count_107
                · refine im_ite (fun s5_8 => ?_) (fun s5_8 => ?_)
                  · refine im_tabIn C 108 (y := (8 : Int32)) s5_8 dX10_count_5 (by decide) (by decide) rfl rfl ?_
                    refine im_aload_n C 109 0 dX10_count_108 rfl rfl rfl ?_
                    refine gl_X10_46 C 112 (h0 32 (by decide) (by decide)) dX10_count_109 rfl ?_
                    exact im_iret C rfl rfl dX10_count_112
                  · refine im_tabOut C 113 dX10_count_5 (by have a0 := nz s5_0 (n := 0) (by decide); have a1 := nz s5_1 (n := 1) (by decide); have a2 := nz s5_2 (n := 2) (by decide); have a3 := nz s5_3 (n := 3) (by decide); have a4 := nz s5_4 (n := 4) (by decide); have a5 := nz s5_5 (n := 5) (by decide); have a6 := nz s5_6 (n := 6) (by decide); have a7 := nz s5_7 (n := 7) (by decide); have a8 := nz s5_8 (n := 8) (by decide); omega) rfl ?_
                    refine im_iconst C 114 dX10_count_113 rfl k_icm1 ?_
                    exact im_iret C rfl rfl dX10_count_114
set_option maxRecDepth 100000 in
set_option maxHeartbeats 4000000 in
theorem c_X10_nextBlock {l : Launch} {G : va_G} {ad : Nat → Nat → Nat} {U : List (Nat × Nat)} {D : Dt} {x1 : Int32} (hU : Uinj ad U) (h0 : MoU U) : MI l G ad U yX10_nextBlock cX10_nextBlock 4 .int (k2_rm 2 41) [.ref (ad 32 0), .int x1] D ((f_X10_nextBlock x1 D).bind (fun r => some (r, D))) := by
  refine mI_of (lv := [(0, .ref (ad 32 0)), (1, .int x1)]) (by decide) hU rfl (Nat.le_of_ble_eq_true rfl) (fun A p e s m args below meth c C => ?_)
  have C : Cx G ad U A p s m meth c args cX10_nextBlock RX10 4 (some .int) := C
  unfold f_X10_nextBlock
  refine im_ldc C 2 gw_1270 dX10_nextBlock_0 rfl ?_
  refine im_istore_n C 3 [(2, .int (65536 : Int32)), (0, .ref (ad 32 0)), (1, .int x1)] dX10_nextBlock_2 rfl (by decide) rfl rfl ?_
  refine im_iconst C 4 dX10_nextBlock_3 rfl k_ic0 ?_
  refine im_istore_n C 5 [(3, .int (0 : Int32)), (2, .int (65536 : Int32)), (0, .ref (ad 32 0)), (1, .int x1)] dX10_nextBlock_4 rfl (by decide) rfl rfl ?_
  refine im_sub [2, 3, 1, 0] [(0, .ref (ad 32 0)), (1, .int x1), (2, .int (65536 : Int32)), (3, .int (0 : Int32))] rfl ?_
  refine im_lpB (l_X10_nextBlock_5 x1 D) (fun z5 => [(0, .ref (ad 32 0)), (1, .int x1), (2, .int z5.1), (3, .int z5.2)]) (fun z5 => D) 45 (fun e1 => [(2, .int e1)]) (fun e1 => D) (fun e1 => ?_) (fun z5 X_z5 hX_z5 hE_z5 => ?_) FU ((65536 : Int32), (0 : Int32))
  · refine im_iload_n C 46 0 dX10_nextBlock_45 rfl rfl rfl ?_
    exact im_iret C rfl rfl dX10_nextBlock_46
  · unfold l_X10_nextBlock_5
    refine im_iload_n C 6 3 dX10_nextBlock_5 rfl rfl rfl ?_
    refine im_bipush C 8 dX10_nextBlock_6 rfl k_bp24 ?_
    refine im_ic_ge C 45 11 dX10_nextBlock_8 rfl rfl ?_ ?_
    · exact im_sub [2] [(2, .int z5.1)] rfl (hE_z5 z5.1)
    · refine im_aload_n C 12 0 dX10_nextBlock_11 rfl rfl rfl ?_
      refine im_iload_n C 13 3 dX10_nextBlock_12 rfl rfl rfl ?_
      refine im_cVP C 16 vk_X10_blockAt gw_1141 (c_X10_blockAt (x1 := z5.2) hU h0) (h0 32 (by decide) (by decide)) rfl rfl (rle rfl) rfl (st := []) rfl (Nat.le_of_ble_eq_true rfl) dX10_nextBlock_13 rfl (fun o2 => ?_)
      refine im_iload_n C 17 1 dX10_nextBlock_16 rfl rfl rfl ?_
      refine im_ic_lt C 37 20 dX10_nextBlock_17 rfl rfl ?_ ?_
      · refine im_iload_n C 38 2 dX10_nextBlock_37 rfl rfl rfl ?_
        refine im_istore_n C 39 [(2, .int z5.1), (0, .ref (ad 32 0)), (1, .int x1), (3, .int z5.2)] dX10_nextBlock_38 rfl (by decide) rfl rfl ?_
        refine im_iinc C 42 3 [(3, .int (z5.2 + (1 : Int32))), (2, .int z5.1), (0, .ref (ad 32 0)), (1, .int x1)] dX10_nextBlock_39 rfl (k_inc1) (by decide) rfl rfl ?_
        refine im_goto C 5 dX10_nextBlock_42 rfl ?_
        exact im_sub [2, 3, 1, 0] [(0, .ref (ad 32 0)), (1, .int x1), (2, .int z5.1), (3, .int (z5.2 + (1 : Int32)))] rfl (hX_z5 (z5.1, z5.2 + (1 : Int32)))
      · refine im_aload_n C 21 0 dX10_nextBlock_20 rfl rfl rfl ?_
        refine im_iload_n C 22 3 dX10_nextBlock_21 rfl rfl rfl ?_
        refine im_cVP C 25 vk_X10_blockAt gw_1141 (c_X10_blockAt (x1 := z5.2) hU h0) (h0 32 (by decide) (by decide)) rfl rfl (rle rfl) rfl (st := []) rfl (Nat.le_of_ble_eq_true rfl) dX10_nextBlock_22 rfl (fun o3 => ?_)
        refine im_iload_n C 26 2 dX10_nextBlock_25 rfl rfl rfl ?_
        refine im_ic_ge C 37 29 dX10_nextBlock_26 rfl rfl ?_ ?_
        · refine im_iload_n C 38 2 dX10_nextBlock_37 rfl rfl rfl ?_
          refine im_istore_n C 39 [(2, .int z5.1), (0, .ref (ad 32 0)), (1, .int x1), (3, .int z5.2)] dX10_nextBlock_38 rfl (by decide) rfl rfl ?_
          refine im_iinc C 42 3 [(3, .int (z5.2 + (1 : Int32))), (2, .int z5.1), (0, .ref (ad 32 0)), (1, .int x1)] dX10_nextBlock_39 rfl (k_inc1) (by decide) rfl rfl ?_
          refine im_goto C 5 dX10_nextBlock_42 rfl ?_
          exact im_sub [2, 3, 1, 0] [(0, .ref (ad 32 0)), (1, .int x1), (2, .int z5.1), (3, .int (z5.2 + (1 : Int32)))] rfl (hX_z5 (z5.1, z5.2 + (1 : Int32)))
        · refine im_aload_n C 30 0 dX10_nextBlock_29 rfl rfl rfl ?_
          refine im_iload_n C 31 3 dX10_nextBlock_30 rfl rfl rfl ?_
          refine im_cVP C 34 vk_X10_blockAt gw_1141 (c_X10_blockAt (x1 := z5.2) hU h0) (h0 32 (by decide) (by decide)) rfl rfl (rle rfl) rfl (st := []) rfl (Nat.le_of_ble_eq_true rfl) dX10_nextBlock_31 rfl (fun o4 => ?_)
          refine im_goto C 38 dX10_nextBlock_34 rfl ?_
          refine im_istore_n C 39 [(2, .int o4), (0, .ref (ad 32 0)), (1, .int x1), (3, .int z5.2)] dX10_nextBlock_38 rfl (by decide) rfl rfl ?_
          refine im_iinc C 42 3 [(3, .int (z5.2 + (1 : Int32))), (2, .int o4), (0, .ref (ad 32 0)), (1, .int x1)] dX10_nextBlock_39 rfl (k_inc1) (by decide) rfl rfl ?_
          refine im_goto C 5 dX10_nextBlock_42 rfl ?_
          exact im_sub [2, 3, 1, 0] [(0, .ref (ad 32 0)), (1, .int x1), (2, .int o4), (3, .int (z5.2 + (1 : Int32)))] rfl (hX_z5 (o4, z5.2 + (1 : Int32)))
set_option maxRecDepth 100000 in
set_option maxHeartbeats 4000000 in
theorem c_X10_findsRoute {l : Launch} {G : va_G} {ad : Nat → Nat → Nat} {U : List (Nat × Nat)} {D : Dt} {x1 : Int32} (hU : Uinj ad U) (h0 : MoU U) : MI l G ad U yX10_findsRoute cX10_findsRoute 5 .int (k2_rm 3 68) [.ref (ad 32 0), .int x1] D (f_X10_findsRoute x1 D) := by
  refine mI_of0 (lv := [(0, .ref (ad 32 0)), (1, .int x1)]) (by decide) hU rfl (Nat.le_of_ble_eq_true rfl) (fun A p e s m args below meth c C => ?_)
  have C : Cx G ad U A p s m meth c args cX10_findsRoute RX10 5 (some .int) := C
  unfold f_X10_findsRoute
  refine im_iconst C 1 dX10_findsRoute_0 rfl k_ic0 ?_
  refine im_istore_n C 2 [(2, .int (0 : Int32)), (0, .ref (ad 32 0)), (1, .int x1)] dX10_findsRoute_1 rfl (by decide) rfl rfl ?_
  refine im_aload_n C 3 1 dX10_findsRoute_2 rfl rfl rfl ?_
  refine im_iconst C 4 dX10_findsRoute_3 rfl k_ic0 ?_
  refine im_cVP C 7 vk_X10_nextBlock gw_1346 (c_X10_nextBlock (x1 := (0 : Int32)) hU h0) (h0 32 (by decide) (by decide)) rfl rfl (rle rfl) rfl (st := []) rfl (Nat.le_of_ble_eq_true rfl) dX10_findsRoute_4 rfl (fun o1 => ?_)
  refine im_istore_n C 8 [(3, .int o1), (2, .int (0 : Int32)), (0, .ref (ad 32 0)), (1, .int x1)] dX10_findsRoute_7 rfl (by decide) rfl rfl ?_
  refine im_sub [2, 3, 1, 0] [(0, .ref (ad 32 0)), (1, .int x1), (2, .int (0 : Int32)), (3, .int o1)] rfl ?_
  refine im_lpI (l_X10_findsRoute_8 x1 D) (fun z8 => [(0, .ref (ad 32 0)), (1, .int x1), (2, .int z8.1), (3, .int z8.2)]) (fun z8 => D) (fun z8 X_z8 hX_z8 => ?_) FU ((0 : Int32), o1)
  unfold l_X10_findsRoute_8
  refine im_iload_n C 9 3 dX10_findsRoute_8 rfl rfl rfl ?_
  refine im_ldc C 11 gw_1270 dX10_findsRoute_9 rfl ?_
  refine im_ic_ge C 79 14 dX10_findsRoute_11 rfl rfl ?_ ?_
  · refine im_iload_n C 80 1 dX10_findsRoute_79 rfl rfl rfl ?_
    refine im_if_ge C 87 83 dX10_findsRoute_80 rfl rfl ?_ ?_
    · refine im_bipush C 89 dX10_findsRoute_87 rfl k_bpm9 ?_
      exact im_iret C rfl rfl dX10_findsRoute_89
    · refine im_iload_n C 84 2 dX10_findsRoute_83 rfl rfl rfl ?_
      refine im_goto C 89 dX10_findsRoute_84 rfl ?_
      exact im_iret C rfl rfl dX10_findsRoute_89
  · refine im_iconst C 15 dX10_findsRoute_14 rfl k_ic0 ?_
    refine im_istore C 17 [(4, .int (0 : Int32)), (0, .ref (ad 32 0)), (1, .int x1), (2, .int z8.1), (3, .int z8.2)] dX10_findsRoute_15 (by decide) rfl rfl ?_
    refine im_sub [1, 2, 3, 4, 0] [(0, .ref (ad 32 0)), (1, .int x1), (2, .int z8.1), (3, .int z8.2), (4, .int (0 : Int32))] rfl ?_
    refine im_lpB (l_X10_findsRoute_17 D z8) (fun z17 => [(0, .ref (ad 32 0)), (1, .int x1), (2, .int z8.1), (3, .int z8.2), (4, .int z17)]) (fun z17 => D) 48 (fun e2 => [(0, .ref (ad 32 0)), (1, .int x1), (2, .int z8.1), (3, .int z8.2), (4, .int e2)]) (fun e2 => D) (fun e2 => ?_) (fun z17 X_z17 hX_z17 hE_z17 => ?_) FU (0 : Int32)
    · refine im_iload_n C 49 2 dX10_findsRoute_48 rfl rfl rfl ?_
      refine im_iload_n C 50 1 dX10_findsRoute_49 rfl rfl rfl ?_
      refine im_ic_ne C 61 53 dX10_findsRoute_50 rfl rfl ?_ ?_
      · refine im_iinc C 64 2 [(2, .int (z8.1 + (1 : Int32))), (0, .ref (ad 32 0)), (1, .int x1), (3, .int z8.2), (4, .int e2)] dX10_findsRoute_61 rfl (k_inc1) (by decide) rfl rfl ?_
        refine im_aload_n C 65 1 dX10_findsRoute_64 rfl rfl rfl ?_
        refine im_iload_n C 66 3 dX10_findsRoute_65 rfl rfl rfl ?_
        refine im_iload C 68 4 dX10_findsRoute_66 rfl rfl ?_
        refine im_cSP C 71 sk_X10_size gw_1113 (c_X10_size (x0 := e2) hU) (rle rfl) rfl (st := [.int z8.2, .ref (ad 32 0)]) rfl (Nat.le_of_ble_eq_true rfl) dX10_findsRoute_68 rfl (fun o6 => ?_)
        refine im_iadd C 72 dX10_findsRoute_71 rfl ?_
        refine im_cVP C 75 vk_X10_nextBlock gw_1346 (c_X10_nextBlock (x1 := z8.2 + o6) hU h0) (h0 32 (by decide) (by decide)) rfl rfl (rle rfl) rfl (st := []) rfl (Nat.le_of_ble_eq_true rfl) dX10_findsRoute_72 rfl (fun o7 => ?_)
        refine im_istore_n C 76 [(3, .int o7), (2, .int (z8.1 + (1 : Int32))), (0, .ref (ad 32 0)), (1, .int x1), (4, .int e2)] dX10_findsRoute_75 rfl (by decide) rfl rfl ?_
        refine im_goto C 8 dX10_findsRoute_76 rfl ?_
        exact im_sub [2, 3, 1, 0] [(0, .ref (ad 32 0)), (1, .int x1), (2, .int (z8.1 + (1 : Int32))), (3, .int o7)] rfl (hX_z8 (z8.1 + (1 : Int32), o7))
      · refine im_aload_n C 54 0 dX10_findsRoute_53 rfl rfl rfl ?_
        refine im_iload C 56 4 dX10_findsRoute_54 rfl rfl ?_
        refine pl_X10_229 C 59 (h0 32 (by decide) (by decide)) dX10_findsRoute_56 rfl (fun D8 => ?_)
        refine im_iload_n C 60 3 dX10_findsRoute_59 rfl rfl rfl ?_
        exact im_iret C rfl rfl dX10_findsRoute_60
    · unfold l_X10_findsRoute_17
      refine im_iload_n C 18 3 dX10_findsRoute_17 rfl rfl rfl ?_
      refine im_iload C 20 4 dX10_findsRoute_18 rfl rfl ?_
      refine im_cSP C 23 sk_X10_size gw_1113 (c_X10_size (x0 := z17) hU) (rle rfl) rfl (st := [.int z8.2]) rfl (Nat.le_of_ble_eq_true rfl) dX10_findsRoute_20 rfl (fun o3 => ?_)
      refine im_irem C 24 dX10_findsRoute_23 rfl ?_
      refine im_if_ne C 42 27 dX10_findsRoute_24 rfl rfl ?_ ?_
      · refine im_iinc C 45 4 [(4, .int (z17 + (1 : Int32))), (0, .ref (ad 32 0)), (1, .int x1), (2, .int z8.1), (3, .int z8.2)] dX10_findsRoute_42 rfl (k_inc1) (by decide) rfl rfl ?_
        refine im_goto C 17 dX10_findsRoute_45 rfl ?_
        exact im_sub [1, 2, 3, 4, 0] [(0, .ref (ad 32 0)), (1, .int x1), (2, .int z8.1), (3, .int z8.2), (4, .int (z17 + (1 : Int32)))] rfl (hX_z17 (z17 + (1 : Int32)))
      · refine im_aload_n C 28 0 dX10_findsRoute_27 rfl rfl rfl ?_
        refine im_iload_n C 29 3 dX10_findsRoute_28 rfl rfl rfl ?_
        refine im_iload C 31 4 dX10_findsRoute_29 rfl rfl ?_
        refine im_cVP C 34 vk_X10_assignedIn gw_1137 (c_X10_assignedIn (x1 := z8.2) (x2 := z17) hU h0) (h0 32 (by decide) (by decide)) rfl rfl (rle rfl) rfl (st := []) rfl (Nat.le_of_ble_eq_true rfl) dX10_findsRoute_31 rfl (fun o4 => ?_)
        refine im_iload C 36 4 dX10_findsRoute_34 rfl rfl ?_
        refine im_cSP C 39 sk_X10_size gw_1113 (c_X10_size (x0 := z17) hU) (rle rfl) rfl (st := [.int o4]) rfl (Nat.le_of_ble_eq_true rfl) dX10_findsRoute_36 rfl (fun o5 => ?_)
        refine im_ic_ge C 48 42 dX10_findsRoute_39 rfl rfl ?_ ?_
        · exact hE_z17 z17
        · refine im_iinc C 45 4 [(4, .int (z17 + (1 : Int32))), (0, .ref (ad 32 0)), (1, .int x1), (2, .int z8.1), (3, .int z8.2)] dX10_findsRoute_42 rfl (k_inc1) (by decide) rfl rfl ?_
          refine im_goto C 17 dX10_findsRoute_45 rfl ?_
          exact im_sub [1, 2, 3, 4, 0] [(0, .ref (ad 32 0)), (1, .int x1), (2, .int z8.1), (3, .int z8.2), (4, .int (z17 + (1 : Int32)))] rfl (hX_z17 (z17 + (1 : Int32)))
set_option maxRecDepth 100000 in
set_option maxHeartbeats 4000000 in
theorem c_X10_routeCount {l : Launch} {G : va_G} {ad : Nat → Nat → Nat} {U : List (Nat × Nat)} {D : Dt} (hU : Uinj ad U) (h0 : MoU U) : MI l G ad U yX10_routeCount cX10_routeCount 1 .int (k2_rm 4 92) [.ref (ad 32 0)] D (f_X10_routeCount D) := by
  refine mI_of0 (lv := [(0, .ref (ad 32 0))]) (by decide) hU rfl (Nat.le_of_ble_eq_true rfl) (fun A p e s m args below meth c C => ?_)
  have C : Cx G ad U A p s m meth c args cX10_routeCount RX10 1 (some .int) := C
  unfold f_X10_routeCount
  refine im_aload_n C 1 0 dX10_routeCount_0 rfl rfl rfl ?_
  refine im_iconst C 2 dX10_routeCount_1 rfl k_icm1 ?_
  refine im_cVI C 5 vk_X10_findsRoute gw_1342 (c_X10_findsRoute (x1 := (-1 : Int32)) hU h0) (h0 32 (by decide) (by decide)) rfl rfl (rle rfl) rfl (st := []) rfl (Nat.le_of_ble_eq_true rfl) dX10_routeCount_2 rfl (fun o1 => ?_)
  exact im_iret C rfl rfl dX10_routeCount_5
set_option maxRecDepth 100000 in
set_option maxHeartbeats 4000000 in
theorem c_X10_route {l : Launch} {G : va_G} {ad : Nat → Nat → Nat} {U : List (Nat × Nat)} {D : Dt} {x1 : Int32} {x2 : Int32} (hU : Uinj ad U) (h0 : MoU U) : MI l G ad U yX10_route cX10_route 4 .int (k2_rm 4 92) [.ref (ad 32 0), .int x1, .int x2] D (f_X10_route x1 x2 D) := by
  refine mI_of0 (lv := [(0, .ref (ad 32 0)), (1, .int x1), (2, .int x2)]) (by decide) hU rfl (Nat.le_of_ble_eq_true rfl) (fun A p e s m args below meth c C => ?_)
  have C : Cx G ad U A p s m meth c args cX10_route RX10 4 (some .int) := C
  unfold f_X10_route
  refine im_iload_n C 1 1 dX10_route_0 rfl rfl rfl ?_
  refine im_if_lt C 13 4 dX10_route_1 rfl rfl ?_ ?_
  · refine im_iconst C 14 dX10_route_13 rfl k_icm1 ?_
    exact im_iret C rfl rfl dX10_route_14
  · refine im_iload_n C 5 2 dX10_route_4 rfl rfl rfl ?_
    refine im_iconst C 6 dX10_route_5 rfl k_ic0 ?_
    refine im_iconst C 7 dX10_route_6 rfl k_ic1 ?_
    refine im_cSP C 10 sk_X10_in gw_1066 (c_X10_in (x0 := x2) (x1 := (0 : Int32)) (x2 := (1 : Int32)) hU) (rle rfl) rfl (st := []) rfl (Nat.le_of_ble_eq_true rfl) dX10_route_7 rfl (fun o1 => ?_)
    refine im_if_ne C 15 13 dX10_route_10 rfl rfl ?_ ?_
    · refine im_aload_n C 16 0 dX10_route_15 rfl rfl rfl ?_
      refine im_iload_n C 17 1 dX10_route_16 rfl rfl rfl ?_
      refine im_cVI C 20 vk_X10_findsRoute gw_1342 (c_X10_findsRoute (x1 := x1) hU h0) (h0 32 (by decide) (by decide)) rfl rfl (rle rfl) rfl (st := []) rfl (Nat.le_of_ble_eq_true rfl) dX10_route_17 rfl (fun o2 => ?_)
      refine im_istore_n C 21 [(3, .int o2.1), (0, .ref (ad 32 0)), (1, .int x1), (2, .int x2)] dX10_route_20 rfl (by decide) rfl rfl ?_
      refine im_iload_n C 22 0 dX10_route_21 rfl rfl rfl ?_
      refine im_bipush C 24 dX10_route_22 rfl k_bpm9 ?_
      refine im_ic_eq C 31 27 dX10_route_24 rfl rfl ?_ ?_
      · refine im_iload_n C 32 0 dX10_route_31 rfl rfl rfl ?_
        refine im_goto C 39 dX10_route_32 rfl ?_
        exact im_iret C rfl rfl dX10_route_39
      · refine im_iload_n C 28 3 dX10_route_27 rfl rfl rfl ?_
        refine im_if_ne C 35 31 dX10_route_28 rfl rfl ?_ ?_
        · refine im_aload_n C 36 1 dX10_route_35 rfl rfl rfl ?_
          refine gl_X10_229 C 39 (h0 32 (by decide) (by decide)) dX10_route_36 rfl ?_
          exact im_iret C rfl rfl dX10_route_39
        · refine im_iload_n C 32 0 dX10_route_31 rfl rfl rfl ?_
          refine im_goto C 39 dX10_route_32 rfl ?_
          exact im_iret C rfl rfl dX10_route_39
    · refine im_iconst C 14 dX10_route_13 rfl k_icm1 ?_
      exact im_iret C rfl rfl dX10_route_14
set_option maxRecDepth 100000 in
set_option maxHeartbeats 4000000 in
theorem c_X10_indexAfter {l : Launch} {G : va_G} {ad : Nat → Nat → Nat} {U : List (Nat × Nat)} {D : Dt} {x1 : Int32} (hU : Uinj ad U) (h0 : MoU U) : MI l G ad U yX10_indexAfter cX10_indexAfter 4 .int (k2_rm 7 156) [.ref (ad 32 0), .int x1] D (f_X10_indexAfter x1 D) := by
  refine mI_of0 (lv := [(0, .ref (ad 32 0)), (1, .int x1)]) (by decide) hU rfl (Nat.le_of_ble_eq_true rfl) (fun A p e s m args below meth c C => ?_)
  have C : Cx G ad U A p s m meth c args cX10_indexAfter RX10 4 (some .int) := C
  unfold f_X10_indexAfter
  refine im_aload_n C 1 0 dX10_indexAfter_0 rfl rfl rfl ?_
  refine gl_X10_7 C 4 (h0 32 (by decide) (by decide)) dX10_indexAfter_1 rfl ?_
  refine im_iload_n C 5 1 dX10_indexAfter_4 rfl rfl rfl ?_
  refine im_cSP C 8 sk_X10_net gw_990 (c_X10_net (x0 := x1) hU) (rle rfl) rfl (st := [.ref (ad 33 0)]) rfl (Nat.le_of_ble_eq_true rfl) dX10_indexAfter_5 rfl (fun o1 => ?_)
  refine im_rdi C 9 170 (h0 33 (by decide) (by decide)) rfl dX10_indexAfter_8 rfl (fun v2 => ?_)
  refine im_istore_n C 10 [(2, .int v2), (0, .ref (ad 32 0)), (1, .int x1)] dX10_indexAfter_9 rfl (by decide) rfl rfl ?_
  refine im_aload_n C 11 1 dX10_indexAfter_10 rfl rfl rfl ?_
  refine im_aload_n C 12 1 dX10_indexAfter_11 rfl rfl rfl ?_
  refine im_aload_n C 13 1 dX10_indexAfter_12 rfl rfl rfl ?_
  refine gl_X10_7 C 16 (h0 32 (by decide) (by decide)) dX10_indexAfter_13 rfl ?_
  refine im_iload_n C 17 2 dX10_indexAfter_16 rfl rfl rfl ?_
  refine im_cSP C 20 sk_X10_net gw_990 (c_X10_net (x0 := x1) hU) (rle rfl) rfl (st := [.ref (ad 33 0), .ref (ad 32 0), .ref (ad 32 0)]) rfl (Nat.le_of_ble_eq_true rfl) dX10_indexAfter_17 rfl (fun o3 => ?_)
  refine im_iconst C 21 dX10_indexAfter_20 rfl k_ic1 ?_
  refine im_iadd C 22 dX10_indexAfter_21 rfl ?_
  refine im_rdi C 23 170 (h0 33 (by decide) (by decide)) rfl dX10_indexAfter_22 rfl (fun v4 => ?_)
  refine im_cVI C 26 vk_X10_places gw_1125 (c_X10_places (x1 := v4) hU h0) (h0 32 (by decide) (by decide)) rfl rfl (rle rfl) rfl (st := [.ref (ad 32 0)]) rfl (Nat.le_of_ble_eq_true rfl) dX10_indexAfter_23 rfl (fun o5 => ?_)
  refine pl_X10_235 C 29 (h0 32 (by decide) (by decide)) dX10_indexAfter_26 rfl (fun D6 => ?_)
  refine im_aload_n C 30 1 dX10_indexAfter_29 rfl rfl rfl ?_
  refine gl_X10_235 C 33 (h0 32 (by decide) (by decide)) dX10_indexAfter_30 rfl ?_
  refine im_if_ge C 39 36 dX10_indexAfter_33 rfl rfl ?_ ?_
  · refine im_aload_n C 40 1 dX10_indexAfter_39 rfl rfl rfl ?_
    refine gl_X10_7 C 43 (h0 32 (by decide) (by decide)) dX10_indexAfter_40 rfl ?_
    refine im_iload_n C 44 2 dX10_indexAfter_43 rfl rfl rfl ?_
    refine im_cSP C 47 sk_X10_net gw_990 (c_X10_net (x0 := x1) hU) (rle rfl) rfl (st := [.ref (ad 33 0)]) rfl (Nat.le_of_ble_eq_true rfl) dX10_indexAfter_44 rfl (fun o7 => ?_)
    refine im_aload_n C 48 1 dX10_indexAfter_47 rfl rfl rfl ?_
    refine gl_X10_235 C 51 (h0 32 (by decide) (by decide)) dX10_indexAfter_48 rfl ?_
    refine im_wri C 52 170 (h0 33 (by decide) (by decide)) (fun _ => rfl) dX10_indexAfter_51 rfl (fun D8 => ?_)
    refine im_aload_n C 53 1 dX10_indexAfter_52 rfl rfl rfl ?_
    refine im_cVI C 56 vk_X10_index gw_1216 (c_X10_index  hU h0) (h0 32 (by decide) (by decide)) rfl rfl (rle rfl) rfl (st := []) rfl (Nat.le_of_ble_eq_true rfl) dX10_indexAfter_53 rfl (fun o9 => ?_)
    refine im_istore_n C 57 [(3, .int o9.1), (2, .int v2), (0, .ref (ad 32 0)), (1, .int x1)] dX10_indexAfter_56 rfl (by decide) rfl rfl ?_
    refine im_aload_n C 58 2 dX10_indexAfter_57 rfl rfl rfl ?_
    refine gl_X10_7 C 61 (h0 32 (by decide) (by decide)) dX10_indexAfter_58 rfl ?_
    refine im_iload_n C 62 3 dX10_indexAfter_61 rfl rfl rfl ?_
    refine im_cSP C 65 sk_X10_net gw_990 (c_X10_net (x0 := x1) hU) (rle rfl) rfl (st := [.ref (ad 33 0)]) rfl (Nat.le_of_ble_eq_true rfl) dX10_indexAfter_62 rfl (fun o10 => ?_)
    refine im_iload_n C 66 1 dX10_indexAfter_65 rfl rfl rfl ?_
    refine im_wri C 67 170 (h0 33 (by decide) (by decide)) (fun _ => rfl) dX10_indexAfter_66 rfl (fun D11 => ?_)
    refine im_iload_n C 68 0 dX10_indexAfter_67 rfl rfl rfl ?_
    exact im_iret C rfl rfl dX10_indexAfter_68
  · refine im_bipush C 38 dX10_indexAfter_36 rfl k_bpm9 ?_
    exact im_iret C rfl rfl dX10_indexAfter_38
set_option maxRecDepth 100000 in
set_option maxHeartbeats 4000000 in
theorem c_X10_fragmentationAfter {l : Launch} {G : va_G} {ad : Nat → Nat → Nat} {U : List (Nat × Nat)} {D : Dt} {x1 : Int32} (hU : Uinj ad U) (h0 : MoU U) : MI l G ad U yX10_fragmentationAfter cX10_fragmentationAfter 2 .int (k2_rm 8 179) [.ref (ad 32 0), .int x1] D (f_X10_fragmentationAfter x1 D) := by
  refine mI_of0 (lv := [(0, .ref (ad 32 0)), (1, .int x1)]) (by decide) hU rfl (Nat.le_of_ble_eq_true rfl) (fun A p e s m args below meth c C => ?_)
  have C : Cx G ad U A p s m meth c args cX10_fragmentationAfter RX10 2 (some .int) := C
  unfold f_X10_fragmentationAfter
  refine im_iload_n C 1 1 dX10_fragmentationAfter_0 rfl rfl rfl ?_
  refine im_cSP C 4 sk_X10_isNet gw_1224 (c_X10_isNet (x0 := x1) hU) (rle rfl) rfl (st := []) rfl (Nat.le_of_ble_eq_true rfl) dX10_fragmentationAfter_1 rfl (fun o1 => ?_)
  refine im_if_ne C 9 7 dX10_fragmentationAfter_4 rfl rfl ?_ ?_
  · refine im_aload_n C 10 0 dX10_fragmentationAfter_9 rfl rfl rfl ?_
    refine im_iload_n C 11 1 dX10_fragmentationAfter_10 rfl rfl rfl ?_
    refine im_cVP C 14 vk_X10_hasBlock gw_1227 (c_X10_hasBlock (x1 := x1) hU h0) (h0 32 (by decide) (by decide)) rfl rfl (rle rfl) rfl (st := []) rfl (Nat.le_of_ble_eq_true rfl) dX10_fragmentationAfter_11 rfl (fun o2 => ?_)
    refine im_if_eq C 25 17 dX10_fragmentationAfter_14 rfl rfl ?_ ?_
    · refine im_bipush C 27 dX10_fragmentationAfter_25 rfl k_bpm2 ?_
      exact im_iret C rfl rfl dX10_fragmentationAfter_27
    · refine im_aload_n C 18 0 dX10_fragmentationAfter_17 rfl rfl rfl ?_
      refine im_iload_n C 19 1 dX10_fragmentationAfter_18 rfl rfl rfl ?_
      refine im_cVP C 22 vk_X10_hasOld gw_1254 (c_X10_hasOld (x1 := x1) hU h0) (h0 32 (by decide) (by decide)) rfl rfl (rle rfl) rfl (st := []) rfl (Nat.le_of_ble_eq_true rfl) dX10_fragmentationAfter_19 rfl (fun o3 => ?_)
      refine im_if_eq C 28 25 dX10_fragmentationAfter_22 rfl rfl ?_ ?_
      · refine im_aload_n C 29 0 dX10_fragmentationAfter_28 rfl rfl rfl ?_
        refine im_iload_n C 30 1 dX10_fragmentationAfter_29 rfl rfl rfl ?_
        refine im_cVI C 33 vk_X10_indexAfter gw_1358 (c_X10_indexAfter (x1 := x1) hU h0) (h0 32 (by decide) (by decide)) rfl rfl (rle rfl) rfl (st := []) rfl (Nat.le_of_ble_eq_true rfl) dX10_fragmentationAfter_30 rfl (fun o4 => ?_)
        exact im_iret C rfl rfl dX10_fragmentationAfter_33
      · refine im_bipush C 27 dX10_fragmentationAfter_25 rfl k_bpm2 ?_
        exact im_iret C rfl rfl dX10_fragmentationAfter_27
  · refine im_iconst C 8 dX10_fragmentationAfter_7 rfl k_icm1 ?_
    exact im_iret C rfl rfl dX10_fragmentationAfter_8
set_option maxRecDepth 100000 in
set_option maxHeartbeats 4000000 in
theorem c_X10_best {l : Launch} {G : va_G} {ad : Nat → Nat → Nat} {U : List (Nat × Nat)} {D : Dt} (hU : Uinj ad U) (h0 : MoU U) : MI l G ad U yX10_best cX10_best 5 .int (k2_rm 8 179) [.ref (ad 32 0)] D (f_X10_best D) := by
  refine mI_of0 (lv := [(0, .ref (ad 32 0))]) (by decide) hU rfl (Nat.le_of_ble_eq_true rfl) (fun A p e s m args below meth c C => ?_)
  have C : Cx G ad U A p s m meth c args cX10_best RX10 5 (some .int) := C
  unfold f_X10_best
  refine im_bipush C 2 dX10_best_0 rfl k_bpm9 ?_
  refine im_istore_n C 3 [(1, .int (-9 : Int32)), (0, .ref (ad 32 0))] dX10_best_2 rfl (by decide) rfl rfl ?_
  refine im_aload_n C 4 1 dX10_best_3 rfl rfl rfl ?_
  refine im_cVI C 7 vk_X10_index gw_1216 (c_X10_index  hU h0) (h0 32 (by decide) (by decide)) rfl rfl (rle rfl) rfl (st := []) rfl (Nat.le_of_ble_eq_true rfl) dX10_best_4 rfl (fun o1 => ?_)
  refine im_istore_n C 8 [(2, .int o1.1), (1, .int (-9 : Int32)), (0, .ref (ad 32 0))] dX10_best_7 rfl (by decide) rfl rfl ?_
  refine im_iconst C 9 dX10_best_8 rfl k_ic0 ?_
  refine im_istore_n C 10 [(3, .int (0 : Int32)), (2, .int o1.1), (1, .int (-9 : Int32)), (0, .ref (ad 32 0))] dX10_best_9 rfl (by decide) rfl rfl ?_
  refine im_sub [3, 2, 1, 0] [(0, .ref (ad 32 0)), (1, .int (-9 : Int32)), (2, .int o1.1), (3, .int (0 : Int32))] rfl ?_
  refine im_lpB l_X10_best_10 (fun z10 => [(0, .ref (ad 32 0)), (1, .int z10.1), (2, .int z10.2.1), (3, .int z10.2.2.1)]) (fun z10 => z10.2.2.2) 68 (fun e2 => [(1, .int e2.1)]) (fun e2 => e2.2) (fun e2 => ?_) (fun z10 X_z10 hX_z10 hE_z10 => ?_) FU ((-9 : Int32), o1.1, (0 : Int32), o1.2)
  · refine im_iload_n C 69 0 dX10_best_68 rfl rfl rfl ?_
    exact im_iret C rfl rfl dX10_best_69
  · unfold l_X10_best_10
    refine im_iload_n C 11 3 dX10_best_10 rfl rfl rfl ?_
    refine im_bipush C 13 dX10_best_11 rfl k_bp12 ?_
    refine im_ic_ge C 68 16 dX10_best_13 rfl rfl ?_ ?_
    · exact im_sub [1] [(1, .int z10.1)] rfl (hE_z10 (z10.1, z10.2.2.2))
    · refine im_aload_n C 17 0 dX10_best_16 rfl rfl rfl ?_
      refine im_iload_n C 18 3 dX10_best_17 rfl rfl rfl ?_
      refine im_cVP C 21 vk_X10_hasBlock gw_1227 (c_X10_hasBlock (x1 := z10.2.2.1) hU h0) (h0 32 (by decide) (by decide)) rfl rfl (rle rfl) rfl (st := []) rfl (Nat.le_of_ble_eq_true rfl) dX10_best_18 rfl (fun o3 => ?_)
      refine im_jn 42 (fun t4 => [(0, .ref (ad 32 0)), (1, .int z10.1), (2, .int z10.2.1), (3, .int z10.2.2.1)]) (fun t4 => [.int t4.1]) (fun t4 => t4.2) (fun t4 => j_X10_best_42_t4 z10 t4) (fun t4 => ?_) (fun ht4 => ?_)
      · unfold j_X10_best_42_t4
        refine im_istore C 44 [(4, .int t4.1), (0, .ref (ad 32 0)), (1, .int z10.1), (2, .int z10.2.1), (3, .int z10.2.2.1)] dX10_best_42 (by decide) rfl rfl ?_
        refine im_iload C 46 0 dX10_best_44 rfl rfl ?_
        refine im_bipush C 48 dX10_best_46 rfl k_bpm9 ?_
        refine im_ic_eq C 62 51 dX10_best_48 rfl rfl ?_ ?_
        · refine im_iinc C 65 4 [(3, .int (z10.2.2.1 + (1 : Int32))), (4, .int t4.1), (0, .ref (ad 32 0)), (1, .int z10.1), (2, .int z10.2.1)] dX10_best_62 rfl (k_inc1) (by decide) rfl rfl ?_
          refine im_goto C 10 dX10_best_65 rfl ?_
          exact im_sub [2, 3, 4, 0] [(0, .ref (ad 32 0)), (1, .int z10.1), (2, .int z10.2.1), (3, .int (z10.2.2.1 + (1 : Int32)))] rfl (hX_z10 (z10.1, z10.2.1, z10.2.2.1 + (1 : Int32), t4.2))
        · refine im_iload C 53 0 dX10_best_51 rfl rfl ?_
          refine im_iload_n C 54 3 dX10_best_53 rfl rfl rfl ?_
          refine im_ic_ge C 62 57 dX10_best_54 rfl rfl ?_ ?_
          · refine im_iinc C 65 4 [(3, .int (z10.2.2.1 + (1 : Int32))), (4, .int t4.1), (0, .ref (ad 32 0)), (1, .int z10.1), (2, .int z10.2.1)] dX10_best_62 rfl (k_inc1) (by decide) rfl rfl ?_
            refine im_goto C 10 dX10_best_65 rfl ?_
            exact im_sub [2, 3, 4, 0] [(0, .ref (ad 32 0)), (1, .int z10.1), (2, .int z10.2.1), (3, .int (z10.2.2.1 + (1 : Int32)))] rfl (hX_z10 (z10.1, z10.2.1, z10.2.2.1 + (1 : Int32), t4.2))
          · refine im_iload_n C 58 4 dX10_best_57 rfl rfl rfl ?_
            refine im_istore_n C 59 [(1, .int z10.2.2.1), (4, .int t4.1), (0, .ref (ad 32 0)), (2, .int z10.2.1), (3, .int z10.2.2.1)] dX10_best_58 rfl (by decide) rfl rfl ?_
            refine im_iload C 61 1 dX10_best_59 rfl rfl ?_
            refine im_istore_n C 62 [(2, .int t4.1), (1, .int z10.2.2.1), (4, .int t4.1), (0, .ref (ad 32 0)), (3, .int z10.2.2.1)] dX10_best_61 rfl (by decide) rfl rfl ?_
            refine im_iinc C 65 4 [(3, .int (z10.2.2.1 + (1 : Int32))), (2, .int t4.1), (1, .int z10.2.2.1), (4, .int t4.1), (0, .ref (ad 32 0))] dX10_best_62 rfl (k_inc1) (by decide) rfl rfl ?_
            refine im_goto C 10 dX10_best_65 rfl ?_
            exact im_sub [4, 2, 1, 0] [(0, .ref (ad 32 0)), (1, .int z10.2.2.1), (2, .int t4.1), (3, .int (z10.2.2.1 + (1 : Int32)))] rfl (hX_z10 (z10.2.2.1, t4.1, z10.2.2.1 + (1 : Int32), t4.2))
      · refine im_if_eq C 40 24 dX10_best_21 rfl rfl ?_ ?_
        · refine im_bipush C 42 dX10_best_40 rfl k_bpm9 ?_
          exact ht4 ((-9 : Int32), z10.2.2.2)
        · refine im_aload_n C 25 0 dX10_best_24 rfl rfl rfl ?_
          refine im_iload_n C 26 3 dX10_best_25 rfl rfl rfl ?_
          refine im_cVP C 29 vk_X10_hasOld gw_1254 (c_X10_hasOld (x1 := z10.2.2.1) hU h0) (h0 32 (by decide) (by decide)) rfl rfl (rle rfl) rfl (st := []) rfl (Nat.le_of_ble_eq_true rfl) dX10_best_26 rfl (fun o5 => ?_)
          refine im_if_ne C 40 32 dX10_best_29 rfl rfl ?_ ?_
          · refine im_bipush C 42 dX10_best_40 rfl k_bpm9 ?_
            exact ht4 ((-9 : Int32), z10.2.2.2)
          · refine im_aload_n C 33 0 dX10_best_32 rfl rfl rfl ?_
            refine im_iload_n C 34 3 dX10_best_33 rfl rfl rfl ?_
            refine im_cVI C 37 vk_X10_indexAfter gw_1358 (c_X10_indexAfter (x1 := z10.2.2.1) hU h0) (h0 32 (by decide) (by decide)) rfl rfl (rle rfl) rfl (st := []) rfl (Nat.le_of_ble_eq_true rfl) dX10_best_34 rfl (fun o6 => ?_)
            refine im_goto C 42 dX10_best_37 rfl ?_
            exact ht4 (o6.1, o6.2)
set_option maxRecDepth 100000 in
set_option maxHeartbeats 4000000 in
theorem c_X10_bestMove {l : Launch} {G : va_G} {ad : Nat → Nat → Nat} {U : List (Nat × Nat)} {D : Dt} (hU : Uinj ad U) (h0 : MoU U) : MI l G ad U yX10_bestMove cX10_bestMove 1 .int (k2_rm 9 203) [.ref (ad 32 0)] D (f_X10_bestMove D) := by
  refine mI_of0 (lv := [(0, .ref (ad 32 0))]) (by decide) hU rfl (Nat.le_of_ble_eq_true rfl) (fun A p e s m args below meth c C => ?_)
  have C : Cx G ad U A p s m meth c args cX10_bestMove RX10 1 (some .int) := C
  unfold f_X10_bestMove
  refine im_aload_n C 1 0 dX10_bestMove_0 rfl rfl rfl ?_
  refine im_cVI C 4 vk_X10_best gw_1366 (c_X10_best  hU h0) (h0 32 (by decide) (by decide)) rfl rfl (rle rfl) rfl (st := []) rfl (Nat.le_of_ble_eq_true rfl) dX10_bestMove_1 rfl (fun o1 => ?_)
  exact im_iret C rfl rfl dX10_bestMove_4
set_option maxRecDepth 100000 in
set_option maxHeartbeats 4000000 in
theorem c_X10_makePlan {l : Launch} {G : va_G} {ad : Nat → Nat → Nat} {U : List (Nat × Nat)} {D : Dt} {x1 : Int32} (hU : Uinj ad U) (h0 : MoU U) : MI l G ad U yX10_makePlan cX10_makePlan 4 .int (k2_rm 9 203) [.ref (ad 32 0), .int x1] D (f_X10_makePlan x1 D) := by
  refine mI_of0 (lv := [(0, .ref (ad 32 0)), (1, .int x1)]) (by decide) hU rfl (Nat.le_of_ble_eq_true rfl) (fun A p e s m args below meth c C => ?_)
  have C : Cx G ad U A p s m meth c args cX10_makePlan RX10 4 (some .int) := C
  unfold f_X10_makePlan
  refine im_iload_n C 1 1 dX10_makePlan_0 rfl rfl rfl ?_
  refine im_iconst C 2 dX10_makePlan_1 rfl k_ic1 ?_
  refine im_bipush C 4 dX10_makePlan_2 rfl k_bp12 ?_
  refine im_cSP C 7 sk_X10_in gw_1066 (c_X10_in (x0 := x1) (x1 := (1 : Int32)) (x2 := (12 : Int32)) hU) (rle rfl) rfl (st := []) rfl (Nat.le_of_ble_eq_true rfl) dX10_makePlan_4 rfl (fun o1 => ?_)
  refine im_if_ne C 12 10 dX10_makePlan_7 rfl rfl ?_ ?_
  · refine im_aload_n C 13 0 dX10_makePlan_12 rfl rfl rfl ?_
    refine im_cVV C 16 vk_X10_keepsApart gw_1077 (c_X10_keepsApart  hU h0) (h0 32 (by decide) (by decide)) rfl rfl (rle rfl) rfl (st := []) rfl (Nat.le_of_ble_eq_true rfl) dX10_makePlan_13 rfl (fun D2 => ?_)
    refine im_aload_n C 17 0 dX10_makePlan_16 rfl rfl rfl ?_
    refine im_iconst C 18 dX10_makePlan_17 rfl k_ic0 ?_
    refine pl_X10_244 C 21 (h0 32 (by decide) (by decide)) dX10_makePlan_18 rfl (fun D3 => ?_)
    refine im_aload_n C 22 0 dX10_makePlan_21 rfl rfl rfl ?_
    refine im_cVI C 25 vk_X10_best gw_1366 (c_X10_best  hU h0) (h0 32 (by decide) (by decide)) rfl rfl (rle rfl) rfl (st := []) rfl (Nat.le_of_ble_eq_true rfl) dX10_makePlan_22 rfl (fun o4 => ?_)
    refine im_istore_n C 26 [(2, .int o4.1), (0, .ref (ad 32 0)), (1, .int x1)] dX10_makePlan_25 rfl (by decide) rfl rfl ?_
    refine im_sub [1, 2, 0] [(0, .ref (ad 32 0)), (1, .int x1), (2, .int o4.1)] rfl ?_
    refine im_lpB (l_X10_makePlan_26 x1) (fun z26 => [(0, .ref (ad 32 0)), (1, .int x1), (2, .int z26.1)]) (fun z26 => z26.2) 125 (fun e5 => [(0, .ref (ad 32 0))]) (fun e5 => e5) (fun e5 => ?_) (fun z26 X_z26 hX_z26 hE_z26 => ?_) FU (o4.1, o4.2)
    · refine im_aload_n C 126 0 dX10_makePlan_125 rfl rfl rfl ?_
      refine im_cVV C 129 vk_X10_exchanges gw_1168 (c_X10_exchanges  hU h0) (h0 32 (by decide) (by decide)) rfl rfl (rle rfl) rfl (st := []) rfl (Nat.le_of_ble_eq_true rfl) dX10_makePlan_126 rfl (fun D14 => ?_)
      refine im_aload_n C 130 0 dX10_makePlan_129 rfl rfl rfl ?_
      refine gl_X10_244 C 133 (h0 32 (by decide) (by decide)) dX10_makePlan_130 rfl ?_
      exact im_iret C rfl rfl dX10_makePlan_133
    · unfold l_X10_makePlan_26
      refine im_iload_n C 27 2 dX10_makePlan_26 rfl rfl rfl ?_
      refine im_bipush C 29 dX10_makePlan_27 rfl k_bpm9 ?_
      refine im_ic_eq C 125 32 dX10_makePlan_29 rfl rfl ?_ ?_
      · exact im_sub [0] [(0, .ref (ad 32 0))] rfl (hE_z26 z26.2)
      · refine im_aload_n C 33 0 dX10_makePlan_32 rfl rfl rfl ?_
        refine im_iload_n C 34 2 dX10_makePlan_33 rfl rfl rfl ?_
        refine im_cVI C 37 vk_X10_indexAfter gw_1358 (c_X10_indexAfter (x1 := z26.1) hU h0) (h0 32 (by decide) (by decide)) rfl rfl (rle rfl) rfl (st := []) rfl (Nat.le_of_ble_eq_true rfl) dX10_makePlan_34 rfl (fun o6 => ?_)
        refine im_istore_n C 38 [(3, .int o6.1), (0, .ref (ad 32 0)), (1, .int x1), (2, .int z26.1)] dX10_makePlan_37 rfl (by decide) rfl rfl ?_
        refine im_aload_n C 39 1 dX10_makePlan_38 rfl rfl rfl ?_
        refine gl_X10_7 C 42 (h0 32 (by decide) (by decide)) dX10_makePlan_39 rfl ?_
        refine im_iload_n C 43 3 dX10_makePlan_42 rfl rfl rfl ?_
        refine im_cSP C 46 sk_X10_net gw_990 (c_X10_net (x0 := z26.1) hU) (rle rfl) rfl (st := [.ref (ad 33 0)]) rfl (Nat.le_of_ble_eq_true rfl) dX10_makePlan_43 rfl (fun o7 => ?_)
        refine im_aload_n C 47 1 dX10_makePlan_46 rfl rfl rfl ?_
        refine gl_X10_235 C 50 (h0 32 (by decide) (by decide)) dX10_makePlan_47 rfl ?_
        refine im_wri C 51 170 (h0 33 (by decide) (by decide)) (fun _ => rfl) dX10_makePlan_50 rfl (fun D8 => ?_)
        refine im_aload_n C 52 1 dX10_makePlan_51 rfl rfl rfl ?_
        refine gl_X10_29 C 55 (h0 32 (by decide) (by decide)) dX10_makePlan_52 rfl ?_
        refine im_iconst C 56 dX10_makePlan_55 rfl k_ic3 ?_
        refine im_aload_n C 57 1 dX10_makePlan_56 rfl rfl rfl ?_
        refine gl_X10_244 C 60 (h0 32 (by decide) (by decide)) dX10_makePlan_57 rfl ?_
        refine im_imul C 61 dX10_makePlan_60 rfl ?_
        refine im_iload_n C 62 3 dX10_makePlan_61 rfl rfl rfl ?_
        refine im_wri C 63 36 (h0 39 (by decide) (by decide)) (fun _ => rfl) dX10_makePlan_62 rfl (fun D9 => ?_)
        refine im_aload_n C 64 1 dX10_makePlan_63 rfl rfl rfl ?_
        refine gl_X10_29 C 67 (h0 32 (by decide) (by decide)) dX10_makePlan_64 rfl ?_
        refine im_iconst C 68 dX10_makePlan_67 rfl k_ic3 ?_
        refine im_aload_n C 69 1 dX10_makePlan_68 rfl rfl rfl ?_
        refine gl_X10_244 C 72 (h0 32 (by decide) (by decide)) dX10_makePlan_69 rfl ?_
        refine im_imul C 73 dX10_makePlan_72 rfl ?_
        refine im_iconst C 74 dX10_makePlan_73 rfl k_ic1 ?_
        refine im_iadd C 75 dX10_makePlan_74 rfl ?_
        refine im_aload_n C 76 1 dX10_makePlan_75 rfl rfl rfl ?_
        refine gl_X10_235 C 79 (h0 32 (by decide) (by decide)) dX10_makePlan_76 rfl ?_
        refine im_wri C 80 36 (h0 39 (by decide) (by decide)) (fun _ => rfl) dX10_makePlan_79 rfl (fun D10 => ?_)
        refine im_aload_n C 81 1 dX10_makePlan_80 rfl rfl rfl ?_
        refine gl_X10_29 C 84 (h0 32 (by decide) (by decide)) dX10_makePlan_81 rfl ?_
        refine im_iconst C 85 dX10_makePlan_84 rfl k_ic3 ?_
        refine im_aload_n C 86 1 dX10_makePlan_85 rfl rfl rfl ?_
        refine gl_X10_244 C 89 (h0 32 (by decide) (by decide)) dX10_makePlan_86 rfl ?_
        refine im_imul C 90 dX10_makePlan_89 rfl ?_
        refine im_iconst C 91 dX10_makePlan_90 rfl k_ic2 ?_
        refine im_iadd C 92 dX10_makePlan_91 rfl ?_
        refine im_iload_n C 93 0 dX10_makePlan_92 rfl rfl rfl ?_
        refine im_wri C 94 36 (h0 39 (by decide) (by decide)) (fun _ => rfl) dX10_makePlan_93 rfl (fun D11 => ?_)
        refine im_aload_n C 95 1 dX10_makePlan_94 rfl rfl rfl ?_
        refine im_dup C 96 dX10_makePlan_95 rfl rfl ?_
        refine gl_X10_244 C 99 (h0 32 (by decide) (by decide)) dX10_makePlan_96 rfl ?_
        refine im_iconst C 100 dX10_makePlan_99 rfl k_ic1 ?_
        refine im_iadd C 101 dX10_makePlan_100 rfl ?_
        refine pl_X10_244 C 104 (h0 32 (by decide) (by decide)) dX10_makePlan_101 rfl (fun D12 => ?_)
        refine im_aload_n C 105 1 dX10_makePlan_104 rfl rfl rfl ?_
        refine gl_X10_244 C 108 (h0 32 (by decide) (by decide)) dX10_makePlan_105 rfl ?_
        refine im_iload_n C 109 2 dX10_makePlan_108 rfl rfl rfl ?_
        refine im_ic_ge C 119 112 dX10_makePlan_109 rfl rfl ?_ ?_
        · refine im_bipush C 121 dX10_makePlan_119 rfl k_bpm9 ?_
          refine im_istore_n C 122 [(2, .int (-9 : Int32)), (3, .int o6.1), (0, .ref (ad 32 0)), (1, .int x1)] dX10_makePlan_121 rfl (by decide) rfl rfl ?_
          refine im_goto C 26 dX10_makePlan_122 rfl ?_
          exact im_sub [2, 3, 0] [(0, .ref (ad 32 0)), (1, .int x1), (2, .int (-9 : Int32))] rfl (hX_z26 ((-9 : Int32), D12))
        · refine im_aload_n C 113 1 dX10_makePlan_112 rfl rfl rfl ?_
          refine im_cVI C 116 vk_X10_best gw_1366 (c_X10_best  hU h0) (h0 32 (by decide) (by decide)) rfl rfl (rle rfl) rfl (st := []) rfl (Nat.le_of_ble_eq_true rfl) dX10_makePlan_113 rfl (fun o13 => ?_)
          refine im_goto C 121 dX10_makePlan_116 rfl ?_
          refine im_istore_n C 122 [(2, .int o13.1), (3, .int o6.1), (0, .ref (ad 32 0)), (1, .int x1)] dX10_makePlan_121 rfl (by decide) rfl rfl ?_
          refine im_goto C 26 dX10_makePlan_122 rfl ?_
          exact im_sub [2, 3, 0] [(0, .ref (ad 32 0)), (1, .int x1), (2, .int o13.1)] rfl (hX_z26 (o13.1, o13.2))
  · refine im_iconst C 11 dX10_makePlan_10 rfl k_icm1 ?_
    exact im_iret C rfl rfl dX10_makePlan_11
set_option maxRecDepth 100000 in
set_option maxHeartbeats 4000000 in
theorem c_X10_plan {l : Launch} {G : va_G} {ad : Nat → Nat → Nat} {U : List (Nat × Nat)} {D : Dt} {x1 : Int32} {x2 : Int32} (hU : Uinj ad U) (h0 : MoU U) : MI l G ad U yX10_plan cX10_plan 3 .int (k2_rm 1 22) [.ref (ad 32 0), .int x1, .int x2] D ((f_X10_plan x1 x2 D).bind (fun r => some (r, D))) := by
  refine mI_of (lv := [(0, .ref (ad 32 0)), (1, .int x1), (2, .int x2)]) (by decide) hU rfl (Nat.le_of_ble_eq_true rfl) (fun A p e s m args below meth c C => ?_)
  have C : Cx G ad U A p s m meth c args cX10_plan RX10 3 (some .int) := C
  unfold f_X10_plan
  refine im_iload_n C 1 1 dX10_plan_0 rfl rfl rfl ?_
  refine im_if_lt C 13 4 dX10_plan_1 rfl rfl ?_ ?_
  · refine im_iconst C 14 dX10_plan_13 rfl k_icm1 ?_
    exact im_iret C rfl rfl dX10_plan_14
  · refine im_iload_n C 5 2 dX10_plan_4 rfl rfl rfl ?_
    refine im_iconst C 6 dX10_plan_5 rfl k_ic0 ?_
    refine im_iconst C 7 dX10_plan_6 rfl k_ic2 ?_
    refine im_cSP C 10 sk_X10_in gw_1066 (c_X10_in (x0 := x2) (x1 := (0 : Int32)) (x2 := (2 : Int32)) hU) (rle rfl) rfl (st := []) rfl (Nat.le_of_ble_eq_true rfl) dX10_plan_7 rfl (fun o1 => ?_)
    refine im_if_ne C 15 13 dX10_plan_10 rfl rfl ?_ ?_
    · refine im_iload_n C 16 1 dX10_plan_15 rfl rfl rfl ?_
      refine im_aload_n C 17 0 dX10_plan_16 rfl rfl rfl ?_
      refine gl_X10_244 C 20 (h0 32 (by decide) (by decide)) dX10_plan_17 rfl ?_
      refine im_ic_ge C 36 23 dX10_plan_20 rfl rfl ?_ ?_
      · refine im_bipush C 38 dX10_plan_36 rfl k_bpm9 ?_
        exact im_iret C rfl rfl dX10_plan_38
      · refine im_aload_n C 24 0 dX10_plan_23 rfl rfl rfl ?_
        refine gl_X10_29 C 27 (h0 32 (by decide) (by decide)) dX10_plan_24 rfl ?_
        refine im_iconst C 28 dX10_plan_27 rfl k_ic3 ?_
        refine im_iload_n C 29 1 dX10_plan_28 rfl rfl rfl ?_
        refine im_imul C 30 dX10_plan_29 rfl ?_
        refine im_iload_n C 31 2 dX10_plan_30 rfl rfl rfl ?_
        refine im_iadd C 32 dX10_plan_31 rfl ?_
        refine im_rdi C 33 36 (h0 39 (by decide) (by decide)) rfl dX10_plan_32 rfl (fun v2 => ?_)
        refine im_goto C 38 dX10_plan_33 rfl ?_
        exact im_iret C rfl rfl dX10_plan_38
    · refine im_iconst C 14 dX10_plan_13 rfl k_icm1 ?_
      exact im_iret C rfl rfl dX10_plan_14
