set_option maxRecDepth 100000 in
set_option maxHeartbeats 4000000 in
theorem c_X10_in {l : Launch} {G : va_G} {ad : Nat → Nat → Nat} {U : List (Nat × Nat)} {D : Dt} {x0 : Int32} {x1 : Int32} {x2 : Int32} (hU : Uinj ad U) : MI l G ad U yX10_in cX10_in 3 .boolean (k2_rm 0 0) [.int x0, .int x1, .int x2] D ((f_X10_in x0 x1 x2 D).bind (fun r => some (r, D))) := by
  refine mI_of (lv := [(0, .int x0), (1, .int x1), (2, .int x2)]) (by decide) hU rfl (Nat.le_of_ble_eq_true rfl) (fun A p e s m args below meth c C => ?_)
  have C : Cx G ad U A p s m meth c args cX10_in RX10 3 (some .boolean) := C
  unfold f_X10_in
  refine im_iload_n C 1 0 dX10_in_0 rfl rfl rfl ?_
  refine im_iload_n C 2 1 dX10_in_1 rfl rfl rfl ?_
  refine im_ic_lt C 14 5 dX10_in_2 rfl rfl ?_ ?_
  · refine im_iconst C 15 dX10_in_14 rfl k_ic0 ?_
    exact im_iret C rfl rfl dX10_in_15
  · refine im_iload_n C 6 0 dX10_in_5 rfl rfl rfl ?_
    refine im_iload_n C 7 2 dX10_in_6 rfl rfl rfl ?_
    refine im_ic_gt C 14 10 dX10_in_7 rfl rfl ?_ ?_
    · refine im_iconst C 15 dX10_in_14 rfl k_ic0 ?_
      exact im_iret C rfl rfl dX10_in_15
    · refine im_iconst C 11 dX10_in_10 rfl k_ic1 ?_
      refine im_goto C 15 dX10_in_11 rfl ?_
      exact im_iret C rfl rfl dX10_in_15
set_option maxRecDepth 100000 in
set_option maxHeartbeats 4000000 in
theorem c_X10_net {l : Launch} {G : va_G} {ad : Nat → Nat → Nat} {U : List (Nat × Nat)} {D : Dt} {x0 : Int32} (hU : Uinj ad U) : MI l G ad U yX10_net cX10_net 1 .int (k2_rm 0 0) [.int x0] D ((f_X10_net x0 D).bind (fun r => some (r, D))) := by
  refine mI_of (lv := [(0, .int x0)]) (by decide) hU rfl (Nat.le_of_ble_eq_true rfl) (fun A p e s m args below meth c C => ?_)
  have C : Cx G ad U A p s m meth c args cX10_net RX10 1 (some .int) := C
  unfold f_X10_net
  refine im_bipush C 2 dX10_net_0 rfl k_bp14 ?_
  refine im_iconst C 3 dX10_net_2 rfl k_ic5 ?_
  refine im_iload_n C 4 0 dX10_net_3 rfl rfl rfl ?_
  refine im_imul C 5 dX10_net_4 rfl ?_
  refine im_iadd C 6 dX10_net_5 rfl ?_
  exact im_iret C rfl rfl dX10_net_6
set_option maxRecDepth 100000 in
set_option maxHeartbeats 4000000 in
theorem c_X10_hostAt {l : Launch} {G : va_G} {ad : Nat → Nat → Nat} {U : List (Nat × Nat)} {D : Dt} {x0 : Int32} (hU : Uinj ad U) : MI l G ad U yX10_hostAt cX10_hostAt 1 .int (k2_rm 0 0) [.int x0] D ((f_X10_hostAt x0 D).bind (fun r => some (r, D))) := by
  refine mI_of (lv := [(0, .int x0)]) (by decide) hU rfl (Nat.le_of_ble_eq_true rfl) (fun A p e s m args below meth c C => ?_)
  have C : Cx G ad U A p s m meth c args cX10_hostAt RX10 1 (some .int) := C
  unfold f_X10_hostAt
  refine im_bipush C 2 dX10_hostAt_0 rfl k_bp74 ?_
  refine im_bipush C 4 dX10_hostAt_2 rfl k_bp6 ?_
  refine im_iload_n C 5 0 dX10_hostAt_4 rfl rfl rfl ?_
  refine im_imul C 6 dX10_hostAt_5 rfl ?_
  refine im_iadd C 7 dX10_hostAt_6 rfl ?_
  exact im_iret C rfl rfl dX10_hostAt_7
set_option maxRecDepth 100000 in
set_option maxHeartbeats 4000000 in
theorem c_X10_leaves {l : Launch} {G : va_G} {ad : Nat → Nat → Nat} {U : List (Nat × Nat)} {D : Dt} {x1 : Int32} (hU : Uinj ad U) (h0 : MoU U) : MV l G ad U yX10_leaves cX10_leaves 2 (k2_rm 1 20) [.ref (ad 32 0), .int x1] D (f_X10_leaves x1 D) := by
  refine mV_of0 (lv := [(0, .ref (ad 32 0)), (1, .int x1)]) (by decide) hU rfl (Nat.le_of_ble_eq_true rfl) (fun A p e s m args below meth c C => ?_)
  have C : Cx G ad U A p s m meth c args cX10_leaves RX10 2 none := C
  unfold f_X10_leaves
  refine im_aload_n C 1 0 dX10_leaves_0 rfl rfl rfl ?_
  refine gl_X10_7 C 4 (h0 32 (by decide) (by decide)) dX10_leaves_1 rfl ?_
  refine im_iload_n C 5 1 dX10_leaves_4 rfl rfl rfl ?_
  refine im_cSP C 8 sk_X10_hostAt gw_997 (c_X10_hostAt (x0 := x1) hU) (rle rfl) rfl (st := [.ref (ad 33 0)]) rfl (Nat.le_of_ble_eq_true rfl) dX10_leaves_5 rfl (fun o1 => ?_)
  refine im_iconst C 9 dX10_leaves_8 rfl k_icm1 ?_
  refine im_wri C 10 170 (h0 33 (by decide) (by decide)) (fun _ => rfl) dX10_leaves_9 rfl (fun D2 => ?_)
  refine im_aload_n C 11 0 dX10_leaves_10 rfl rfl rfl ?_
  refine gl_X10_7 C 14 (h0 32 (by decide) (by decide)) dX10_leaves_11 rfl ?_
  refine im_iload_n C 15 1 dX10_leaves_14 rfl rfl rfl ?_
  refine im_cSP C 18 sk_X10_hostAt gw_997 (c_X10_hostAt (x0 := x1) hU) (rle rfl) rfl (st := [.ref (ad 33 0)]) rfl (Nat.le_of_ble_eq_true rfl) dX10_leaves_15 rfl (fun o3 => ?_)
  refine im_iconst C 19 dX10_leaves_18 rfl k_ic2 ?_
  refine im_iadd C 20 dX10_leaves_19 rfl ?_
  refine im_iconst C 21 dX10_leaves_20 rfl k_icm1 ?_
  refine im_wri C 22 170 (h0 33 (by decide) (by decide)) (fun _ => rfl) dX10_leaves_21 rfl (fun D4 => ?_)
  refine im_aload_n C 23 0 dX10_leaves_22 rfl rfl rfl ?_
  refine gl_X10_7 C 26 (h0 32 (by decide) (by decide)) dX10_leaves_23 rfl ?_
  refine im_iload_n C 27 1 dX10_leaves_26 rfl rfl rfl ?_
  refine im_cSP C 30 sk_X10_hostAt gw_997 (c_X10_hostAt (x0 := x1) hU) (rle rfl) rfl (st := [.ref (ad 33 0)]) rfl (Nat.le_of_ble_eq_true rfl) dX10_leaves_27 rfl (fun o5 => ?_)
  refine im_iconst C 31 dX10_leaves_30 rfl k_ic4 ?_
  refine im_iadd C 32 dX10_leaves_31 rfl ?_
  refine im_iconst C 33 dX10_leaves_32 rfl k_icm1 ?_
  refine im_wri C 34 170 (h0 33 (by decide) (by decide)) (fun _ => rfl) dX10_leaves_33 rfl (fun D6 => ?_)
  exact im_vret C rfl dX10_leaves_34
set_option maxRecDepth 100000 in
set_option maxHeartbeats 4000000 in
theorem c_X10_empties {l : Launch} {G : va_G} {ad : Nat → Nat → Nat} {U : List (Nat × Nat)} {D : Dt} (hU : Uinj ad U) (h0 : MoU U) : MV l G ad U yX10_empties cX10_empties 2 (k2_rm 2 41) [.ref (ad 32 0)] D (f_X10_empties D) := by
  refine mV_of0 (lv := [(0, .ref (ad 32 0))]) (by decide) hU rfl (Nat.le_of_ble_eq_true rfl) (fun A p e s m args below meth c C => ?_)
  have C : Cx G ad U A p s m meth c args cX10_empties RX10 2 none := C
  unfold f_X10_empties
  refine im_iconst C 1 dX10_empties_0 rfl k_ic0 ?_
  refine im_istore_n C 2 [(1, .int (0 : Int32)), (0, .ref (ad 32 0))] dX10_empties_1 rfl (by decide) rfl rfl ?_
  refine im_sub [1, 0] [(0, .ref (ad 32 0)), (1, .int (0 : Int32))] rfl ?_
  refine im_lpB l_X10_empties_2 (fun z2 => [(0, .ref (ad 32 0)), (1, .int z2.1)]) (fun z2 => z2.2) 22 (fun e1 => [(0, .ref (ad 32 0))]) (fun e1 => e1) (fun e1 => ?_) (fun z2 X_z2 hX_z2 hE_z2 => ?_) FU ((0 : Int32), D)
  · refine im_aload_n C 23 0 dX10_empties_22 rfl rfl rfl ?_
    refine gl_X10_7 C 26 (h0 32 (by decide) (by decide)) dX10_empties_23 rfl ?_
    refine im_iconst C 27 dX10_empties_26 rfl k_ic1 ?_
    refine im_bipush C 29 dX10_empties_27 rfl k_bp60 ?_
    refine im_wri C 30 170 (h0 33 (by decide) (by decide)) (fun _ => rfl) dX10_empties_29 rfl (fun D3 => ?_)
    refine im_aload_n C 31 0 dX10_empties_30 rfl rfl rfl ?_
    refine gl_X10_7 C 34 (h0 32 (by decide) (by decide)) dX10_empties_31 rfl ?_
    refine im_iconst C 35 dX10_empties_34 rfl k_ic2 ?_
    refine im_bipush C 37 dX10_empties_35 rfl k_bp100 ?_
    refine im_wri C 38 170 (h0 33 (by decide) (by decide)) (fun _ => rfl) dX10_empties_37 rfl (fun D4 => ?_)
    refine im_iconst C 39 dX10_empties_38 rfl k_ic0 ?_
    refine im_istore_n C 40 [(1, .int (0 : Int32)), (0, .ref (ad 32 0))] dX10_empties_39 rfl (by decide) rfl rfl ?_
    refine im_sub [1, 0] [(0, .ref (ad 32 0)), (1, .int (0 : Int32))] rfl ?_
    refine im_lpB l_X10_empties_40 (fun z40 => [(0, .ref (ad 32 0)), (1, .int z40.1)]) (fun z40 => z40.2) 74 (fun e5 => [(0, .ref (ad 32 0))]) (fun e5 => e5) (fun e5 => ?_) (fun z40 X_z40 hX_z40 hE_z40 => ?_) FU ((0 : Int32), D4)
    · refine im_iconst C 75 dX10_empties_74 rfl k_ic0 ?_
      refine im_istore_n C 76 [(1, .int (0 : Int32)), (0, .ref (ad 32 0))] dX10_empties_75 rfl (by decide) rfl rfl ?_
      refine im_sub [1, 0] [(0, .ref (ad 32 0)), (1, .int (0 : Int32))] rfl ?_
      refine im_lpB l_X10_empties_76 (fun z76 => [(0, .ref (ad 32 0)), (1, .int z76.1)]) (fun z76 => z76.2) 93 (fun e10 => []) (fun e10 => e10) (fun e10 => ?_) (fun z76 X_z76 hX_z76 hE_z76 => ?_) FU ((0 : Int32), e5)
      · exact im_vret C rfl dX10_empties_93
      · unfold l_X10_empties_76
        refine im_iload_n C 77 1 dX10_empties_76 rfl rfl rfl ?_
        refine im_bipush C 79 dX10_empties_77 rfl k_bp16 ?_
        refine im_ic_ge C 93 82 dX10_empties_79 rfl rfl ?_ ?_
        · exact im_sub [] [] rfl (hE_z76 z76.2)
        · refine im_aload_n C 83 0 dX10_empties_82 rfl rfl rfl ?_
          refine im_iload_n C 84 1 dX10_empties_83 rfl rfl rfl ?_
          refine im_cVV C 87 vk_X10_leaves gw_993 (c_X10_leaves (x1 := z76.1) hU h0) (h0 32 (by decide) (by decide)) rfl rfl (rle rfl) rfl (st := []) rfl (Nat.le_of_ble_eq_true rfl) dX10_empties_84 rfl (fun D11 => ?_)
          refine im_iinc C 90 1 [(1, .int (z76.1 + (1 : Int32))), (0, .ref (ad 32 0))] dX10_empties_87 rfl (k_inc1) (by decide) rfl rfl ?_
          refine im_goto C 76 dX10_empties_90 rfl ?_
          exact im_sub [1, 0] [(0, .ref (ad 32 0)), (1, .int (z76.1 + (1 : Int32)))] rfl (hX_z76 (z76.1 + (1 : Int32), D11))
    · unfold l_X10_empties_40
      refine im_iload_n C 41 1 dX10_empties_40 rfl rfl rfl ?_
      refine im_bipush C 43 dX10_empties_41 rfl k_bp12 ?_
      refine im_ic_ge C 74 46 dX10_empties_43 rfl rfl ?_ ?_
      · exact im_sub [0] [(0, .ref (ad 32 0))] rfl (hE_z40 z40.2)
      · refine im_aload_n C 47 0 dX10_empties_46 rfl rfl rfl ?_
        refine gl_X10_7 C 50 (h0 32 (by decide) (by decide)) dX10_empties_47 rfl ?_
        refine im_iload_n C 51 1 dX10_empties_50 rfl rfl rfl ?_
        refine im_cSP C 54 sk_X10_net gw_990 (c_X10_net (x0 := z40.1) hU) (rle rfl) rfl (st := [.ref (ad 33 0)]) rfl (Nat.le_of_ble_eq_true rfl) dX10_empties_51 rfl (fun o6 => ?_)
        refine im_iconst C 55 dX10_empties_54 rfl k_icm1 ?_
        refine im_wri C 56 170 (h0 33 (by decide) (by decide)) (fun _ => rfl) dX10_empties_55 rfl (fun D7 => ?_)
        refine im_aload_n C 57 0 dX10_empties_56 rfl rfl rfl ?_
        refine gl_X10_7 C 60 (h0 32 (by decide) (by decide)) dX10_empties_57 rfl ?_
        refine im_iload_n C 61 1 dX10_empties_60 rfl rfl rfl ?_
        refine im_cSP C 64 sk_X10_net gw_990 (c_X10_net (x0 := z40.1) hU) (rle rfl) rfl (st := [.ref (ad 33 0)]) rfl (Nat.le_of_ble_eq_true rfl) dX10_empties_61 rfl (fun o8 => ?_)
        refine im_iconst C 65 dX10_empties_64 rfl k_ic2 ?_
        refine im_iadd C 66 dX10_empties_65 rfl ?_
        refine im_iconst C 67 dX10_empties_66 rfl k_icm1 ?_
        refine im_wri C 68 170 (h0 33 (by decide) (by decide)) (fun _ => rfl) dX10_empties_67 rfl (fun D9 => ?_)
        refine im_iinc C 71 1 [(1, .int (z40.1 + (1 : Int32))), (0, .ref (ad 32 0))] dX10_empties_68 rfl (k_inc1) (by decide) rfl rfl ?_
        refine im_goto C 40 dX10_empties_71 rfl ?_
        exact im_sub [1, 0] [(0, .ref (ad 32 0)), (1, .int (z40.1 + (1 : Int32)))] rfl (hX_z40 (z40.1 + (1 : Int32), D9))
  · unfold l_X10_empties_2
    refine im_iload_n C 3 1 dX10_empties_2 rfl rfl rfl ?_
    refine im_sipush C 6 dX10_empties_3 rfl k_sp170 ?_
    refine im_ic_ge C 22 9 dX10_empties_6 rfl rfl ?_ ?_
    · exact im_sub [0] [(0, .ref (ad 32 0))] rfl (hE_z2 z2.2)
    · refine im_aload_n C 10 0 dX10_empties_9 rfl rfl rfl ?_
      refine gl_X10_7 C 13 (h0 32 (by decide) (by decide)) dX10_empties_10 rfl ?_
      refine im_iload_n C 14 1 dX10_empties_13 rfl rfl rfl ?_
      refine im_iconst C 15 dX10_empties_14 rfl k_ic0 ?_
      refine im_wri C 16 170 (h0 33 (by decide) (by decide)) (fun _ => rfl) dX10_empties_15 rfl (fun D2 => ?_)
      refine im_iinc C 19 1 [(1, .int (z2.1 + (1 : Int32))), (0, .ref (ad 32 0))] dX10_empties_16 rfl (k_inc1) (by decide) rfl rfl ?_
      refine im_goto C 2 dX10_empties_19 rfl ?_
      exact im_sub [1, 0] [(0, .ref (ad 32 0)), (1, .int (z2.1 + (1 : Int32)))] rfl (hX_z2 (z2.1 + (1 : Int32), D2))
set_option maxRecDepth 100000 in
set_option maxHeartbeats 4000000 in
theorem c_X10_note {l : Launch} {G : va_G} {ad : Nat → Nat → Nat} {U : List (Nat × Nat)} {D : Dt} (hU : Uinj ad U) (h0 : MoU U) : MV l G ad U yX10_note cX10_note 2 (k2_rm 0 0) [.ref (ad 32 0)] D (f_X10_note D) := by
  refine mV_of0 (lv := [(0, .ref (ad 32 0))]) (by decide) hU rfl (Nat.le_of_ble_eq_true rfl) (fun A p e s m args below meth c C => ?_)
  have C : Cx G ad U A p s m meth c args cX10_note RX10 2 none := C
  unfold f_X10_note
  refine im_aload_n C 1 0 dX10_note_0 rfl rfl rfl ?_
  refine gl_X10_46 C 4 (h0 32 (by decide) (by decide)) dX10_note_1 rfl ?_
  refine im_bipush C 6 dX10_note_4 rfl k_bp6 ?_
  refine im_jn 50 (fun t1 => [(0, .ref (ad 32 0))]) (fun t1 => []) (fun t1 => t1) (fun t1 => j_X10_note_50_t1 t1) (fun t1 => ?_) (fun ht1 => ?_)
  · unfold j_X10_note_50_t1
    refine im_iconst C 51 dX10_note_50 rfl k_ic0 ?_
    refine im_istore_n C 52 [(1, .int (0 : Int32)), (0, .ref (ad 32 0))] dX10_note_51 rfl (by decide) rfl rfl ?_
    refine im_sub [1, 0] [(0, .ref (ad 32 0)), (1, .int (0 : Int32))] rfl ?_
    refine im_lpB l_X10_note_52 (fun z52 => [(0, .ref (ad 32 0)), (1, .int z52.1)]) (fun z52 => z52.2) 86 (fun e2 => [(0, .ref (ad 32 0))]) (fun e2 => e2) (fun e2 => ?_) (fun z52 X_z52 hX_z52 hE_z52 => ?_) FU ((0 : Int32), t1)
    · refine im_aload_n C 87 0 dX10_note_86 rfl rfl rfl ?_
      refine im_dup C 88 dX10_note_87 rfl rfl ?_
      refine gl_X10_46 C 91 (h0 32 (by decide) (by decide)) dX10_note_88 rfl ?_
      refine im_iconst C 92 dX10_note_91 rfl k_ic1 ?_
      refine im_iadd C 93 dX10_note_92 rfl ?_
      refine pl_X10_46 C 96 (h0 32 (by decide) (by decide)) dX10_note_93 rfl (fun D5 => ?_)
      exact im_vret C rfl dX10_note_96
    · unfold l_X10_note_52
      refine im_iload_n C 53 1 dX10_note_52 rfl rfl rfl ?_
      refine im_sipush C 56 dX10_note_53 rfl k_sp170 ?_
      refine im_ic_ge C 86 59 dX10_note_56 rfl rfl ?_ ?_
      · exact im_sub [0] [(0, .ref (ad 32 0))] rfl (hE_z52 z52.2)
      · refine im_aload_n C 60 0 dX10_note_59 rfl rfl rfl ?_
        refine gl_X10_13 C 63 (h0 32 (by decide) (by decide)) dX10_note_60 rfl ?_
        refine im_sipush C 66 dX10_note_63 rfl k_sp170 ?_
        refine im_aload_n C 67 0 dX10_note_66 rfl rfl rfl ?_
        refine gl_X10_46 C 70 (h0 32 (by decide) (by decide)) dX10_note_67 rfl ?_
        refine im_imul C 71 dX10_note_70 rfl ?_
        refine im_iload_n C 72 1 dX10_note_71 rfl rfl rfl ?_
        refine im_iadd C 73 dX10_note_72 rfl ?_
        refine im_aload_n C 74 0 dX10_note_73 rfl rfl rfl ?_
        refine gl_X10_7 C 77 (h0 32 (by decide) (by decide)) dX10_note_74 rfl ?_
        refine im_iload_n C 78 1 dX10_note_77 rfl rfl rfl ?_
        refine im_rdi C 79 170 (h0 33 (by decide) (by decide)) rfl dX10_note_78 rfl (fun v3 => ?_)
        refine im_wri C 80 1020 (h0 34 (by decide) (by decide)) (fun _ => rfl) dX10_note_79 rfl (fun D4 => ?_)
        refine im_iinc C 83 1 [(1, .int (z52.1 + (1 : Int32))), (0, .ref (ad 32 0))] dX10_note_80 rfl (k_inc1) (by decide) rfl rfl ?_
        refine im_goto C 52 dX10_note_83 rfl ?_
        exact im_sub [1, 0] [(0, .ref (ad 32 0)), (1, .int (z52.1 + (1 : Int32)))] rfl (hX_z52 (z52.1 + (1 : Int32), D4))
  · refine im_ic_ne C 50 9 dX10_note_6 rfl rfl ?_ ?_
    · exact ht1 D
    · refine im_iconst C 10 dX10_note_9 rfl k_ic0 ?_
      refine im_istore_n C 11 [(1, .int (0 : Int32)), (0, .ref (ad 32 0))] dX10_note_10 rfl (by decide) rfl rfl ?_
      refine im_sub [1, 0] [(0, .ref (ad 32 0)), (1, .int (0 : Int32))] rfl ?_
      refine im_lpB l_X10_note_11 (fun z11 => [(0, .ref (ad 32 0)), (1, .int z11.1)]) (fun z11 => z11.2) 40 (fun e6 => [(0, .ref (ad 32 0))]) (fun e6 => e6) (fun e6 => ?_) (fun z11 X_z11 hX_z11 hE_z11 => ?_) FU ((0 : Int32), D)
      · refine im_aload_n C 41 0 dX10_note_40 rfl rfl rfl ?_
        refine im_dup C 42 dX10_note_41 rfl rfl ?_
        refine gl_X10_46 C 45 (h0 32 (by decide) (by decide)) dX10_note_42 rfl ?_
        refine im_iconst C 46 dX10_note_45 rfl k_ic1 ?_
        refine im_isub C 47 dX10_note_46 rfl ?_
        refine pl_X10_46 C 50 (h0 32 (by decide) (by decide)) dX10_note_47 rfl (fun D9 => ?_)
        exact ht1 D9
      · unfold l_X10_note_11
        refine im_iload_n C 12 1 dX10_note_11 rfl rfl rfl ?_
        refine im_sipush C 15 dX10_note_12 rfl k_sp850 ?_
        refine im_ic_ge C 40 18 dX10_note_15 rfl rfl ?_ ?_
        · exact im_sub [0] [(0, .ref (ad 32 0))] rfl (hE_z11 z11.2)
        · refine im_aload_n C 19 0 dX10_note_18 rfl rfl rfl ?_
          refine gl_X10_13 C 22 (h0 32 (by decide) (by decide)) dX10_note_19 rfl ?_
          refine im_iload_n C 23 1 dX10_note_22 rfl rfl rfl ?_
          refine im_aload_n C 24 0 dX10_note_23 rfl rfl rfl ?_
          refine gl_X10_13 C 27 (h0 32 (by decide) (by decide)) dX10_note_24 rfl ?_
          refine im_iload_n C 28 1 dX10_note_27 rfl rfl rfl ?_
          refine im_sipush C 31 dX10_note_28 rfl k_sp170 ?_
          refine im_iadd C 32 dX10_note_31 rfl ?_
          refine im_rdi C 33 1020 (h0 34 (by decide) (by decide)) rfl dX10_note_32 rfl (fun v7 => ?_)
          refine im_wri C 34 1020 (h0 34 (by decide) (by decide)) (fun _ => rfl) dX10_note_33 rfl (fun D8 => ?_)
          refine im_iinc C 37 1 [(1, .int (z11.1 + (1 : Int32))), (0, .ref (ad 32 0))] dX10_note_34 rfl (k_inc1) (by decide) rfl rfl ?_
          refine im_goto C 11 dX10_note_37 rfl ?_
          exact im_sub [1, 0] [(0, .ref (ad 32 0)), (1, .int (z11.1 + (1 : Int32)))] rfl (hX_z11 (z11.1 + (1 : Int32), D8))
set_option maxRecDepth 100000 in
set_option maxHeartbeats 4000000 in
theorem c_X10_undo {l : Launch} {G : va_G} {ad : Nat → Nat → Nat} {U : List (Nat × Nat)} {D : Dt} (hU : Uinj ad U) (h0 : MoU U) : MI l G ad U yX10_undo cX10_undo 2 .int (k2_rm 0 0) [.ref (ad 32 0)] D (f_X10_undo D) := by
  refine mI_of0 (lv := [(0, .ref (ad 32 0))]) (by decide) hU rfl (Nat.le_of_ble_eq_true rfl) (fun A p e s m args below meth c C => ?_)
  have C : Cx G ad U A p s m meth c args cX10_undo RX10 2 (some .int) := C
  unfold f_X10_undo
  refine im_aload_n C 1 0 dX10_undo_0 rfl rfl rfl ?_
  refine gl_X10_46 C 4 (h0 32 (by decide) (by decide)) dX10_undo_1 rfl ?_
  refine im_if_ne C 10 7 dX10_undo_4 rfl rfl ?_ ?_
  · refine im_aload_n C 11 0 dX10_undo_10 rfl rfl rfl ?_
    refine im_dup C 12 dX10_undo_11 rfl rfl ?_
    refine gl_X10_46 C 15 (h0 32 (by decide) (by decide)) dX10_undo_12 rfl ?_
    refine im_iconst C 16 dX10_undo_15 rfl k_ic1 ?_
    refine im_isub C 17 dX10_undo_16 rfl ?_
    refine pl_X10_46 C 20 (h0 32 (by decide) (by decide)) dX10_undo_17 rfl (fun D1 => ?_)
    refine im_iconst C 21 dX10_undo_20 rfl k_ic0 ?_
    refine im_istore_n C 22 [(1, .int (0 : Int32)), (0, .ref (ad 32 0))] dX10_undo_21 rfl (by decide) rfl rfl ?_
    refine im_sub [1, 0] [(0, .ref (ad 32 0)), (1, .int (0 : Int32))] rfl ?_
    refine im_lpB l_X10_undo_22 (fun z22 => [(0, .ref (ad 32 0)), (1, .int z22.1)]) (fun z22 => z22.2) 56 (fun e2 => [(0, .ref (ad 32 0))]) (fun e2 => e2) (fun e2 => ?_) (fun z22 X_z22 hX_z22 hE_z22 => ?_) FU ((0 : Int32), D1)
    · refine im_aload_n C 57 0 dX10_undo_56 rfl rfl rfl ?_
      refine gl_X10_46 C 60 (h0 32 (by decide) (by decide)) dX10_undo_57 rfl ?_
      exact im_iret C rfl rfl dX10_undo_60
    · unfold l_X10_undo_22
      refine im_iload_n C 23 1 dX10_undo_22 rfl rfl rfl ?_
      refine im_sipush C 26 dX10_undo_23 rfl k_sp170 ?_
      refine im_ic_ge C 56 29 dX10_undo_26 rfl rfl ?_ ?_
      · exact im_sub [0] [(0, .ref (ad 32 0))] rfl (hE_z22 z22.2)
      · refine im_aload_n C 30 0 dX10_undo_29 rfl rfl rfl ?_
        refine gl_X10_7 C 33 (h0 32 (by decide) (by decide)) dX10_undo_30 rfl ?_
        refine im_iload_n C 34 1 dX10_undo_33 rfl rfl rfl ?_
        refine im_aload_n C 35 0 dX10_undo_34 rfl rfl rfl ?_
        refine gl_X10_13 C 38 (h0 32 (by decide) (by decide)) dX10_undo_35 rfl ?_
        refine im_sipush C 41 dX10_undo_38 rfl k_sp170 ?_
        refine im_aload_n C 42 0 dX10_undo_41 rfl rfl rfl ?_
        refine gl_X10_46 C 45 (h0 32 (by decide) (by decide)) dX10_undo_42 rfl ?_
        refine im_imul C 46 dX10_undo_45 rfl ?_
        refine im_iload_n C 47 1 dX10_undo_46 rfl rfl rfl ?_
        refine im_iadd C 48 dX10_undo_47 rfl ?_
        refine im_rdi C 49 1020 (h0 34 (by decide) (by decide)) rfl dX10_undo_48 rfl (fun v3 => ?_)
        refine im_wri C 50 170 (h0 33 (by decide) (by decide)) (fun _ => rfl) dX10_undo_49 rfl (fun D4 => ?_)
        refine im_iinc C 53 1 [(1, .int (z22.1 + (1 : Int32))), (0, .ref (ad 32 0))] dX10_undo_50 rfl (k_inc1) (by decide) rfl rfl ?_
        refine im_goto C 22 dX10_undo_53 rfl ?_
        exact im_sub [1, 0] [(0, .ref (ad 32 0)), (1, .int (z22.1 + (1 : Int32)))] rfl (hX_z22 (z22.1 + (1 : Int32), D4))
  · refine im_bipush C 9 dX10_undo_7 rfl k_bpm2 ?_
    exact im_iret C rfl rfl dX10_undo_9
set_option maxRecDepth 100000 in
set_option maxHeartbeats 4000000 in
theorem c_X10_keepsApart {l : Launch} {G : va_G} {ad : Nat → Nat → Nat} {U : List (Nat × Nat)} {D : Dt} (hU : Uinj ad U) (h0 : MoU U) : MV l G ad U yX10_keepsApart cX10_keepsApart 2 (k2_rm 0 0) [.ref (ad 32 0)] D (f_X10_keepsApart D) := by
  refine mV_of0 (lv := [(0, .ref (ad 32 0))]) (by decide) hU rfl (Nat.le_of_ble_eq_true rfl) (fun A p e s m args below meth c C => ?_)
  have C : Cx G ad U A p s m meth c args cX10_keepsApart RX10 2 none := C
  unfold f_X10_keepsApart
  refine im_iconst C 1 dX10_keepsApart_0 rfl k_ic0 ?_
  refine im_istore_n C 2 [(1, .int (0 : Int32)), (0, .ref (ad 32 0))] dX10_keepsApart_1 rfl (by decide) rfl rfl ?_
  refine im_sub [1, 0] [(0, .ref (ad 32 0)), (1, .int (0 : Int32))] rfl ?_
  refine im_lpB l_X10_keepsApart_2 (fun z2 => [(0, .ref (ad 32 0)), (1, .int z2.1)]) (fun z2 => z2.2) 27 (fun e1 => []) (fun e1 => e1) (fun e1 => ?_) (fun z2 X_z2 hX_z2 hE_z2 => ?_) FU ((0 : Int32), D)
  · exact im_vret C rfl dX10_keepsApart_27
  · unfold l_X10_keepsApart_2
    refine im_iload_n C 3 1 dX10_keepsApart_2 rfl rfl rfl ?_
    refine im_sipush C 6 dX10_keepsApart_3 rfl k_sp170 ?_
    refine im_ic_ge C 27 9 dX10_keepsApart_6 rfl rfl ?_ ?_
    · exact im_sub [] [] rfl (hE_z2 z2.2)
    · refine im_aload_n C 10 0 dX10_keepsApart_9 rfl rfl rfl ?_
      refine gl_X10_20 C 13 (h0 32 (by decide) (by decide)) dX10_keepsApart_10 rfl ?_
      refine im_iload_n C 14 1 dX10_keepsApart_13 rfl rfl rfl ?_
      refine im_aload_n C 15 0 dX10_keepsApart_14 rfl rfl rfl ?_
      refine gl_X10_7 C 18 (h0 32 (by decide) (by decide)) dX10_keepsApart_15 rfl ?_
      refine im_iload_n C 19 1 dX10_keepsApart_18 rfl rfl rfl ?_
      refine im_rdi C 20 170 (h0 33 (by decide) (by decide)) rfl dX10_keepsApart_19 rfl (fun v2 => ?_)
      refine im_wri C 21 170 (h0 36 (by decide) (by decide)) (fun _ => rfl) dX10_keepsApart_20 rfl (fun D3 => ?_)
      refine im_iinc C 24 1 [(1, .int (z2.1 + (1 : Int32))), (0, .ref (ad 32 0))] dX10_keepsApart_21 rfl (k_inc1) (by decide) rfl rfl ?_
      refine im_goto C 2 dX10_keepsApart_24 rfl ?_
      exact im_sub [1, 0] [(0, .ref (ad 32 0)), (1, .int (z2.1 + (1 : Int32)))] rfl (hX_z2 (z2.1 + (1 : Int32), D3))
set_option maxRecDepth 100000 in
set_option maxHeartbeats 4000000 in
theorem c_X10_exchanges {l : Launch} {G : va_G} {ad : Nat → Nat → Nat} {U : List (Nat × Nat)} {D : Dt} (hU : Uinj ad U) (h0 : MoU U) : MV l G ad U yX10_exchanges cX10_exchanges 3 (k2_rm 0 0) [.ref (ad 32 0)] D (f_X10_exchanges D) := by
  refine mV_of0 (lv := [(0, .ref (ad 32 0))]) (by decide) hU rfl (Nat.le_of_ble_eq_true rfl) (fun A p e s m args below meth c C => ?_)
  have C : Cx G ad U A p s m meth c args cX10_exchanges RX10 3 none := C
  unfold f_X10_exchanges
  refine im_iconst C 1 dX10_exchanges_0 rfl k_ic0 ?_
  refine im_istore_n C 2 [(1, .int (0 : Int32)), (0, .ref (ad 32 0))] dX10_exchanges_1 rfl (by decide) rfl rfl ?_
  refine im_sub [1, 0] [(0, .ref (ad 32 0)), (1, .int (0 : Int32))] rfl ?_
  refine im_lpB l_X10_exchanges_2 (fun z2 => [(0, .ref (ad 32 0)), (1, .int z2.1)]) (fun z2 => z2.2) 41 (fun e1 => []) (fun e1 => e1) (fun e1 => ?_) (fun z2 X_z2 hX_z2 hE_z2 => ?_) FU ((0 : Int32), D)
  · exact im_vret C rfl dX10_exchanges_41
  · unfold l_X10_exchanges_2
    refine im_iload_n C 3 1 dX10_exchanges_2 rfl rfl rfl ?_
    refine im_sipush C 6 dX10_exchanges_3 rfl k_sp170 ?_
    refine im_ic_ge C 41 9 dX10_exchanges_6 rfl rfl ?_ ?_
    · exact im_sub [] [] rfl (hE_z2 z2.2)
    · refine im_aload_n C 10 0 dX10_exchanges_9 rfl rfl rfl ?_
      refine gl_X10_7 C 13 (h0 32 (by decide) (by decide)) dX10_exchanges_10 rfl ?_
      refine im_iload_n C 14 1 dX10_exchanges_13 rfl rfl rfl ?_
      refine im_rdi C 15 170 (h0 33 (by decide) (by decide)) rfl dX10_exchanges_14 rfl (fun v2 => ?_)
      refine im_istore_n C 16 [(2, .int v2), (0, .ref (ad 32 0)), (1, .int z2.1)] dX10_exchanges_15 rfl (by decide) rfl rfl ?_
      refine im_aload_n C 17 1 dX10_exchanges_16 rfl rfl rfl ?_
      refine gl_X10_7 C 20 (h0 32 (by decide) (by decide)) dX10_exchanges_17 rfl ?_
      refine im_iload_n C 21 2 dX10_exchanges_20 rfl rfl rfl ?_
      refine im_aload_n C 22 1 dX10_exchanges_21 rfl rfl rfl ?_
      refine gl_X10_20 C 25 (h0 32 (by decide) (by decide)) dX10_exchanges_22 rfl ?_
      refine im_iload_n C 26 2 dX10_exchanges_25 rfl rfl rfl ?_
      refine im_rdi C 27 170 (h0 36 (by decide) (by decide)) rfl dX10_exchanges_26 rfl (fun v3 => ?_)
      refine im_wri C 28 170 (h0 33 (by decide) (by decide)) (fun _ => rfl) dX10_exchanges_27 rfl (fun D4 => ?_)
      refine im_aload_n C 29 1 dX10_exchanges_28 rfl rfl rfl ?_
      refine gl_X10_20 C 32 (h0 32 (by decide) (by decide)) dX10_exchanges_29 rfl ?_
      refine im_iload_n C 33 2 dX10_exchanges_32 rfl rfl rfl ?_
      refine im_iload_n C 34 0 dX10_exchanges_33 rfl rfl rfl ?_
      refine im_wri C 35 170 (h0 36 (by decide) (by decide)) (fun _ => rfl) dX10_exchanges_34 rfl (fun D5 => ?_)
      refine im_iinc C 38 2 [(1, .int (z2.1 + (1 : Int32))), (2, .int v2), (0, .ref (ad 32 0))] dX10_exchanges_35 rfl (k_inc1) (by decide) rfl rfl ?_
      refine im_goto C 2 dX10_exchanges_38 rfl ?_
      exact im_sub [2, 0] [(0, .ref (ad 32 0)), (1, .int (z2.1 + (1 : Int32)))] rfl (hX_z2 (z2.1 + (1 : Int32), D5))
set_option maxRecDepth 100000 in
set_option maxHeartbeats 4000000 in
theorem c_X10_size {l : Launch} {G : va_G} {ad : Nat → Nat → Nat} {U : List (Nat × Nat)} {D : Dt} {x0 : Int32} (hU : Uinj ad U) : MI l G ad U yX10_size cX10_size 1 .int (k2_rm 0 0) [.int x0] D ((f_X10_size x0 D).bind (fun r => some (r, D))) := by
  refine mI_of (lv := [(0, .int x0)]) (by decide) hU rfl (Nat.le_of_ble_eq_true rfl) (fun A p e s m args below meth c C => ?_)
  have C : Cx G ad U A p s m meth c args cX10_size RX10 1 (some .int) := C
  unfold f_X10_size
  refine im_iconst C 1 dX10_size_0 rfl k_ic1 ?_
  refine im_bipush C 3 dX10_size_1 rfl k_bp16 ?_
  refine im_iload_n C 4 0 dX10_size_3 rfl rfl rfl ?_
  refine im_isub C 5 dX10_size_4 rfl ?_
  refine im_ishl C 6 dX10_size_5 rfl ?_
  exact im_iret C rfl rfl dX10_size_6
set_option maxRecDepth 100000 in
set_option maxHeartbeats 4000000 in
theorem c_X10_blockAt {l : Launch} {G : va_G} {ad : Nat → Nat → Nat} {U : List (Nat × Nat)} {D : Dt} {x1 : Int32} (hU : Uinj ad U) (h0 : MoU U) : MI l G ad U yX10_blockAt cX10_blockAt 2 .int (k2_rm 1 20) [.ref (ad 32 0), .int x1] D ((f_X10_blockAt x1 D).bind (fun r => some (r, D))) := by
  refine mI_of (lv := [(0, .ref (ad 32 0)), (1, .int x1)]) (by decide) hU rfl (Nat.le_of_ble_eq_true rfl) (fun A p e s m args below meth c C => ?_)
  have C : Cx G ad U A p s m meth c args cX10_blockAt RX10 2 (some .int) := C
  unfold f_X10_blockAt
  refine im_aload_n C 1 0 dX10_blockAt_0 rfl rfl rfl ?_
  refine gl_X10_7 C 4 (h0 32 (by decide) (by decide)) dX10_blockAt_1 rfl ?_
  refine im_iload_n C 5 1 dX10_blockAt_4 rfl rfl rfl ?_
  refine im_iconst C 6 dX10_blockAt_5 rfl k_ic2 ?_
  refine im_idiv C 7 dX10_blockAt_6 rfl ?_
  refine im_cSP C 10 sk_X10_net gw_990 (c_X10_net (x0 := x1 / (2 : Int32)) hU) (rle rfl) rfl (st := [.ref (ad 33 0)]) rfl (Nat.le_of_ble_eq_true rfl) dX10_blockAt_7 rfl (fun o1 => ?_)
  refine im_iconst C 11 dX10_blockAt_10 rfl k_ic2 ?_
  refine im_iload_n C 12 1 dX10_blockAt_11 rfl rfl rfl ?_
  refine im_iconst C 13 dX10_blockAt_12 rfl k_ic2 ?_
  refine im_irem C 14 dX10_blockAt_13 rfl ?_
  refine im_imul C 15 dX10_blockAt_14 rfl ?_
  refine im_iadd C 16 dX10_blockAt_15 rfl ?_
  refine im_rdi C 17 170 (h0 33 (by decide) (by decide)) rfl dX10_blockAt_16 rfl (fun v2 => ?_)
  exact im_iret C rfl rfl dX10_blockAt_17
set_option maxRecDepth 100000 in
set_option maxHeartbeats 4000000 in
theorem c_X10_lengthAt {l : Launch} {G : va_G} {ad : Nat → Nat → Nat} {U : List (Nat × Nat)} {D : Dt} {x1 : Int32} (hU : Uinj ad U) (h0 : MoU U) : MI l G ad U yX10_lengthAt cX10_lengthAt 2 .int (k2_rm 1 20) [.ref (ad 32 0), .int x1] D ((f_X10_lengthAt x1 D).bind (fun r => some (r, D))) := by
  refine mI_of (lv := [(0, .ref (ad 32 0)), (1, .int x1)]) (by decide) hU rfl (Nat.le_of_ble_eq_true rfl) (fun A p e s m args below meth c C => ?_)
  have C : Cx G ad U A p s m meth c args cX10_lengthAt RX10 2 (some .int) := C
  unfold f_X10_lengthAt
  refine im_aload_n C 1 0 dX10_lengthAt_0 rfl rfl rfl ?_
  refine gl_X10_7 C 4 (h0 32 (by decide) (by decide)) dX10_lengthAt_1 rfl ?_
  refine im_iload_n C 5 1 dX10_lengthAt_4 rfl rfl rfl ?_
  refine im_iconst C 6 dX10_lengthAt_5 rfl k_ic2 ?_
  refine im_idiv C 7 dX10_lengthAt_6 rfl ?_
  refine im_cSP C 10 sk_X10_net gw_990 (c_X10_net (x0 := x1 / (2 : Int32)) hU) (rle rfl) rfl (st := [.ref (ad 33 0)]) rfl (Nat.le_of_ble_eq_true rfl) dX10_lengthAt_7 rfl (fun o1 => ?_)
  refine im_iconst C 11 dX10_lengthAt_10 rfl k_ic2 ?_
  refine im_iload_n C 12 1 dX10_lengthAt_11 rfl rfl rfl ?_
  refine im_iconst C 13 dX10_lengthAt_12 rfl k_ic2 ?_
  refine im_irem C 14 dX10_lengthAt_13 rfl ?_
  refine im_imul C 15 dX10_lengthAt_14 rfl ?_
  refine im_iadd C 16 dX10_lengthAt_15 rfl ?_
  refine im_iconst C 17 dX10_lengthAt_16 rfl k_ic1 ?_
  refine im_iadd C 18 dX10_lengthAt_17 rfl ?_
  refine im_rdi C 19 170 (h0 33 (by decide) (by decide)) rfl dX10_lengthAt_18 rfl (fun v2 => ?_)
  exact im_iret C rfl rfl dX10_lengthAt_19
set_option maxRecDepth 100000 in
set_option maxHeartbeats 4000000 in
theorem c_X10_assignedIn {l : Launch} {G : va_G} {ad : Nat → Nat → Nat} {U : List (Nat × Nat)} {D : Dt} {x1 : Int32} {x2 : Int32} (hU : Uinj ad U) (h0 : MoU U) : MI l G ad U yX10_assignedIn cX10_assignedIn 8 .int (k2_rm 2 41) [.ref (ad 32 0), .int x1, .int x2] D ((f_X10_assignedIn x1 x2 D).bind (fun r => some (r, D))) := by
  refine mI_of (lv := [(0, .ref (ad 32 0)), (1, .int x1), (2, .int x2)]) (by decide) hU rfl (Nat.le_of_ble_eq_true rfl) (fun A p e s m args below meth c C => ?_)
  have C : Cx G ad U A p s m meth c args cX10_assignedIn RX10 8 (some .int) := C
  unfold f_X10_assignedIn
  refine im_iconst C 1 dX10_assignedIn_0 rfl k_ic0 ?_
  refine im_istore_n C 2 [(3, .int (0 : Int32)), (0, .ref (ad 32 0)), (1, .int x1), (2, .int x2)] dX10_assignedIn_1 rfl (by decide) rfl rfl ?_
  refine im_iconst C 3 dX10_assignedIn_2 rfl k_ic0 ?_
  refine im_istore C 5 [(4, .int (0 : Int32)), (3, .int (0 : Int32)), (0, .ref (ad 32 0)), (1, .int x1), (2, .int x2)] dX10_assignedIn_3 (by decide) rfl rfl ?_
  refine im_sub [2, 3, 4, 1, 0] [(0, .ref (ad 32 0)), (1, .int x1), (2, .int x2), (3, .int (0 : Int32)), (4, .int (0 : Int32))] rfl ?_
  refine im_lpB (l_X10_assignedIn_5 x1 x2 D) (fun z5 => [(0, .ref (ad 32 0)), (1, .int x1), (2, .int x2), (3, .int z5.1), (4, .int z5.2)]) (fun z5 => D) 102 (fun e1 => [(3, .int e1)]) (fun e1 => D) (fun e1 => ?_) (fun z5 X_z5 hX_z5 hE_z5 => ?_) FU ((0 : Int32), (0 : Int32))
  · refine im_iload_n C 103 0 dX10_assignedIn_102 rfl rfl rfl ?_
    exact im_iret C rfl rfl dX10_assignedIn_103
  · unfold l_X10_assignedIn_5
    refine im_iload C 7 4 dX10_assignedIn_5 rfl rfl ?_
    refine im_bipush C 9 dX10_assignedIn_7 rfl k_bp24 ?_
    refine im_ic_ge C 102 12 dX10_assignedIn_9 rfl rfl ?_ ?_
    · exact im_sub [3] [(3, .int z5.1)] rfl (hE_z5 z5.1)
    · refine im_aload_n C 13 0 dX10_assignedIn_12 rfl rfl rfl ?_
      refine im_iload C 15 4 dX10_assignedIn_13 rfl rfl ?_
      refine im_cVP C 18 vk_X10_blockAt gw_1141 (c_X10_blockAt (x1 := z5.2) hU h0) (h0 32 (by decide) (by decide)) rfl rfl (rle rfl) rfl (st := []) rfl (Nat.le_of_ble_eq_true rfl) dX10_assignedIn_15 rfl (fun o2 => ?_)
      refine im_istore C 20 [(5, .int o2), (0, .ref (ad 32 0)), (1, .int x1), (2, .int x2), (3, .int z5.1), (4, .int z5.2)] dX10_assignedIn_18 (by decide) rfl rfl ?_
      refine im_iload C 22 0 dX10_assignedIn_20 rfl rfl ?_
      refine im_if_lt C 96 25 dX10_assignedIn_22 rfl rfl ?_ ?_
      · refine im_iinc C 99 5 [(4, .int (z5.2 + (1 : Int32))), (5, .int o2), (0, .ref (ad 32 0)), (1, .int x1), (2, .int x2), (3, .int z5.1)] dX10_assignedIn_96 rfl (k_inc1) (by decide) rfl rfl ?_
        refine im_goto C 5 dX10_assignedIn_99 rfl ?_
        exact im_sub [2, 3, 4, 5, 0] [(0, .ref (ad 32 0)), (1, .int x1), (2, .int x2), (3, .int z5.1), (4, .int (z5.2 + (1 : Int32)))] rfl (hX_z5 (z5.1, z5.2 + (1 : Int32)))
      · refine im_iload C 27 0 dX10_assignedIn_25 rfl rfl ?_
        refine im_iload_n C 28 2 dX10_assignedIn_27 rfl rfl rfl ?_
        refine im_jn 37 (fun t3 => [(0, .ref (ad 32 0)), (1, .int x1), (2, .int x2), (3, .int z5.1), (4, .int z5.2), (5, .int o2)]) (fun t3 => [.int t3]) (fun t3 => D) (fun t3 => j_X10_assignedIn_37_t3 x1 x2 D z5 o2 t3) (fun t3 => ?_) (fun ht3 => ?_)
        · unfold j_X10_assignedIn_37_t3
          refine im_istore C 39 [(6, .int t3), (0, .ref (ad 32 0)), (1, .int x1), (2, .int x2), (3, .int z5.1), (4, .int z5.2), (5, .int o2)] dX10_assignedIn_37 (by decide) rfl rfl ?_
          refine im_iload C 41 6 dX10_assignedIn_39 rfl rfl ?_
          refine im_aload_n C 42 1 dX10_assignedIn_41 rfl rfl rfl ?_
          refine im_iload C 44 5 dX10_assignedIn_42 rfl rfl ?_
          refine im_cVP C 47 vk_X10_lengthAt gw_1145 (c_X10_lengthAt (x1 := z5.2) hU h0) (h0 32 (by decide) (by decide)) rfl rfl (rle rfl) rfl (st := [.int o2]) rfl (Nat.le_of_ble_eq_true rfl) dX10_assignedIn_44 rfl (fun o4 => ?_)
          refine im_cSP C 50 sk_X10_size gw_1113 (c_X10_size (x0 := o4) hU) (rle rfl) rfl (st := [.int o2]) rfl (Nat.le_of_ble_eq_true rfl) dX10_assignedIn_47 rfl (fun o5 => ?_)
          refine im_iadd C 51 dX10_assignedIn_50 rfl ?_
          refine im_istore C 53 [(7, .int (o2 + o5)), (6, .int t3), (0, .ref (ad 32 0)), (1, .int x1), (2, .int x2), (3, .int z5.1), (4, .int z5.2), (5, .int o2)] dX10_assignedIn_51 (by decide) rfl rfl ?_
          refine im_iload C 55 0 dX10_assignedIn_53 rfl rfl ?_
          refine im_iload_n C 56 3 dX10_assignedIn_55 rfl rfl rfl ?_
          refine im_iload_n C 57 4 dX10_assignedIn_56 rfl rfl rfl ?_
          refine im_cSP C 60 sk_X10_size gw_1113 (c_X10_size (x0 := x2) hU) (rle rfl) rfl (st := [.int x1, .int (o2 + o5)]) rfl (Nat.le_of_ble_eq_true rfl) dX10_assignedIn_57 rfl (fun o6 => ?_)
          refine im_iadd C 61 dX10_assignedIn_60 rfl ?_
          refine im_jn 75 (fun t7 => [(0, .ref (ad 32 0)), (1, .int x1), (2, .int x2), (3, .int z5.1), (4, .int z5.2), (6, .int t3)]) (fun t7 => [.int t7]) (fun t7 => D) (fun t7 => j_X10_assignedIn_75_t7 z5 t3 t7) (fun t7 => ?_) (fun ht7 => ?_)
          · unfold j_X10_assignedIn_75_t7
            refine im_istore C 77 [(7, .int t7), (0, .ref (ad 32 0)), (1, .int x1), (2, .int x2), (3, .int z5.1), (4, .int z5.2), (6, .int t3)] dX10_assignedIn_75 (by decide) rfl rfl ?_
            refine im_iload_n C 78 4 dX10_assignedIn_77 rfl rfl rfl ?_
            refine im_iload C 80 0 dX10_assignedIn_78 rfl rfl ?_
            refine im_iload C 82 6 dX10_assignedIn_80 rfl rfl ?_
            refine im_ic_le C 93 85 dX10_assignedIn_82 rfl rfl ?_ ?_
            · refine im_iconst C 94 dX10_assignedIn_93 rfl k_ic0 ?_
              refine im_iadd C 95 dX10_assignedIn_94 rfl ?_
              refine im_istore_n C 96 [(3, .int (z5.1 + (0 : Int32))), (7, .int t7), (0, .ref (ad 32 0)), (1, .int x1), (2, .int x2), (4, .int z5.2), (6, .int t3)] dX10_assignedIn_95 rfl (by decide) rfl rfl ?_
              refine im_iinc C 99 5 [(4, .int (z5.2 + (1 : Int32))), (3, .int (z5.1 + (0 : Int32))), (7, .int t7), (0, .ref (ad 32 0)), (1, .int x1), (2, .int x2), (6, .int t3)] dX10_assignedIn_96 rfl (k_inc1) (by decide) rfl rfl ?_
              refine im_goto C 5 dX10_assignedIn_99 rfl ?_
              exact im_sub [3, 4, 5, 1, 0] [(0, .ref (ad 32 0)), (1, .int x1), (2, .int x2), (3, .int (z5.1 + (0 : Int32))), (4, .int (z5.2 + (1 : Int32)))] rfl (hX_z5 (z5.1 + (0 : Int32), z5.2 + (1 : Int32)))
            · refine im_iload C 87 0 dX10_assignedIn_85 rfl rfl ?_
              refine im_iload C 89 6 dX10_assignedIn_87 rfl rfl ?_
              refine im_isub C 90 dX10_assignedIn_89 rfl ?_
              refine im_goto C 94 dX10_assignedIn_90 rfl ?_
              refine im_iadd C 95 dX10_assignedIn_94 rfl ?_
              refine im_istore_n C 96 [(3, .int (z5.1 + (t7 - t3))), (7, .int t7), (0, .ref (ad 32 0)), (1, .int x1), (2, .int x2), (4, .int z5.2), (6, .int t3)] dX10_assignedIn_95 rfl (by decide) rfl rfl ?_
              refine im_iinc C 99 5 [(4, .int (z5.2 + (1 : Int32))), (3, .int (z5.1 + (t7 - t3))), (7, .int t7), (0, .ref (ad 32 0)), (1, .int x1), (2, .int x2), (6, .int t3)] dX10_assignedIn_96 rfl (k_inc1) (by decide) rfl rfl ?_
              refine im_goto C 5 dX10_assignedIn_99 rfl ?_
              exact im_sub [3, 4, 5, 1, 0] [(0, .ref (ad 32 0)), (1, .int x1), (2, .int x2), (3, .int (z5.1 + (t7 - t3))), (4, .int (z5.2 + (1 : Int32)))] rfl (hX_z5 (z5.1 + (t7 - t3), z5.2 + (1 : Int32)))
          · refine im_ic_ge C 69 64 dX10_assignedIn_61 rfl rfl ?_ ?_
            · refine im_iload_n C 70 3 dX10_assignedIn_69 rfl rfl rfl ?_
              refine im_iload_n C 71 4 dX10_assignedIn_70 rfl rfl rfl ?_
              refine im_cSP C 74 sk_X10_size gw_1113 (c_X10_size (x0 := x2) hU) (rle rfl) rfl (st := [.int x1]) rfl (Nat.le_of_ble_eq_true rfl) dX10_assignedIn_71 rfl (fun o8 => ?_)
              refine im_iadd C 75 dX10_assignedIn_74 rfl ?_
              exact im_sub [2, 3, 4, 5, 6, 1] [(0, .ref (ad 32 0)), (1, .int x1), (2, .int x2), (3, .int z5.1), (4, .int z5.2), (6, .int t3)] rfl (ht7 (x1 + o8))
            · refine im_iload C 66 0 dX10_assignedIn_64 rfl rfl ?_
              refine im_goto C 75 dX10_assignedIn_66 rfl ?_
              exact im_sub [2, 3, 4, 5, 6, 1] [(0, .ref (ad 32 0)), (1, .int x1), (2, .int x2), (3, .int z5.1), (4, .int z5.2), (6, .int t3)] rfl (ht7 (o2 + o5))
        · refine im_ic_le C 36 31 dX10_assignedIn_28 rfl rfl ?_ ?_
          · refine im_iload_n C 37 2 dX10_assignedIn_36 rfl rfl rfl ?_
            exact im_sub [1, 2, 3, 4, 5, 0] [(0, .ref (ad 32 0)), (1, .int x1), (2, .int x2), (3, .int z5.1), (4, .int z5.2), (5, .int o2)] rfl (ht3 x1)
          · refine im_iload C 33 0 dX10_assignedIn_31 rfl rfl ?_
            refine im_goto C 37 dX10_assignedIn_33 rfl ?_
            exact im_sub [1, 2, 3, 4, 5, 0] [(0, .ref (ad 32 0)), (1, .int x1), (2, .int x2), (3, .int z5.1), (4, .int z5.2), (5, .int o2)] rfl (ht3 o2)
set_option maxRecDepth 100000 in
set_option maxHeartbeats 4000000 in
theorem c_X10_behind {l : Launch} {G : va_G} {ad : Nat → Nat → Nat} {U : List (Nat × Nat)} {D : Dt} {x1 : Int32} (hU : Uinj ad U) (h0 : MoU U) : MI l G ad U yX10_behind cX10_behind 5 .int (k2_rm 2 41) [.ref (ad 32 0), .int x1] D ((f_X10_behind x1 D).bind (fun r => some (r, D))) := by
  refine mI_of (lv := [(0, .ref (ad 32 0)), (1, .int x1)]) (by decide) hU rfl (Nat.le_of_ble_eq_true rfl) (fun A p e s m args below meth c C => ?_)
  have C : Cx G ad U A p s m meth c args cX10_behind RX10 5 (some .int) := C
  unfold f_X10_behind
  refine im_iload_n C 1 1 dX10_behind_0 rfl rfl rfl ?_
  refine im_iconst C 2 dX10_behind_1 rfl k_ic1 ?_
  refine im_iadd C 3 dX10_behind_2 rfl ?_
  refine im_istore_n C 4 [(2, .int (x1 + (1 : Int32))), (0, .ref (ad 32 0)), (1, .int x1)] dX10_behind_3 rfl (by decide) rfl rfl ?_
  refine im_iconst C 5 dX10_behind_4 rfl k_ic0 ?_
  refine im_istore_n C 6 [(3, .int (0 : Int32)), (2, .int (x1 + (1 : Int32))), (0, .ref (ad 32 0)), (1, .int x1)] dX10_behind_5 rfl (by decide) rfl rfl ?_
  refine im_sub [2, 3, 1, 0] [(0, .ref (ad 32 0)), (1, .int x1), (2, .int (x1 + (1 : Int32))), (3, .int (0 : Int32))] rfl ?_
  refine im_lpB (l_X10_behind_6 x1 D) (fun z6 => [(0, .ref (ad 32 0)), (1, .int x1), (2, .int z6.1), (3, .int z6.2)]) (fun z6 => D) 67 (fun e1 => [(2, .int e1)]) (fun e1 => D) (fun e1 => ?_) (fun z6 X_z6 hX_z6 hE_z6 => ?_) FU (x1 + (1 : Int32), (0 : Int32))
  · refine im_iload_n C 68 0 dX10_behind_67 rfl rfl rfl ?_
    exact im_iret C rfl rfl dX10_behind_68
  · unfold l_X10_behind_6
    refine im_iload_n C 7 3 dX10_behind_6 rfl rfl rfl ?_
    refine im_bipush C 9 dX10_behind_7 rfl k_bp24 ?_
    refine im_ic_ge C 67 12 dX10_behind_9 rfl rfl ?_ ?_
    · exact im_sub [2] [(2, .int z6.1)] rfl (hE_z6 z6.1)
    · refine im_aload_n C 13 0 dX10_behind_12 rfl rfl rfl ?_
      refine im_iload_n C 14 3 dX10_behind_13 rfl rfl rfl ?_
      refine im_cVP C 17 vk_X10_blockAt gw_1141 (c_X10_blockAt (x1 := z6.2) hU h0) (h0 32 (by decide) (by decide)) rfl rfl (rle rfl) rfl (st := []) rfl (Nat.le_of_ble_eq_true rfl) dX10_behind_14 rfl (fun o2 => ?_)
      refine im_istore C 19 [(4, .int o2), (0, .ref (ad 32 0)), (1, .int x1), (2, .int z6.1), (3, .int z6.2)] dX10_behind_17 (by decide) rfl rfl ?_
      refine im_iload C 21 0 dX10_behind_19 rfl rfl ?_
      refine im_if_lt C 59 24 dX10_behind_21 rfl rfl ?_ ?_
      · refine im_iload_n C 60 3 dX10_behind_59 rfl rfl rfl ?_
        refine im_istore_n C 61 [(2, .int z6.1), (4, .int o2), (0, .ref (ad 32 0)), (1, .int x1), (3, .int z6.2)] dX10_behind_60 rfl (by decide) rfl rfl ?_
        refine im_iinc C 64 4 [(3, .int (z6.2 + (1 : Int32))), (2, .int z6.1), (4, .int o2), (0, .ref (ad 32 0)), (1, .int x1)] dX10_behind_61 rfl (k_inc1) (by decide) rfl rfl ?_
        refine im_goto C 6 dX10_behind_64 rfl ?_
        exact im_sub [3, 4, 1, 0] [(0, .ref (ad 32 0)), (1, .int x1), (2, .int z6.1), (3, .int (z6.2 + (1 : Int32)))] rfl (hX_z6 (z6.1, z6.2 + (1 : Int32)))
      · refine im_iload C 26 0 dX10_behind_24 rfl rfl ?_
        refine im_iload_n C 27 2 dX10_behind_26 rfl rfl rfl ?_
        refine im_ic_gt C 59 30 dX10_behind_27 rfl rfl ?_ ?_
        · refine im_iload_n C 60 3 dX10_behind_59 rfl rfl rfl ?_
          refine im_istore_n C 61 [(2, .int z6.1), (4, .int o2), (0, .ref (ad 32 0)), (1, .int x1), (3, .int z6.2)] dX10_behind_60 rfl (by decide) rfl rfl ?_
          refine im_iinc C 64 4 [(3, .int (z6.2 + (1 : Int32))), (2, .int z6.1), (4, .int o2), (0, .ref (ad 32 0)), (1, .int x1)] dX10_behind_61 rfl (k_inc1) (by decide) rfl rfl ?_
          refine im_goto C 6 dX10_behind_64 rfl ?_
          exact im_sub [3, 4, 1, 0] [(0, .ref (ad 32 0)), (1, .int x1), (2, .int z6.1), (3, .int (z6.2 + (1 : Int32)))] rfl (hX_z6 (z6.1, z6.2 + (1 : Int32)))
        · refine im_iload C 32 0 dX10_behind_30 rfl rfl ?_
          refine im_aload_n C 33 1 dX10_behind_32 rfl rfl rfl ?_
          refine im_iload_n C 34 4 dX10_behind_33 rfl rfl rfl ?_
          refine im_cVP C 37 vk_X10_lengthAt gw_1145 (c_X10_lengthAt (x1 := z6.2) hU h0) (h0 32 (by decide) (by decide)) rfl rfl (rle rfl) rfl (st := [.int o2]) rfl (Nat.le_of_ble_eq_true rfl) dX10_behind_34 rfl (fun o3 => ?_)
          refine im_cSP C 40 sk_X10_size gw_1113 (c_X10_size (x0 := o3) hU) (rle rfl) rfl (st := [.int o2]) rfl (Nat.le_of_ble_eq_true rfl) dX10_behind_37 rfl (fun o4 => ?_)
          refine im_iadd C 41 dX10_behind_40 rfl ?_
          refine im_iload_n C 42 2 dX10_behind_41 rfl rfl rfl ?_
          refine im_ic_le C 59 45 dX10_behind_42 rfl rfl ?_ ?_
          · refine im_iload_n C 60 3 dX10_behind_59 rfl rfl rfl ?_
            refine im_istore_n C 61 [(2, .int z6.1), (4, .int o2), (0, .ref (ad 32 0)), (1, .int x1), (3, .int z6.2)] dX10_behind_60 rfl (by decide) rfl rfl ?_
            refine im_iinc C 64 4 [(3, .int (z6.2 + (1 : Int32))), (2, .int z6.1), (4, .int o2), (0, .ref (ad 32 0)), (1, .int x1)] dX10_behind_61 rfl (k_inc1) (by decide) rfl rfl ?_
            refine im_goto C 6 dX10_behind_64 rfl ?_
            exact im_sub [3, 4, 1, 0] [(0, .ref (ad 32 0)), (1, .int x1), (2, .int z6.1), (3, .int (z6.2 + (1 : Int32)))] rfl (hX_z6 (z6.1, z6.2 + (1 : Int32)))
          · refine im_iload C 47 0 dX10_behind_45 rfl rfl ?_
            refine im_aload_n C 48 1 dX10_behind_47 rfl rfl rfl ?_
            refine im_iload_n C 49 4 dX10_behind_48 rfl rfl rfl ?_
            refine im_cVP C 52 vk_X10_lengthAt gw_1145 (c_X10_lengthAt (x1 := z6.2) hU h0) (h0 32 (by decide) (by decide)) rfl rfl (rle rfl) rfl (st := [.int o2]) rfl (Nat.le_of_ble_eq_true rfl) dX10_behind_49 rfl (fun o5 => ?_)
            refine im_cSP C 55 sk_X10_size gw_1113 (c_X10_size (x0 := o5) hU) (rle rfl) rfl (st := [.int o2]) rfl (Nat.le_of_ble_eq_true rfl) dX10_behind_52 rfl (fun o6 => ?_)
            refine im_iadd C 56 dX10_behind_55 rfl ?_
            refine im_goto C 60 dX10_behind_56 rfl ?_
            refine im_istore_n C 61 [(2, .int (o2 + o6)), (4, .int o2), (0, .ref (ad 32 0)), (1, .int x1), (3, .int z6.2)] dX10_behind_60 rfl (by decide) rfl rfl ?_
            refine im_iinc C 64 4 [(3, .int (z6.2 + (1 : Int32))), (2, .int (o2 + o6)), (4, .int o2), (0, .ref (ad 32 0)), (1, .int x1)] dX10_behind_61 rfl (k_inc1) (by decide) rfl rfl ?_
            refine im_goto C 6 dX10_behind_64 rfl ?_
            exact im_sub [3, 4, 1, 0] [(0, .ref (ad 32 0)), (1, .int x1), (2, .int (o2 + o6)), (3, .int (z6.2 + (1 : Int32)))] rfl (hX_z6 (o2 + o6, z6.2 + (1 : Int32)))
set_option maxRecDepth 100000 in
set_option maxHeartbeats 4000000 in
theorem c_X10_findsFree {l : Launch} {G : va_G} {ad : Nat → Nat → Nat} {U : List (Nat × Nat)} {D : Dt} {x1 : Int32} (hU : Uinj ad U) (h0 : MoU U) : MV l G ad U yX10_findsFree cX10_findsFree 5 (k2_rm 3 68) [.ref (ad 32 0), .int x1] D (f_X10_findsFree x1 D) := by
  refine mV_of0 (lv := [(0, .ref (ad 32 0)), (1, .int x1)]) (by decide) hU rfl (Nat.le_of_ble_eq_true rfl) (fun A p e s m args below meth c C => ?_)
  have C : Cx G ad U A p s m meth c args cX10_findsFree RX10 5 none := C
  unfold f_X10_findsFree
  refine im_aload_n C 1 0 dX10_findsFree_0 rfl rfl rfl ?_
  refine gl_X10_7 C 4 (h0 32 (by decide) (by decide)) dX10_findsFree_1 rfl ?_
  refine im_bipush C 6 dX10_findsFree_4 rfl k_bp6 ?_
  refine im_iconst C 7 dX10_findsFree_6 rfl k_ic2 ?_
  refine im_iload_n C 8 1 dX10_findsFree_7 rfl rfl rfl ?_
  refine im_imul C 9 dX10_findsFree_8 rfl ?_
  refine im_iadd C 10 dX10_findsFree_9 rfl ?_
  refine im_rdi C 11 170 (h0 33 (by decide) (by decide)) rfl dX10_findsFree_10 rfl (fun v1 => ?_)
  refine im_istore_n C 12 [(2, .int v1), (0, .ref (ad 32 0)), (1, .int x1)] dX10_findsFree_11 rfl (by decide) rfl rfl ?_
  refine im_iload_n C 13 0 dX10_findsFree_12 rfl rfl rfl ?_
  refine im_aload_n C 14 1 dX10_findsFree_13 rfl rfl rfl ?_
  refine gl_X10_7 C 17 (h0 32 (by decide) (by decide)) dX10_findsFree_14 rfl ?_
  refine im_bipush C 19 dX10_findsFree_17 rfl k_bp6 ?_
  refine im_iconst C 20 dX10_findsFree_19 rfl k_ic2 ?_
  refine im_iload_n C 21 2 dX10_findsFree_20 rfl rfl rfl ?_
  refine im_imul C 22 dX10_findsFree_21 rfl ?_
  refine im_iadd C 23 dX10_findsFree_22 rfl ?_
  refine im_iconst C 24 dX10_findsFree_23 rfl k_ic1 ?_
  refine im_iadd C 25 dX10_findsFree_24 rfl ?_
  refine im_rdi C 26 170 (h0 33 (by decide) (by decide)) rfl dX10_findsFree_25 rfl (fun v2 => ?_)
  refine im_cSP C 29 sk_X10_size gw_1113 (c_X10_size (x0 := v2) hU) (rle rfl) rfl (st := [.int v1]) rfl (Nat.le_of_ble_eq_true rfl) dX10_findsFree_26 rfl (fun o3 => ?_)
  refine im_iadd C 30 dX10_findsFree_29 rfl ?_
  refine im_istore_n C 31 [(3, .int (v1 + o3)), (2, .int v1), (0, .ref (ad 32 0)), (1, .int x1)] dX10_findsFree_30 rfl (by decide) rfl rfl ?_
  refine im_sub [2, 3, 1, 0] [(0, .ref (ad 32 0)), (1, .int x1), (2, .int v1), (3, .int (v1 + o3))] rfl ?_
  refine im_lpB (l_X10_findsFree_31 x1 v1 o3) (fun z31 => [(0, .ref (ad 32 0)), (1, .int x1), (2, .int z31.1), (3, .int (v1 + o3))]) (fun z31 => z31.2) 156 (fun e4 => []) (fun e4 => e4) (fun e4 => ?_) (fun z31 X_z31 hX_z31 hE_z31 => ?_) FU (v1, D)
  · exact im_vret C rfl dX10_findsFree_156
  · unfold l_X10_findsFree_31
    refine im_iload_n C 32 2 dX10_findsFree_31 rfl rfl rfl ?_
    refine im_iload_n C 33 3 dX10_findsFree_32 rfl rfl rfl ?_
    refine im_ic_ge C 156 36 dX10_findsFree_33 rfl rfl ?_ ?_
    · exact im_sub [] [] rfl (hE_z31 z31.2)
    · refine im_aload_n C 37 0 dX10_findsFree_36 rfl rfl rfl ?_
      refine gl_X10_7 C 40 (h0 32 (by decide) (by decide)) dX10_findsFree_37 rfl ?_
      refine im_bipush C 42 dX10_findsFree_40 rfl k_bp6 ?_
      refine im_iconst C 43 dX10_findsFree_42 rfl k_ic2 ?_
      refine im_iload_n C 44 1 dX10_findsFree_43 rfl rfl rfl ?_
      refine im_imul C 45 dX10_findsFree_44 rfl ?_
      refine im_iadd C 46 dX10_findsFree_45 rfl ?_
      refine im_iconst C 47 dX10_findsFree_46 rfl k_ic1 ?_
      refine im_iadd C 48 dX10_findsFree_47 rfl ?_
      refine im_rdi C 49 170 (h0 33 (by decide) (by decide)) rfl dX10_findsFree_48 rfl (fun v5 => ?_)
      refine im_istore C 51 [(4, .int v5), (0, .ref (ad 32 0)), (1, .int x1), (2, .int z31.1), (3, .int (v1 + o3))] dX10_findsFree_49 (by decide) rfl rfl ?_
      refine im_sub [1, 2, 3, 4, 0] [(0, .ref (ad 32 0)), (1, .int x1), (2, .int z31.1), (3, .int (v1 + o3)), (4, .int v5)] rfl ?_
      refine im_lpB (l_X10_findsFree_51 z31) (fun z51 => [(0, .ref (ad 32 0)), (1, .int x1), (2, .int z31.1), (3, .int (v1 + o3)), (4, .int z51)]) (fun z51 => z31.2) 84 (fun e6 => [(0, .ref (ad 32 0)), (1, .int x1), (2, .int z31.1), (3, .int (v1 + o3)), (4, .int e6)]) (fun e6 => z31.2) (fun e6 => ?_) (fun z51 X_z51 hX_z51 hE_z51 => ?_) FU v5
      · refine im_iload C 86 4 dX10_findsFree_84 rfl rfl ?_
        refine im_bipush C 88 dX10_findsFree_86 rfl k_bp17 ?_
        refine im_ic_ge C 147 91 dX10_findsFree_88 rfl rfl ?_ ?_
        · refine im_aload_n C 148 0 dX10_findsFree_147 rfl rfl rfl ?_
          refine im_iload_n C 149 2 dX10_findsFree_148 rfl rfl rfl ?_
          refine im_cVP C 152 vk_X10_behind gw_1149 (c_X10_behind (x1 := z31.1) hU h0) (h0 32 (by decide) (by decide)) rfl rfl (rle rfl) rfl (st := []) rfl (Nat.le_of_ble_eq_true rfl) dX10_findsFree_149 rfl (fun o9 => ?_)
          refine im_istore_n C 153 [(2, .int o9), (0, .ref (ad 32 0)), (1, .int x1), (3, .int (v1 + o3)), (4, .int e6)] dX10_findsFree_152 rfl (by decide) rfl rfl ?_
          refine im_goto C 31 dX10_findsFree_153 rfl ?_
          exact im_sub [1, 2, 0, 3] [(0, .ref (ad 32 0)), (1, .int x1), (2, .int o9), (3, .int (v1 + o3))] rfl (hX_z31 (o9, z31.2))
        · refine im_aload_n C 92 0 dX10_findsFree_91 rfl rfl rfl ?_
          refine gl_X10_23 C 95 (h0 32 (by decide) (by decide)) dX10_findsFree_92 rfl ?_
          refine im_aload_n C 96 0 dX10_findsFree_95 rfl rfl rfl ?_
          refine gl_X10_63 C 99 (h0 32 (by decide) (by decide)) dX10_findsFree_96 rfl ?_
          refine im_iload_n C 100 2 dX10_findsFree_99 rfl rfl rfl ?_
          refine im_wri C 101 800 (h0 37 (by decide) (by decide)) (fun _ => rfl) dX10_findsFree_100 rfl (fun D10 => ?_)
          refine im_aload_n C 102 0 dX10_findsFree_101 rfl rfl rfl ?_
          refine gl_X10_26 C 105 (h0 32 (by decide) (by decide)) dX10_findsFree_102 rfl ?_
          refine im_aload_n C 106 0 dX10_findsFree_105 rfl rfl rfl ?_
          refine gl_X10_63 C 109 (h0 32 (by decide) (by decide)) dX10_findsFree_106 rfl ?_
          refine im_iload C 111 4 dX10_findsFree_109 rfl rfl ?_
          refine im_wri C 112 800 (h0 38 (by decide) (by decide)) (fun _ => rfl) dX10_findsFree_111 rfl (fun D11 => ?_)
          refine im_aload_n C 113 0 dX10_findsFree_112 rfl rfl rfl ?_
          refine im_dup C 114 dX10_findsFree_113 rfl rfl ?_
          refine gl_X10_63 C 117 (h0 32 (by decide) (by decide)) dX10_findsFree_114 rfl ?_
          refine im_iconst C 118 dX10_findsFree_117 rfl k_ic1 ?_
          refine im_iadd C 119 dX10_findsFree_118 rfl ?_
          refine pl_X10_63 C 122 (h0 32 (by decide) (by decide)) dX10_findsFree_119 rfl (fun D12 => ?_)
          refine im_aload_n C 123 0 dX10_findsFree_122 rfl rfl rfl ?_
          refine im_dup C 124 dX10_findsFree_123 rfl rfl ?_
          refine gl_X10_66 C 127 (h0 32 (by decide) (by decide)) dX10_findsFree_124 rfl ?_
          refine im_iload C 129 4 dX10_findsFree_127 rfl rfl ?_
          refine im_cSP C 132 sk_X10_size gw_1113 (c_X10_size (x0 := e6) hU) (rle rfl) rfl (st := [.int (D12 32 0 9), .ref (ad 32 0)]) rfl (Nat.le_of_ble_eq_true rfl) dX10_findsFree_129 rfl (fun o13 => ?_)
          refine im_iadd C 133 dX10_findsFree_132 rfl ?_
          refine pl_X10_66 C 136 (h0 32 (by decide) (by decide)) dX10_findsFree_133 rfl (fun D14 => ?_)
          refine im_iload_n C 137 2 dX10_findsFree_136 rfl rfl rfl ?_
          refine im_iload C 139 4 dX10_findsFree_137 rfl rfl ?_
          refine im_cSP C 142 sk_X10_size gw_1113 (c_X10_size (x0 := e6) hU) (rle rfl) rfl (st := [.int z31.1]) rfl (Nat.le_of_ble_eq_true rfl) dX10_findsFree_139 rfl (fun o15 => ?_)
          refine im_iadd C 143 dX10_findsFree_142 rfl ?_
          refine im_istore_n C 144 [(2, .int (z31.1 + o15)), (0, .ref (ad 32 0)), (1, .int x1), (3, .int (v1 + o3)), (4, .int e6)] dX10_findsFree_143 rfl (by decide) rfl rfl ?_
          refine im_goto C 153 dX10_findsFree_144 rfl ?_
          refine im_goto C 31 dX10_findsFree_153 rfl ?_
          exact im_sub [1, 2, 0, 3] [(0, .ref (ad 32 0)), (1, .int x1), (2, .int (z31.1 + o15)), (3, .int (v1 + o3))] rfl (hX_z31 (z31.1 + o15, D14))
      · unfold l_X10_findsFree_51
        refine im_iload C 53 4 dX10_findsFree_51 rfl rfl ?_
        refine im_bipush C 55 dX10_findsFree_53 rfl k_bp17 ?_
        refine im_ic_ge C 84 58 dX10_findsFree_55 rfl rfl ?_ ?_
        · exact hE_z51 z51
        · refine im_iload_n C 59 2 dX10_findsFree_58 rfl rfl rfl ?_
          refine im_iload C 61 4 dX10_findsFree_59 rfl rfl ?_
          refine im_cSP C 64 sk_X10_size gw_1113 (c_X10_size (x0 := z51) hU) (rle rfl) rfl (st := [.int z31.1]) rfl (Nat.le_of_ble_eq_true rfl) dX10_findsFree_61 rfl (fun o7 => ?_)
          refine im_irem C 65 dX10_findsFree_64 rfl ?_
          refine im_if_ne C 78 68 dX10_findsFree_65 rfl rfl ?_ ?_
          · refine im_iinc C 81 4 [(4, .int (z51 + (1 : Int32))), (0, .ref (ad 32 0)), (1, .int x1), (2, .int z31.1), (3, .int (v1 + o3))] dX10_findsFree_78 rfl (k_inc1) (by decide) rfl rfl ?_
            refine im_goto C 51 dX10_findsFree_81 rfl ?_
            exact im_sub [1, 2, 3, 4, 0] [(0, .ref (ad 32 0)), (1, .int x1), (2, .int z31.1), (3, .int (v1 + o3)), (4, .int (z51 + (1 : Int32)))] rfl (hX_z51 (z51 + (1 : Int32)))
          · refine im_aload_n C 69 0 dX10_findsFree_68 rfl rfl rfl ?_
            refine im_iload_n C 70 2 dX10_findsFree_69 rfl rfl rfl ?_
            refine im_iload C 72 4 dX10_findsFree_70 rfl rfl ?_
            refine im_cVP C 75 vk_X10_assignedIn gw_1137 (c_X10_assignedIn (x1 := z31.1) (x2 := z51) hU h0) (h0 32 (by decide) (by decide)) rfl rfl (rle rfl) rfl (st := []) rfl (Nat.le_of_ble_eq_true rfl) dX10_findsFree_72 rfl (fun o8 => ?_)
            refine im_if_le C 84 78 dX10_findsFree_75 rfl rfl ?_ ?_
            · exact hE_z51 z51
            · refine im_iinc C 81 4 [(4, .int (z51 + (1 : Int32))), (0, .ref (ad 32 0)), (1, .int x1), (2, .int z31.1), (3, .int (v1 + o3))] dX10_findsFree_78 rfl (k_inc1) (by decide) rfl rfl ?_
              refine im_goto C 51 dX10_findsFree_81 rfl ?_
              exact im_sub [1, 2, 3, 4, 0] [(0, .ref (ad 32 0)), (1, .int x1), (2, .int z31.1), (3, .int (v1 + o3)), (4, .int (z51 + (1 : Int32)))] rfl (hX_z51 (z51 + (1 : Int32)))
set_option maxRecDepth 100000 in
set_option maxHeartbeats 4000000 in
theorem c_X10_findsAllFree {l : Launch} {G : va_G} {ad : Nat → Nat → Nat} {U : List (Nat × Nat)} {D : Dt} (hU : Uinj ad U) (h0 : MoU U) : MV l G ad U yX10_findsAllFree cX10_findsAllFree 2 (k2_rm 4 92) [.ref (ad 32 0)] D (f_X10_findsAllFree D) := by
  refine mV_of0 (lv := [(0, .ref (ad 32 0))]) (by decide) hU rfl (Nat.le_of_ble_eq_true rfl) (fun A p e s m args below meth c C => ?_)
  have C : Cx G ad U A p s m meth c args cX10_findsAllFree RX10 2 none := C
  unfold f_X10_findsAllFree
  refine im_aload_n C 1 0 dX10_findsAllFree_0 rfl rfl rfl ?_
  refine im_iconst C 2 dX10_findsAllFree_1 rfl k_ic0 ?_
  refine pl_X10_63 C 5 (h0 32 (by decide) (by decide)) dX10_findsAllFree_2 rfl (fun D1 => ?_)
  refine im_aload_n C 6 0 dX10_findsAllFree_5 rfl rfl rfl ?_
  refine im_iconst C 7 dX10_findsAllFree_6 rfl k_ic0 ?_
  refine pl_X10_66 C 10 (h0 32 (by decide) (by decide)) dX10_findsAllFree_7 rfl (fun D2 => ?_)
  refine im_iconst C 11 dX10_findsAllFree_10 rfl k_ic0 ?_
  refine im_istore_n C 12 [(1, .int (0 : Int32)), (0, .ref (ad 32 0))] dX10_findsAllFree_11 rfl (by decide) rfl rfl ?_
  refine im_sub [1, 0] [(0, .ref (ad 32 0)), (1, .int (0 : Int32))] rfl ?_
  refine im_lpB l_X10_findsAllFree_12 (fun z12 => [(0, .ref (ad 32 0)), (1, .int z12.1)]) (fun z12 => z12.2) 33 (fun e3 => []) (fun e3 => e3) (fun e3 => ?_) (fun z12 X_z12 hX_z12 hE_z12 => ?_) FU ((0 : Int32), D2)
  · exact im_vret C rfl dX10_findsAllFree_33
  · unfold l_X10_findsAllFree_12
    refine im_iload_n C 13 1 dX10_findsAllFree_12 rfl rfl rfl ?_
    refine im_aload_n C 14 0 dX10_findsAllFree_13 rfl rfl rfl ?_
    refine gl_X10_7 C 17 (h0 32 (by decide) (by decide)) dX10_findsAllFree_14 rfl ?_
    refine im_iconst C 18 dX10_findsAllFree_17 rfl k_ic5 ?_
    refine im_rdi C 19 170 (h0 33 (by decide) (by decide)) rfl dX10_findsAllFree_18 rfl (fun v4 => ?_)
    refine im_ic_ge C 33 22 dX10_findsAllFree_19 rfl rfl ?_ ?_
    · exact im_sub [] [] rfl (hE_z12 z12.2)
    · refine im_aload_n C 23 0 dX10_findsAllFree_22 rfl rfl rfl ?_
      refine im_iload_n C 24 1 dX10_findsAllFree_23 rfl rfl rfl ?_
      refine im_cVV C 27 vk_X10_findsFree gw_1133 (c_X10_findsFree (x1 := z12.1) hU h0) (h0 32 (by decide) (by decide)) rfl rfl (rle rfl) rfl (st := []) rfl (Nat.le_of_ble_eq_true rfl) dX10_findsAllFree_24 rfl (fun D5 => ?_)
      refine im_iinc C 30 1 [(1, .int (z12.1 + (1 : Int32))), (0, .ref (ad 32 0))] dX10_findsAllFree_27 rfl (k_inc1) (by decide) rfl rfl ?_
      refine im_goto C 12 dX10_findsAllFree_30 rfl ?_
      exact im_sub [1, 0] [(0, .ref (ad 32 0)), (1, .int (z12.1 + (1 : Int32)))] rfl (hX_z12 (z12.1 + (1 : Int32), D5))
set_option maxRecDepth 100000 in
set_option maxHeartbeats 4000000 in
theorem c_X10_isBetter {l : Launch} {G : va_G} {ad : Nat → Nat → Nat} {U : List (Nat × Nat)} {D : Dt} {x1 : Int32} {x2 : Int32} (hU : Uinj ad U) (h0 : MoU U) : MI l G ad U yX10_isBetter cX10_isBetter 5 .boolean (k2_rm 0 0) [.ref (ad 32 0), .int x1, .int x2] D ((f_X10_isBetter x1 x2 D).bind (fun r => some (r, D))) := by
  refine mI_of (lv := [(0, .ref (ad 32 0)), (1, .int x1), (2, .int x2)]) (by decide) hU rfl (Nat.le_of_ble_eq_true rfl) (fun A p e s m args below meth c C => ?_)
  have C : Cx G ad U A p s m meth c args cX10_isBetter RX10 5 (some .boolean) := C
  unfold f_X10_isBetter
  refine im_aload_n C 1 0 dX10_isBetter_0 rfl rfl rfl ?_
  refine gl_X10_26 C 4 (h0 32 (by decide) (by decide)) dX10_isBetter_1 rfl ?_
  refine im_iload_n C 5 1 dX10_isBetter_4 rfl rfl rfl ?_
  refine im_rdi C 6 800 (h0 38 (by decide) (by decide)) rfl dX10_isBetter_5 rfl (fun v1 => ?_)
  refine im_aload_n C 7 0 dX10_isBetter_6 rfl rfl rfl ?_
  refine gl_X10_26 C 10 (h0 32 (by decide) (by decide)) dX10_isBetter_7 rfl ?_
  refine im_iload_n C 11 2 dX10_isBetter_10 rfl rfl rfl ?_
  refine im_rdi C 12 800 (h0 38 (by decide) (by decide)) rfl dX10_isBetter_11 rfl (fun v2 => ?_)
  refine im_isub C 13 dX10_isBetter_12 rfl ?_
  refine im_istore_n C 14 [(3, .int (v1 - v2)), (0, .ref (ad 32 0)), (1, .int x1), (2, .int x2)] dX10_isBetter_13 rfl (by decide) rfl rfl ?_
  refine im_aload_n C 15 1 dX10_isBetter_14 rfl rfl rfl ?_
  refine gl_X10_23 C 18 (h0 32 (by decide) (by decide)) dX10_isBetter_15 rfl ?_
  refine im_iload_n C 19 2 dX10_isBetter_18 rfl rfl rfl ?_
  refine im_rdi C 20 800 (h0 37 (by decide) (by decide)) rfl dX10_isBetter_19 rfl (fun v3 => ?_)
  refine im_aload_n C 21 1 dX10_isBetter_20 rfl rfl rfl ?_
  refine gl_X10_23 C 24 (h0 32 (by decide) (by decide)) dX10_isBetter_21 rfl ?_
  refine im_iload_n C 25 3 dX10_isBetter_24 rfl rfl rfl ?_
  refine im_rdi C 26 800 (h0 37 (by decide) (by decide)) rfl dX10_isBetter_25 rfl (fun v4 => ?_)
  refine im_isub C 27 dX10_isBetter_26 rfl ?_
  refine im_istore C 29 [(4, .int (v3 - v4)), (3, .int (v1 - v2)), (0, .ref (ad 32 0)), (1, .int x1), (2, .int x2)] dX10_isBetter_27 (by decide) rfl rfl ?_
  refine im_aload_n C 30 2 dX10_isBetter_29 rfl rfl rfl ?_
  refine gl_X10_7 C 33 (h0 32 (by decide) (by decide)) dX10_isBetter_30 rfl ?_
  refine im_iconst C 34 dX10_isBetter_33 rfl k_ic3 ?_
  refine im_rdi C 35 170 (h0 33 (by decide) (by decide)) rfl dX10_isBetter_34 rfl (fun v5 => ?_)
  refine im_ite (fun s35_0 => ?_) (fun s35_0 => ?_)
  · refine im_tabIn C 60 (y := (0 : Int32)) s35_0 dX10_isBetter_35 (by decide) (by decide) rfl rfl ?_
    refine im_iload C 62 0 dX10_isBetter_60 rfl rfl ?_
    refine im_if_ge C 69 65 dX10_isBetter_62 rfl rfl ?_ ?_
    · refine im_iconst C 70 dX10_isBetter_69 rfl k_ic0 ?_
      exact im_iret C rfl rfl dX10_isBetter_70
    · refine im_iconst C 66 dX10_isBetter_65 rfl k_ic1 ?_
      refine im_goto C 70 dX10_isBetter_66 rfl ?_
      exact im_iret C rfl rfl dX10_isBetter_70
  · refine im_ite (fun s35_1 => ?_) (fun s35_1 => ?_)
    · refine im_tabIn C 71 (y := (1 : Int32)) s35_1 dX10_isBetter_35 (by decide) (by decide) rfl rfl ?_
      refine im_iload_n C 72 1 dX10_isBetter_71 rfl rfl rfl ?_
      refine im_if_gt C 84 75 dX10_isBetter_72 rfl rfl ?_ ?_
      · refine im_iconst C 85 dX10_isBetter_84 rfl k_ic1 ?_
        refine im_goto C 89 dX10_isBetter_85 rfl ?_
        exact im_iret C rfl rfl dX10_isBetter_89
      · refine im_iload_n C 76 1 dX10_isBetter_75 rfl rfl rfl ?_
        refine im_if_ne C 88 79 dX10_isBetter_76 rfl rfl ?_ ?_
        · refine im_iconst C 89 dX10_isBetter_88 rfl k_ic0 ?_
          exact im_iret C rfl rfl dX10_isBetter_89
        · refine im_iload C 81 0 dX10_isBetter_79 rfl rfl ?_
          refine im_if_ge C 88 84 dX10_isBetter_81 rfl rfl ?_ ?_
          · refine im_iconst C 89 dX10_isBetter_88 rfl k_ic0 ?_
            exact im_iret C rfl rfl dX10_isBetter_89
          · refine im_iconst C 85 dX10_isBetter_84 rfl k_ic1 ?_
            refine im_goto C 89 dX10_isBetter_85 rfl ?_
            exact im_iret C rfl rfl dX10_isBetter_89
    · refine im_ite (fun s35_2 => ?_) (fun s35_2 => ?_)
      · refine im_tabIn C 90 (y := (2 : Int32)) s35_2 dX10_isBetter_35 (by decide) (by decide) rfl rfl ?_
        refine im_iload_n C 91 1 dX10_isBetter_90 rfl rfl rfl ?_
        refine im_if_lt C 103 94 dX10_isBetter_91 rfl rfl ?_ ?_
        · refine im_iconst C 104 dX10_isBetter_103 rfl k_ic1 ?_
          refine im_goto C 108 dX10_isBetter_104 rfl ?_
          exact im_iret C rfl rfl dX10_isBetter_108
        · refine im_iload_n C 95 1 dX10_isBetter_94 rfl rfl rfl ?_
          refine im_if_ne C 107 98 dX10_isBetter_95 rfl rfl ?_ ?_
          · refine im_iconst C 108 dX10_isBetter_107 rfl k_ic0 ?_
            exact im_iret C rfl rfl dX10_isBetter_108
          · refine im_iload C 100 0 dX10_isBetter_98 rfl rfl ?_
            refine im_if_ge C 107 103 dX10_isBetter_100 rfl rfl ?_ ?_
            · refine im_iconst C 108 dX10_isBetter_107 rfl k_ic0 ?_
              exact im_iret C rfl rfl dX10_isBetter_108
            · refine im_iconst C 104 dX10_isBetter_103 rfl k_ic1 ?_
              refine im_goto C 108 dX10_isBetter_104 rfl ?_
              exact im_iret C rfl rfl dX10_isBetter_108
      · refine im_tabOut C 109 dX10_isBetter_35 (by have a0 := nz s35_0 (n := 0) (by decide); have a1 := nz s35_1 (n := 1) (by decide); have a2 := nz s35_2 (n := 2) (by decide); omega) rfl ?_
        refine im_iload_n C 110 1 dX10_isBetter_109 rfl rfl rfl ?_
        refine im_if_gt C 122 113 dX10_isBetter_110 rfl rfl ?_ ?_
        · refine im_iconst C 123 dX10_isBetter_122 rfl k_ic1 ?_
          refine im_goto C 127 dX10_isBetter_123 rfl ?_
          exact im_iret C rfl rfl dX10_isBetter_127
        · refine im_iload_n C 114 1 dX10_isBetter_113 rfl rfl rfl ?_
          refine im_if_ne C 126 117 dX10_isBetter_114 rfl rfl ?_ ?_
          · refine im_iconst C 127 dX10_isBetter_126 rfl k_ic0 ?_
            exact im_iret C rfl rfl dX10_isBetter_127
          · refine im_iload C 119 0 dX10_isBetter_117 rfl rfl ?_
            refine im_if_le C 126 122 dX10_isBetter_119 rfl rfl ?_ ?_
            · refine im_iconst C 127 dX10_isBetter_126 rfl k_ic0 ?_
              exact im_iret C rfl rfl dX10_isBetter_127
            · refine im_iconst C 123 dX10_isBetter_122 rfl k_ic1 ?_
              refine im_goto C 127 dX10_isBetter_123 rfl ?_
              exact im_iret C rfl rfl dX10_isBetter_127
set_option maxRecDepth 100000 in
set_option maxHeartbeats 4000000 in
theorem c_X10_places {l : Launch} {G : va_G} {ad : Nat → Nat → Nat} {U : List (Nat × Nat)} {D : Dt} {x1 : Int32} (hU : Uinj ad U) (h0 : MoU U) : MI l G ad U yX10_places cX10_places 4 .int (k2_rm 5 113) [.ref (ad 32 0), .int x1] D (f_X10_places x1 D) := by
  refine mI_of0 (lv := [(0, .ref (ad 32 0)), (1, .int x1)]) (by decide) hU rfl (Nat.le_of_ble_eq_true rfl) (fun A p e s m args below meth c C => ?_)
  have C : Cx G ad U A p s m meth c args cX10_places RX10 4 (some .int) := C
  unfold f_X10_places
  refine im_aload_n C 1 0 dX10_places_0 rfl rfl rfl ?_
  refine im_cVV C 4 vk_X10_findsAllFree gw_1129 (c_X10_findsAllFree  hU h0) (h0 32 (by decide) (by decide)) rfl rfl (rle rfl) rfl (st := []) rfl (Nat.le_of_ble_eq_true rfl) dX10_places_1 rfl (fun D1 => ?_)
  refine im_iconst C 5 dX10_places_4 rfl k_icm1 ?_
  refine im_istore_n C 6 [(2, .int (-1 : Int32)), (0, .ref (ad 32 0)), (1, .int x1)] dX10_places_5 rfl (by decide) rfl rfl ?_
  refine im_iconst C 7 dX10_places_6 rfl k_ic0 ?_
  refine im_istore_n C 8 [(3, .int (0 : Int32)), (2, .int (-1 : Int32)), (0, .ref (ad 32 0)), (1, .int x1)] dX10_places_7 rfl (by decide) rfl rfl ?_
  refine im_sub [2, 3, 1, 0] [(0, .ref (ad 32 0)), (1, .int x1), (2, .int (-1 : Int32)), (3, .int (0 : Int32))] rfl ?_
  refine im_lpB (l_X10_places_8 x1 D1) (fun z8 => [(0, .ref (ad 32 0)), (1, .int x1), (2, .int z8.1), (3, .int z8.2)]) (fun z8 => D1) 51 (fun e2 => [(0, .ref (ad 32 0)), (1, .int x1), (2, .int e2)]) (fun e2 => D1) (fun e2 => ?_) (fun z8 X_z8 hX_z8 hE_z8 => ?_) FU ((-1 : Int32), (0 : Int32))
  · refine im_iload_n C 52 2 dX10_places_51 rfl rfl rfl ?_
    refine im_if_ge C 57 55 dX10_places_52 rfl rfl ?_ ?_
    · refine im_aload_n C 58 0 dX10_places_57 rfl rfl rfl ?_
      refine gl_X10_23 C 61 (h0 32 (by decide) (by decide)) dX10_places_58 rfl ?_
      refine im_iload_n C 62 2 dX10_places_61 rfl rfl rfl ?_
      refine im_rdi C 63 800 (h0 37 (by decide) (by decide)) rfl dX10_places_62 rfl (fun v5 => ?_)
      refine im_aload_n C 64 0 dX10_places_63 rfl rfl rfl ?_
      refine gl_X10_7 C 67 (h0 32 (by decide) (by decide)) dX10_places_64 rfl ?_
      refine im_iconst C 68 dX10_places_67 rfl k_ic3 ?_
      refine im_rdi C 69 170 (h0 33 (by decide) (by decide)) rfl dX10_places_68 rfl (fun v6 => ?_)
      refine im_iconst C 70 dX10_places_69 rfl k_ic3 ?_
      refine im_ic_ne C 90 73 dX10_places_70 rfl rfl ?_ ?_
      · refine im_iconst C 91 dX10_places_90 rfl k_ic0 ?_
        refine im_iadd C 92 dX10_places_91 rfl ?_
        exact im_iret C rfl rfl dX10_places_92
      · refine im_aload_n C 74 0 dX10_places_73 rfl rfl rfl ?_
        refine gl_X10_26 C 77 (h0 32 (by decide) (by decide)) dX10_places_74 rfl ?_
        refine im_iload_n C 78 2 dX10_places_77 rfl rfl rfl ?_
        refine im_rdi C 79 800 (h0 38 (by decide) (by decide)) rfl dX10_places_78 rfl (fun v7 => ?_)
        refine im_cSP C 82 sk_X10_size gw_1113 (c_X10_size (x0 := v7) hU) (rle rfl) rfl (st := [.int v5]) rfl (Nat.le_of_ble_eq_true rfl) dX10_places_79 rfl (fun o8 => ?_)
        refine im_iload_n C 83 1 dX10_places_82 rfl rfl rfl ?_
        refine im_cSP C 86 sk_X10_size gw_1113 (c_X10_size (x0 := x1) hU) (rle rfl) rfl (st := [.int o8, .int v5]) rfl (Nat.le_of_ble_eq_true rfl) dX10_places_83 rfl (fun o9 => ?_)
        refine im_isub C 87 dX10_places_86 rfl ?_
        refine im_goto C 91 dX10_places_87 rfl ?_
        refine im_iadd C 92 dX10_places_91 rfl ?_
        exact im_iret C rfl rfl dX10_places_92
    · refine im_iconst C 56 dX10_places_55 rfl k_icm1 ?_
      exact im_iret C rfl rfl dX10_places_56
  · unfold l_X10_places_8
    refine im_iload_n C 9 3 dX10_places_8 rfl rfl rfl ?_
    refine im_aload_n C 10 0 dX10_places_9 rfl rfl rfl ?_
    refine gl_X10_63 C 13 (h0 32 (by decide) (by decide)) dX10_places_10 rfl ?_
    refine im_ic_ge C 51 16 dX10_places_13 rfl rfl ?_ ?_
    · exact im_sub [0, 1, 2] [(0, .ref (ad 32 0)), (1, .int x1), (2, .int z8.1)] rfl (hE_z8 z8.1)
    · refine im_aload_n C 17 0 dX10_places_16 rfl rfl rfl ?_
      refine gl_X10_26 C 20 (h0 32 (by decide) (by decide)) dX10_places_17 rfl ?_
      refine im_iload_n C 21 3 dX10_places_20 rfl rfl rfl ?_
      refine im_rdi C 22 800 (h0 38 (by decide) (by decide)) rfl dX10_places_21 rfl (fun v3 => ?_)
      refine im_iload_n C 23 1 dX10_places_22 rfl rfl rfl ?_
      refine im_ic_gt C 43 26 dX10_places_23 rfl rfl ?_ ?_
      · refine im_iload_n C 44 2 dX10_places_43 rfl rfl rfl ?_
        refine im_istore_n C 45 [(2, .int z8.1), (0, .ref (ad 32 0)), (1, .int x1), (3, .int z8.2)] dX10_places_44 rfl (by decide) rfl rfl ?_
        refine im_iinc C 48 3 [(3, .int (z8.2 + (1 : Int32))), (2, .int z8.1), (0, .ref (ad 32 0)), (1, .int x1)] dX10_places_45 rfl (k_inc1) (by decide) rfl rfl ?_
        refine im_goto C 8 dX10_places_48 rfl ?_
        exact im_sub [2, 3, 1, 0] [(0, .ref (ad 32 0)), (1, .int x1), (2, .int z8.1), (3, .int (z8.2 + (1 : Int32)))] rfl (hX_z8 (z8.1, z8.2 + (1 : Int32)))
      · refine im_iload_n C 27 2 dX10_places_26 rfl rfl rfl ?_
        refine im_if_lt C 39 30 dX10_places_27 rfl rfl ?_ ?_
        · refine im_iload_n C 40 3 dX10_places_39 rfl rfl rfl ?_
          refine im_goto C 44 dX10_places_40 rfl ?_
          refine im_istore_n C 45 [(2, .int z8.2), (0, .ref (ad 32 0)), (1, .int x1), (3, .int z8.2)] dX10_places_44 rfl (by decide) rfl rfl ?_
          refine im_iinc C 48 3 [(3, .int (z8.2 + (1 : Int32))), (2, .int z8.2), (0, .ref (ad 32 0)), (1, .int x1)] dX10_places_45 rfl (k_inc1) (by decide) rfl rfl ?_
          refine im_goto C 8 dX10_places_48 rfl ?_
          exact im_sub [2, 3, 1, 0] [(0, .ref (ad 32 0)), (1, .int x1), (2, .int z8.2), (3, .int (z8.2 + (1 : Int32)))] rfl (hX_z8 (z8.2, z8.2 + (1 : Int32)))
        · refine im_aload_n C 31 0 dX10_places_30 rfl rfl rfl ?_
          refine im_iload_n C 32 3 dX10_places_31 rfl rfl rfl ?_
          refine im_iload_n C 33 2 dX10_places_32 rfl rfl rfl ?_
          refine im_cVP C 36 vk_X10_isBetter gw_1153 (c_X10_isBetter (x1 := z8.2) (x2 := z8.1) hU h0) (h0 32 (by decide) (by decide)) rfl rfl (rle rfl) rfl (st := []) rfl (Nat.le_of_ble_eq_true rfl) dX10_places_33 rfl (fun o4 => ?_)
          refine im_if_eq C 43 39 dX10_places_36 rfl rfl ?_ ?_
          · refine im_iload_n C 44 2 dX10_places_43 rfl rfl rfl ?_
            refine im_istore_n C 45 [(2, .int z8.1), (0, .ref (ad 32 0)), (1, .int x1), (3, .int z8.2)] dX10_places_44 rfl (by decide) rfl rfl ?_
            refine im_iinc C 48 3 [(3, .int (z8.2 + (1 : Int32))), (2, .int z8.1), (0, .ref (ad 32 0)), (1, .int x1)] dX10_places_45 rfl (k_inc1) (by decide) rfl rfl ?_
            refine im_goto C 8 dX10_places_48 rfl ?_
            exact im_sub [2, 3, 1, 0] [(0, .ref (ad 32 0)), (1, .int x1), (2, .int z8.1), (3, .int (z8.2 + (1 : Int32)))] rfl (hX_z8 (z8.1, z8.2 + (1 : Int32)))
          · refine im_iload_n C 40 3 dX10_places_39 rfl rfl rfl ?_
            refine im_goto C 44 dX10_places_40 rfl ?_
            refine im_istore_n C 45 [(2, .int z8.2), (0, .ref (ad 32 0)), (1, .int x1), (3, .int z8.2)] dX10_places_44 rfl (by decide) rfl rfl ?_
            refine im_iinc C 48 3 [(3, .int (z8.2 + (1 : Int32))), (2, .int z8.2), (0, .ref (ad 32 0)), (1, .int x1)] dX10_places_45 rfl (k_inc1) (by decide) rfl rfl ?_
            refine im_goto C 8 dX10_places_48 rfl ?_
            exact im_sub [2, 3, 1, 0] [(0, .ref (ad 32 0)), (1, .int x1), (2, .int z8.2), (3, .int (z8.2 + (1 : Int32)))] rfl (hX_z8 (z8.2, z8.2 + (1 : Int32)))
set_option maxRecDepth 100000 in
set_option maxHeartbeats 4000000 in
theorem c_X10_isPool {l : Launch} {G : va_G} {ad : Nat → Nat → Nat} {U : List (Nat × Nat)} {D : Dt} {x1 : Int32} (hU : Uinj ad U) (h0 : MoU U) : MI l G ad U yX10_isPool cX10_isPool 2 .boolean (k2_rm 1 22) [.ref (ad 32 0), .int x1] D ((f_X10_isPool x1 D).bind (fun r => some (r, D))) := by
  refine mI_of (lv := [(0, .ref (ad 32 0)), (1, .int x1)]) (by decide) hU rfl (Nat.le_of_ble_eq_true rfl) (fun A p e s m args below meth c C => ?_)
  have C : Cx G ad U A p s m meth c args cX10_isPool RX10 2 (some .boolean) := C
  unfold f_X10_isPool
  refine im_iload_n C 1 1 dX10_isPool_0 rfl rfl rfl ?_
  refine im_iconst C 2 dX10_isPool_1 rfl k_ic0 ?_
  refine im_aload_n C 3 0 dX10_isPool_2 rfl rfl rfl ?_
  refine gl_X10_7 C 6 (h0 32 (by decide) (by decide)) dX10_isPool_3 rfl ?_
  refine im_iconst C 7 dX10_isPool_6 rfl k_ic5 ?_
  refine im_rdi C 8 170 (h0 33 (by decide) (by decide)) rfl dX10_isPool_7 rfl (fun v1 => ?_)
  refine im_iconst C 9 dX10_isPool_8 rfl k_ic1 ?_
  refine im_isub C 10 dX10_isPool_9 rfl ?_
  refine im_cSP C 13 sk_X10_in gw_1066 (c_X10_in (x0 := x1) (x1 := (0 : Int32)) (x2 := v1 - (1 : Int32)) hU) (rle rfl) rfl (st := []) rfl (Nat.le_of_ble_eq_true rfl) dX10_isPool_10 rfl (fun o2 => ?_)
  refine im_gd (fun hg => ?_)
  exact im_iret C rfl (isb_n hg) dX10_isPool_13
set_option maxRecDepth 100000 in
set_option maxHeartbeats 4000000 in
theorem c_X10_appendCharacter {l : Launch} {G : va_G} {ad : Nat → Nat → Nat} {U : List (Nat × Nat)} {D : Dt} {x1 : Int32} (hU : Uinj ad U) (h0 : MoU U) : MI l G ad U yX10_appendCharacter cX10_appendCharacter 2 .int (k2_rm 1 22) [.ref (ad 32 0), .int x1] D (f_X10_appendCharacter x1 D) := by
  refine mI_of0 (lv := [(0, .ref (ad 32 0)), (1, .int x1)]) (by decide) hU rfl (Nat.le_of_ble_eq_true rfl) (fun A p e s m args below meth c C => ?_)
  have C : Cx G ad U A p s m meth c args cX10_appendCharacter RX10 2 (some .int) := C
  unfold f_X10_appendCharacter
  refine im_iload_n C 1 1 dX10_appendCharacter_0 rfl rfl rfl ?_
  refine im_iconst C 2 dX10_appendCharacter_1 rfl k_ic0 ?_
  refine im_sipush C 5 dX10_appendCharacter_2 rfl k_sp255 ?_
  refine im_cSP C 8 sk_X10_in gw_1066 (c_X10_in (x0 := x1) (x1 := (0 : Int32)) (x2 := (255 : Int32)) hU) (rle rfl) rfl (st := []) rfl (Nat.le_of_ble_eq_true rfl) dX10_appendCharacter_5 rfl (fun o1 => ?_)
  refine im_if_ne C 13 11 dX10_appendCharacter_8 rfl rfl ?_ ?_
  · refine im_aload_n C 14 0 dX10_appendCharacter_13 rfl rfl rfl ?_
    refine gl_X10_86 C 17 (h0 32 (by decide) (by decide)) dX10_appendCharacter_14 rfl ?_
    refine im_sipush C 20 dX10_appendCharacter_17 rfl k_sp150 ?_
    refine im_ic_ne C 26 23 dX10_appendCharacter_20 rfl rfl ?_ ?_
    · refine im_aload_n C 27 0 dX10_appendCharacter_26 rfl rfl rfl ?_
      refine gl_X10_16 C 30 (h0 32 (by decide) (by decide)) dX10_appendCharacter_27 rfl ?_
      refine im_aload_n C 31 0 dX10_appendCharacter_30 rfl rfl rfl ?_
      refine gl_X10_86 C 34 (h0 32 (by decide) (by decide)) dX10_appendCharacter_31 rfl ?_
      refine im_iload_n C 35 1 dX10_appendCharacter_34 rfl rfl rfl ?_
      refine im_i2b C 36 dX10_appendCharacter_35 rfl rfl ?_
      refine im_wrb C 37 150 (h0 35 (by decide) (by decide)) (fun _ => rfl) dX10_appendCharacter_36 rfl (fun D2 => ?_)
      refine im_aload_n C 38 0 dX10_appendCharacter_37 rfl rfl rfl ?_
      refine im_dup C 39 dX10_appendCharacter_38 rfl rfl ?_
      refine gl_X10_86 C 42 (h0 32 (by decide) (by decide)) dX10_appendCharacter_39 rfl ?_
      refine im_iconst C 43 dX10_appendCharacter_42 rfl k_ic1 ?_
      refine im_iadd C 44 dX10_appendCharacter_43 rfl ?_
      refine pl_X10_86 C 47 (h0 32 (by decide) (by decide)) dX10_appendCharacter_44 rfl (fun D3 => ?_)
      refine im_aload_n C 48 0 dX10_appendCharacter_47 rfl rfl rfl ?_
      refine gl_X10_86 C 51 (h0 32 (by decide) (by decide)) dX10_appendCharacter_48 rfl ?_
      exact im_iret C rfl rfl dX10_appendCharacter_51
    · refine im_bipush C 25 dX10_appendCharacter_23 rfl k_bpm3 ?_
      exact im_iret C rfl rfl dX10_appendCharacter_25
  · refine im_iconst C 12 dX10_appendCharacter_11 rfl k_icm1 ?_
    exact im_iret C rfl rfl dX10_appendCharacter_12
set_option maxRecDepth 100000 in
set_option maxHeartbeats 4000000 in
theorem c_X10_clearText {l : Launch} {G : va_G} {ad : Nat → Nat → Nat} {U : List (Nat × Nat)} {D : Dt} (hU : Uinj ad U) (h0 : MoU U) : MI l G ad U yX10_clearText cX10_clearText 2 .int (k2_rm 0 0) [.ref (ad 32 0)] D (f_X10_clearText D) := by
  refine mI_of0 (lv := [(0, .ref (ad 32 0))]) (by decide) hU rfl (Nat.le_of_ble_eq_true rfl) (fun A p e s m args below meth c C => ?_)
  have C : Cx G ad U A p s m meth c args cX10_clearText RX10 2 (some .int) := C
  unfold f_X10_clearText
  refine im_aload_n C 1 0 dX10_clearText_0 rfl rfl rfl ?_
  refine gl_X10_86 C 4 (h0 32 (by decide) (by decide)) dX10_clearText_1 rfl ?_
  refine im_istore_n C 5 [(1, .int (D 32 0 4)), (0, .ref (ad 32 0))] dX10_clearText_4 rfl (by decide) rfl rfl ?_
  refine im_aload_n C 6 1 dX10_clearText_5 rfl rfl rfl ?_
  refine im_iconst C 7 dX10_clearText_6 rfl k_ic0 ?_
  refine pl_X10_86 C 10 (h0 32 (by decide) (by decide)) dX10_clearText_7 rfl (fun D1 => ?_)
  refine im_iload_n C 11 0 dX10_clearText_10 rfl rfl rfl ?_
  exact im_iret C rfl rfl dX10_clearText_11
set_option maxRecDepth 100000 in
set_option maxHeartbeats 4000000 in
theorem c_X10_here {l : Launch} {G : va_G} {ad : Nat → Nat → Nat} {U : List (Nat × Nat)} {D : Dt} (hU : Uinj ad U) (h0 : MoU U) : MI l G ad U yX10_here cX10_here 1 .int (k2_rm 0 0) [.ref (ad 32 0)] D ((f_X10_here D).bind (fun r => some (r, D))) := by
  refine mI_of (lv := [(0, .ref (ad 32 0))]) (by decide) hU rfl (Nat.le_of_ble_eq_true rfl) (fun A p e s m args below meth c C => ?_)
  have C : Cx G ad U A p s m meth c args cX10_here RX10 1 (some .int) := C
  unfold f_X10_here
  refine im_aload_n C 1 0 dX10_here_0 rfl rfl rfl ?_
  refine gl_X10_89 C 4 (h0 32 (by decide) (by decide)) dX10_here_1 rfl ?_
  refine im_aload_n C 5 0 dX10_here_4 rfl rfl rfl ?_
  refine gl_X10_86 C 8 (h0 32 (by decide) (by decide)) dX10_here_5 rfl ?_
  refine im_ic_ge C 27 11 dX10_here_8 rfl rfl ?_ ?_
  · refine im_iconst C 28 dX10_here_27 rfl k_icm1 ?_
    exact im_iret C rfl rfl dX10_here_28
  · refine im_aload_n C 12 0 dX10_here_11 rfl rfl rfl ?_
    refine gl_X10_16 C 15 (h0 32 (by decide) (by decide)) dX10_here_12 rfl ?_
    refine im_aload_n C 16 0 dX10_here_15 rfl rfl rfl ?_
    refine gl_X10_89 C 19 (h0 32 (by decide) (by decide)) dX10_here_16 rfl ?_
    refine im_rdb C 20 150 (h0 35 (by decide) (by decide)) rfl dX10_here_19 rfl (fun v1 => ?_)
    refine im_sipush C 23 dX10_here_20 rfl k_sp255 ?_
    refine im_iand C 24 dX10_here_23 rfl ?_
    refine im_goto C 28 dX10_here_24 rfl ?_
    exact im_iret C rfl rfl dX10_here_28
set_option maxRecDepth 100000 in
set_option maxHeartbeats 4000000 in
theorem c_X10_readsToken {l : Launch} {G : va_G} {ad : Nat → Nat → Nat} {U : List (Nat × Nat)} {D : Dt} (hU : Uinj ad U) (h0 : MoU U) : MV l G ad U yX10_readsToken cX10_readsToken 2 (k2_rm 1 22) [.ref (ad 32 0)] D (f_X10_readsToken D) := by
  refine mV_of0 (lv := [(0, .ref (ad 32 0))]) (by decide) hU rfl (Nat.le_of_ble_eq_true rfl) (fun A p e s m args below meth c C => ?_)
  have C : Cx G ad U A p s m meth c args cX10_readsToken RX10 2 none := C
  unfold f_X10_readsToken
  refine im_lpB l_X10_readsToken_0 (fun z0 => [(0, .ref (ad 32 0))]) (fun z0 => z0) 22 (fun e1 => [(0, .ref (ad 32 0))]) (fun e1 => e1) (fun e1 => ?_) (fun z0 X_z0 hX_z0 hE_z0 => ?_) FU D
  · refine im_aload_n C 23 0 dX10_readsToken_22 rfl rfl rfl ?_
    refine im_aload_n C 24 0 dX10_readsToken_23 rfl rfl rfl ?_
    refine gl_X10_89 C 27 (h0 32 (by decide) (by decide)) dX10_readsToken_24 rfl ?_
    refine pl_X10_96 C 30 (h0 32 (by decide) (by decide)) dX10_readsToken_27 rfl (fun D4 => ?_)
    refine im_aload_n C 31 0 dX10_readsToken_30 rfl rfl rfl ?_
    refine im_lconst C 32 dX10_readsToken_31 rfl k_lc0 ?_
    refine pl_X10_99 C 35 (h0 32 (by decide) (by decide)) dX10_readsToken_32 rfl (fun D5 => ?_)
    refine im_aload_n C 36 0 dX10_readsToken_35 rfl rfl rfl ?_
    refine im_cVP C 39 vk_X10_here gw_1085 (c_X10_here  hU h0) (h0 32 (by decide) (by decide)) rfl rfl (rle rfl) rfl (st := []) rfl (Nat.le_of_ble_eq_true rfl) dX10_readsToken_36 rfl (fun o6 => ?_)
    refine im_bipush C 41 dX10_readsToken_39 rfl k_bp97 ?_
    refine im_bipush C 43 dX10_readsToken_41 rfl k_bp122 ?_
    refine im_cSP C 46 sk_X10_in gw_1066 (c_X10_in (x0 := o6) (x1 := (97 : Int32)) (x2 := (122 : Int32)) hU) (rle rfl) rfl (st := []) rfl (Nat.le_of_ble_eq_true rfl) dX10_readsToken_43 rfl (fun o7 => ?_)
    refine im_if_eq C 125 49 dX10_readsToken_46 rfl rfl ?_ ?_
    · refine im_aload_n C 126 0 dX10_readsToken_125 rfl rfl rfl ?_
      refine im_cVP C 129 vk_X10_here gw_1085 (c_X10_here  hU h0) (h0 32 (by decide) (by decide)) rfl rfl (rle rfl) rfl (st := []) rfl (Nat.le_of_ble_eq_true rfl) dX10_readsToken_126 rfl (fun o8 => ?_)
      refine im_bipush C 131 dX10_readsToken_129 rfl k_bp48 ?_
      refine im_bipush C 133 dX10_readsToken_131 rfl k_bp57 ?_
      refine im_cSP C 136 sk_X10_in gw_1066 (c_X10_in (x0 := o8) (x1 := (48 : Int32)) (x2 := (57 : Int32)) hU) (rle rfl) rfl (st := []) rfl (Nat.le_of_ble_eq_true rfl) dX10_readsToken_133 rfl (fun o9 => ?_)
      refine im_if_eq C 263 139 dX10_readsToken_136 rfl rfl ?_ ?_
      · refine im_aload_n C 264 0 dX10_readsToken_263 rfl rfl rfl ?_
        refine im_aload_n C 265 0 dX10_readsToken_264 rfl rfl rfl ?_
        refine im_cVP C 268 vk_X10_here gw_1085 (c_X10_here  hU h0) (h0 32 (by decide) (by decide)) rfl rfl (rle rfl) rfl (st := [.ref (ad 32 0)]) rfl (Nat.le_of_ble_eq_true rfl) dX10_readsToken_265 rfl (fun o10 => ?_)
        refine im_jn 289 (fun t11 => [(0, .ref (ad 32 0))]) (fun t11 => [.int t11, .ref (ad 32 0)]) (fun t11 => D5) (fun t11 => j_X10_readsToken_289_t11 D5 t11) (fun t11 => ?_) (fun ht11 => ?_)
        · unfold j_X10_readsToken_289_t11
          refine pl_X10_103 C 292 (h0 32 (by decide) (by decide)) dX10_readsToken_289 rfl (fun D12 => ?_)
          refine im_aload_n C 293 0 dX10_readsToken_292 rfl rfl rfl ?_
          refine im_dup C 294 dX10_readsToken_293 rfl rfl ?_
          refine gl_X10_89 C 297 (h0 32 (by decide) (by decide)) dX10_readsToken_294 rfl ?_
          refine im_aload_n C 298 0 dX10_readsToken_297 rfl rfl rfl ?_
          refine im_cVP C 301 vk_X10_here gw_1085 (c_X10_here  hU h0) (h0 32 (by decide) (by decide)) rfl rfl (rle rfl) rfl (st := [.int (D12 32 0 10), .ref (ad 32 0)]) rfl (Nat.le_of_ble_eq_true rfl) dX10_readsToken_298 rfl (fun o13 => ?_)
          refine im_if_ge C 308 304 dX10_readsToken_301 rfl rfl ?_ ?_
          · refine im_iconst C 309 dX10_readsToken_308 rfl k_ic1 ?_
            refine im_iadd C 310 dX10_readsToken_309 rfl ?_
            refine pl_X10_89 C 313 (h0 32 (by decide) (by decide)) dX10_readsToken_310 rfl (fun D14 => ?_)
            exact im_vret C rfl dX10_readsToken_313
          · refine im_iconst C 305 dX10_readsToken_304 rfl k_ic0 ?_
            refine im_goto C 309 dX10_readsToken_305 rfl ?_
            refine im_iadd C 310 dX10_readsToken_309 rfl ?_
            refine pl_X10_89 C 313 (h0 32 (by decide) (by decide)) dX10_readsToken_310 rfl (fun D15 => ?_)
            exact im_vret C rfl dX10_readsToken_313
        · refine im_if_ge C 275 271 dX10_readsToken_268 rfl rfl ?_ ?_
          · refine im_aload_n C 276 0 dX10_readsToken_275 rfl rfl rfl ?_
            refine im_cVP C 279 vk_X10_here gw_1085 (c_X10_here  hU h0) (h0 32 (by decide) (by decide)) rfl rfl (rle rfl) rfl (st := [.ref (ad 32 0)]) rfl (Nat.le_of_ble_eq_true rfl) dX10_readsToken_276 rfl (fun o16 => ?_)
            refine im_bipush C 281 dX10_readsToken_279 rfl k_bp59 ?_
            refine im_ic_ne C 288 284 dX10_readsToken_281 rfl rfl ?_ ?_
            · refine im_iconst C 289 dX10_readsToken_288 rfl k_ic4 ?_
              exact ht11 (4 : Int32)
            · refine im_iconst C 285 dX10_readsToken_284 rfl k_ic3 ?_
              refine im_goto C 289 dX10_readsToken_285 rfl ?_
              exact ht11 (3 : Int32)
          · refine im_iconst C 272 dX10_readsToken_271 rfl k_ic0 ?_
            refine im_goto C 289 dX10_readsToken_272 rfl ?_
            exact ht11 (0 : Int32)
      · refine im_aload_n C 140 0 dX10_readsToken_139 rfl rfl rfl ?_
        refine im_cVP C 143 vk_X10_here gw_1085 (c_X10_here  hU h0) (h0 32 (by decide) (by decide)) rfl rfl (rle rfl) rfl (st := []) rfl (Nat.le_of_ble_eq_true rfl) dX10_readsToken_140 rfl (fun o17 => ?_)
        refine im_bipush C 145 dX10_readsToken_143 rfl k_bp48 ?_
        refine im_jn 153 (fun t18 => [(0, .ref (ad 32 0))]) (fun t18 => [.int t18]) (fun t18 => D5) (fun t18 => j_X10_readsToken_153_t18 D5 t18) (fun t18 => ?_) (fun ht18 => ?_)
        · unfold j_X10_readsToken_153_t18
          refine im_istore_n C 154 [(1, .int t18), (0, .ref (ad 32 0))] dX10_readsToken_153 rfl (by decide) rfl rfl ?_
          refine im_sub [1, 0] [(0, .ref (ad 32 0)), (1, .int t18)] rfl ?_
          refine im_lpB l_X10_readsToken_154 (fun z154 => [(0, .ref (ad 32 0)), (1, .int t18)]) (fun z154 => z154) 221 (fun e19 => [(0, .ref (ad 32 0)), (1, .int t18)]) (fun e19 => e19) (fun e19 => ?_) (fun z154 X_z154 hX_z154 hE_z154 => ?_) FU D5
          · refine im_aload_n C 222 0 dX10_readsToken_221 rfl rfl rfl ?_
            refine im_aload_n C 223 0 dX10_readsToken_222 rfl rfl rfl ?_
            refine gl_X10_89 C 226 (h0 32 (by decide) (by decide)) dX10_readsToken_223 rfl ?_
            refine im_aload_n C 227 0 dX10_readsToken_226 rfl rfl rfl ?_
            refine gl_X10_96 C 230 (h0 32 (by decide) (by decide)) dX10_readsToken_227 rfl ?_
            refine im_isub C 231 dX10_readsToken_230 rfl ?_
            refine im_iconst C 232 dX10_readsToken_231 rfl k_ic5 ?_
            refine im_ic_gt C 252 235 dX10_readsToken_232 rfl rfl ?_ ?_
            · refine im_iconst C 253 dX10_readsToken_252 rfl k_ic4 ?_
              refine im_goto C 257 dX10_readsToken_253 rfl ?_
              refine pl_X10_103 C 260 (h0 32 (by decide) (by decide)) dX10_readsToken_257 rfl (fun D27 => ?_)
              refine im_goto C 313 dX10_readsToken_260 rfl ?_
              exact im_vret C rfl dX10_readsToken_313
            · refine im_iload_n C 236 1 dX10_readsToken_235 rfl rfl rfl ?_
              refine im_if_eq C 256 239 dX10_readsToken_236 rfl rfl ?_ ?_
              · refine im_iconst C 257 dX10_readsToken_256 rfl k_ic2 ?_
                refine pl_X10_103 C 260 (h0 32 (by decide) (by decide)) dX10_readsToken_257 rfl (fun D28 => ?_)
                refine im_goto C 313 dX10_readsToken_260 rfl ?_
                exact im_vret C rfl dX10_readsToken_313
              · refine im_aload_n C 240 0 dX10_readsToken_239 rfl rfl rfl ?_
                refine gl_X10_89 C 243 (h0 32 (by decide) (by decide)) dX10_readsToken_240 rfl ?_
                refine im_aload_n C 244 0 dX10_readsToken_243 rfl rfl rfl ?_
                refine gl_X10_96 C 247 (h0 32 (by decide) (by decide)) dX10_readsToken_244 rfl ?_
                refine im_isub C 248 dX10_readsToken_247 rfl ?_
                refine im_iconst C 249 dX10_readsToken_248 rfl k_ic1 ?_
                refine im_ic_le C 256 252 dX10_readsToken_249 rfl rfl ?_ ?_
                · refine im_iconst C 257 dX10_readsToken_256 rfl k_ic2 ?_
                  refine pl_X10_103 C 260 (h0 32 (by decide) (by decide)) dX10_readsToken_257 rfl (fun D29 => ?_)
                  refine im_goto C 313 dX10_readsToken_260 rfl ?_
                  exact im_vret C rfl dX10_readsToken_313
                · refine im_iconst C 253 dX10_readsToken_252 rfl k_ic4 ?_
                  refine im_goto C 257 dX10_readsToken_253 rfl ?_
                  refine pl_X10_103 C 260 (h0 32 (by decide) (by decide)) dX10_readsToken_257 rfl (fun D30 => ?_)
                  refine im_goto C 313 dX10_readsToken_260 rfl ?_
                  exact im_vret C rfl dX10_readsToken_313
          · unfold l_X10_readsToken_154
            refine im_aload_n C 155 0 dX10_readsToken_154 rfl rfl rfl ?_
            refine im_cVP C 158 vk_X10_here gw_1085 (c_X10_here  hU h0) (h0 32 (by decide) (by decide)) rfl rfl (rle rfl) rfl (st := []) rfl (Nat.le_of_ble_eq_true rfl) dX10_readsToken_155 rfl (fun o20 => ?_)
            refine im_bipush C 160 dX10_readsToken_158 rfl k_bp48 ?_
            refine im_bipush C 162 dX10_readsToken_160 rfl k_bp57 ?_
            refine im_cSP C 165 sk_X10_in gw_1066 (c_X10_in (x0 := o20) (x1 := (48 : Int32)) (x2 := (57 : Int32)) hU) (rle rfl) rfl (st := []) rfl (Nat.le_of_ble_eq_true rfl) dX10_readsToken_162 rfl (fun o21 => ?_)
            refine im_if_eq C 221 168 dX10_readsToken_165 rfl rfl ?_ ?_
            · exact hE_z154 z154
            · refine im_aload_n C 169 0 dX10_readsToken_168 rfl rfl rfl ?_
              refine im_aload_n C 170 0 dX10_readsToken_169 rfl rfl rfl ?_
              refine gl_X10_99 C 173 (h0 32 (by decide) (by decide)) dX10_readsToken_170 rfl ?_
              refine im_ldc2 C 176 gw_1092 dX10_readsToken_173 rfl ?_
              refine im_lcmp C 177 dX10_readsToken_176 rfl ?_
              refine im_if_ge C 201 180 dX10_readsToken_177 rfl rfl ?_ ?_
              · refine im_aload_n C 202 0 dX10_readsToken_201 rfl rfl rfl ?_
                refine gl_X10_99 C 205 (h0 32 (by decide) (by decide)) dX10_readsToken_202 rfl ?_
                refine pl_X10_99 C 208 (h0 32 (by decide) (by decide)) dX10_readsToken_205 rfl (fun D22 => ?_)
                refine im_aload_n C 209 0 dX10_readsToken_208 rfl rfl rfl ?_
                refine im_dup C 210 dX10_readsToken_209 rfl rfl ?_
                refine gl_X10_89 C 213 (h0 32 (by decide) (by decide)) dX10_readsToken_210 rfl ?_
                refine im_iconst C 214 dX10_readsToken_213 rfl k_ic1 ?_
                refine im_iadd C 215 dX10_readsToken_214 rfl ?_
                refine pl_X10_89 C 218 (h0 32 (by decide) (by decide)) dX10_readsToken_215 rfl (fun D23 => ?_)
                refine im_goto C 154 dX10_readsToken_218 rfl ?_
                exact hX_z154 D23
              · refine im_ldc2 C 183 gw_1093 dX10_readsToken_180 rfl ?_
                refine im_aload_n C 184 0 dX10_readsToken_183 rfl rfl rfl ?_
                refine gl_X10_99 C 187 (h0 32 (by decide) (by decide)) dX10_readsToken_184 rfl ?_
                refine im_lmul C 188 dX10_readsToken_187 rfl ?_
                refine im_aload_n C 189 0 dX10_readsToken_188 rfl rfl rfl ?_
                refine im_cVP C 192 vk_X10_here gw_1085 (c_X10_here  hU h0) (h0 32 (by decide) (by decide)) rfl rfl (rle rfl) rfl (st := [.long ((10 : Int64) * (mkL (z154 32 0 13) (z154 32 0 113))), .ref (ad 32 0)]) rfl (Nat.le_of_ble_eq_true rfl) dX10_readsToken_189 rfl (fun o24 => ?_)
                refine im_i2l C 193 dX10_readsToken_192 rfl rfl ?_
                refine im_ladd C 194 dX10_readsToken_193 rfl ?_
                refine im_ldc2 C 197 gw_1094 dX10_readsToken_194 rfl ?_
                refine im_lsub C 198 dX10_readsToken_197 rfl ?_
                refine im_goto C 205 dX10_readsToken_198 rfl ?_
                refine pl_X10_99 C 208 (h0 32 (by decide) (by decide)) dX10_readsToken_205 rfl (fun D25 => ?_)
                refine im_aload_n C 209 0 dX10_readsToken_208 rfl rfl rfl ?_
                refine im_dup C 210 dX10_readsToken_209 rfl rfl ?_
                refine gl_X10_89 C 213 (h0 32 (by decide) (by decide)) dX10_readsToken_210 rfl ?_
                refine im_iconst C 214 dX10_readsToken_213 rfl k_ic1 ?_
                refine im_iadd C 215 dX10_readsToken_214 rfl ?_
                refine pl_X10_89 C 218 (h0 32 (by decide) (by decide)) dX10_readsToken_215 rfl (fun D26 => ?_)
                refine im_goto C 154 dX10_readsToken_218 rfl ?_
                exact hX_z154 D26
        · refine im_ic_ne C 152 148 dX10_readsToken_145 rfl rfl ?_ ?_
          · refine im_iconst C 153 dX10_readsToken_152 rfl k_ic0 ?_
            exact ht18 (0 : Int32)
          · refine im_iconst C 149 dX10_readsToken_148 rfl k_ic1 ?_
            refine im_goto C 153 dX10_readsToken_149 rfl ?_
            exact ht18 (1 : Int32)
    · refine im_aload_n C 50 0 dX10_readsToken_49 rfl rfl rfl ?_
      refine im_iconst C 51 dX10_readsToken_50 rfl k_ic1 ?_
      refine pl_X10_103 C 54 (h0 32 (by decide) (by decide)) dX10_readsToken_51 rfl (fun D31 => ?_)
      refine im_lpB l_X10_readsToken_54 (fun z54 => [(0, .ref (ad 32 0))]) (fun z54 => z54) 313 (fun e32 => []) (fun e32 => e32) (fun e32 => ?_) (fun z54 X_z54 hX_z54 hE_z54 => ?_) FU D31
      · exact im_vret C rfl dX10_readsToken_313
      · unfold l_X10_readsToken_54
        refine im_aload_n C 55 0 dX10_readsToken_54 rfl rfl rfl ?_
        refine im_cVP C 58 vk_X10_here gw_1085 (c_X10_here  hU h0) (h0 32 (by decide) (by decide)) rfl rfl (rle rfl) rfl (st := []) rfl (Nat.le_of_ble_eq_true rfl) dX10_readsToken_55 rfl (fun o33 => ?_)
        refine im_bipush C 60 dX10_readsToken_58 rfl k_bp97 ?_
        refine im_bipush C 62 dX10_readsToken_60 rfl k_bp122 ?_
        refine im_cSP C 65 sk_X10_in gw_1066 (c_X10_in (x0 := o33) (x1 := (97 : Int32)) (x2 := (122 : Int32)) hU) (rle rfl) rfl (st := []) rfl (Nat.le_of_ble_eq_true rfl) dX10_readsToken_62 rfl (fun o34 => ?_)
        refine im_if_eq C 313 68 dX10_readsToken_65 rfl rfl ?_ ?_
        · exact im_sub [] [] rfl (hE_z54 z54)
        · refine im_aload_n C 69 0 dX10_readsToken_68 rfl rfl rfl ?_
          refine im_aload_n C 70 0 dX10_readsToken_69 rfl rfl rfl ?_
          refine gl_X10_89 C 73 (h0 32 (by decide) (by decide)) dX10_readsToken_70 rfl ?_
          refine im_aload_n C 74 0 dX10_readsToken_73 rfl rfl rfl ?_
          refine gl_X10_96 C 77 (h0 32 (by decide) (by decide)) dX10_readsToken_74 rfl ?_
          refine im_isub C 78 dX10_readsToken_77 rfl ?_
          refine im_bipush C 80 dX10_readsToken_78 rfl k_bp8 ?_
          refine im_ic_ge C 106 83 dX10_readsToken_80 rfl rfl ?_ ?_
          · refine im_ldc2 C 109 gw_1091 dX10_readsToken_106 rfl ?_
            refine pl_X10_99 C 112 (h0 32 (by decide) (by decide)) dX10_readsToken_109 rfl (fun D35 => ?_)
            refine im_aload_n C 113 0 dX10_readsToken_112 rfl rfl rfl ?_
            refine im_dup C 114 dX10_readsToken_113 rfl rfl ?_
            refine gl_X10_89 C 117 (h0 32 (by decide) (by decide)) dX10_readsToken_114 rfl ?_
            refine im_iconst C 118 dX10_readsToken_117 rfl k_ic1 ?_
            refine im_iadd C 119 dX10_readsToken_118 rfl ?_
            refine pl_X10_89 C 122 (h0 32 (by decide) (by decide)) dX10_readsToken_119 rfl (fun D36 => ?_)
            refine im_goto C 54 dX10_readsToken_122 rfl ?_
            exact hX_z54 D36
          · refine im_ldc2 C 86 gw_1089 dX10_readsToken_83 rfl ?_
            refine im_aload_n C 87 0 dX10_readsToken_86 rfl rfl rfl ?_
            refine gl_X10_99 C 90 (h0 32 (by decide) (by decide)) dX10_readsToken_87 rfl ?_
            refine im_lmul C 91 dX10_readsToken_90 rfl ?_
            refine im_aload_n C 92 0 dX10_readsToken_91 rfl rfl rfl ?_
            refine im_cVP C 95 vk_X10_here gw_1085 (c_X10_here  hU h0) (h0 32 (by decide) (by decide)) rfl rfl (rle rfl) rfl (st := [.long ((27 : Int64) * (mkL (z54 32 0 13) (z54 32 0 113))), .ref (ad 32 0)]) rfl (Nat.le_of_ble_eq_true rfl) dX10_readsToken_92 rfl (fun o37 => ?_)
            refine im_i2l C 96 dX10_readsToken_95 rfl rfl ?_
            refine im_ladd C 97 dX10_readsToken_96 rfl ?_
            refine im_ldc2 C 100 gw_1090 dX10_readsToken_97 rfl ?_
            refine im_lsub C 101 dX10_readsToken_100 rfl ?_
            refine im_lconst C 102 dX10_readsToken_101 rfl k_lc1 ?_
            refine im_ladd C 103 dX10_readsToken_102 rfl ?_
            refine im_goto C 109 dX10_readsToken_103 rfl ?_
            refine pl_X10_99 C 112 (h0 32 (by decide) (by decide)) dX10_readsToken_109 rfl (fun D38 => ?_)
            refine im_aload_n C 113 0 dX10_readsToken_112 rfl rfl rfl ?_
            refine im_dup C 114 dX10_readsToken_113 rfl rfl ?_
            refine gl_X10_89 C 117 (h0 32 (by decide) (by decide)) dX10_readsToken_114 rfl ?_
            refine im_iconst C 118 dX10_readsToken_117 rfl k_ic1 ?_
            refine im_iadd C 119 dX10_readsToken_118 rfl ?_
            refine pl_X10_89 C 122 (h0 32 (by decide) (by decide)) dX10_readsToken_119 rfl (fun D39 => ?_)
            refine im_goto C 54 dX10_readsToken_122 rfl ?_
            exact hX_z54 D39
  · unfold l_X10_readsToken_0
    refine im_aload_n C 1 0 dX10_readsToken_0 rfl rfl rfl ?_
    refine im_cVP C 4 vk_X10_here gw_1085 (c_X10_here  hU h0) (h0 32 (by decide) (by decide)) rfl rfl (rle rfl) rfl (st := []) rfl (Nat.le_of_ble_eq_true rfl) dX10_readsToken_1 rfl (fun o2 => ?_)
    refine im_bipush C 6 dX10_readsToken_4 rfl k_bp32 ?_
    refine im_ic_ne C 22 9 dX10_readsToken_6 rfl rfl ?_ ?_
    · exact hE_z0 z0
    · refine im_aload_n C 10 0 dX10_readsToken_9 rfl rfl rfl ?_
      refine im_dup C 11 dX10_readsToken_10 rfl rfl ?_
      refine gl_X10_89 C 14 (h0 32 (by decide) (by decide)) dX10_readsToken_11 rfl ?_
      refine im_iconst C 15 dX10_readsToken_14 rfl k_ic1 ?_
      refine im_iadd C 16 dX10_readsToken_15 rfl ?_
      refine pl_X10_89 C 19 (h0 32 (by decide) (by decide)) dX10_readsToken_16 rfl (fun D3 => ?_)
      refine im_goto C 0 dX10_readsToken_19 rfl ?_
      exact hX_z0 D3
set_option maxRecDepth 100000 in
set_option maxHeartbeats 4000000 in
theorem c_X10_takes {l : Launch} {G : va_G} {ad : Nat → Nat → Nat} {U : List (Nat × Nat)} {D : Dt} {x1 : Int32} (hU : Uinj ad U) (h0 : MoU U) : MV l G ad U yX10_takes cX10_takes 2 (k2_rm 2 43) [.ref (ad 32 0), .int x1] D (f_X10_takes x1 D) := by
  refine mV_of0 (lv := [(0, .ref (ad 32 0)), (1, .int x1)]) (by decide) hU rfl (Nat.le_of_ble_eq_true rfl) (fun A p e s m args below meth c C => ?_)
  have C : Cx G ad U A p s m meth c args cX10_takes RX10 2 none := C
  unfold f_X10_takes
  refine im_aload_n C 1 0 dX10_takes_0 rfl rfl rfl ?_
  refine im_aload_n C 2 0 dX10_takes_1 rfl rfl rfl ?_
  refine gl_X10_118 C 5 (h0 32 (by decide) (by decide)) dX10_takes_2 rfl ?_
  refine im_if_ne C 12 8 dX10_takes_5 rfl rfl ?_ ?_
  · refine im_iconst C 13 dX10_takes_12 rfl k_ic1 ?_
    refine im_goto C 17 dX10_takes_13 rfl ?_
    refine im_gd (fun hg => ?_)
    refine pl_X10_118 C 20 (h0 32 (by decide) (by decide)) hg dX10_takes_17 rfl (fun D1 => ?_)
    refine im_aload_n C 21 0 dX10_takes_20 rfl rfl rfl ?_
    refine gl_X10_118 C 24 (h0 32 (by decide) (by decide)) dX10_takes_21 rfl ?_
    refine im_if_ne C 31 27 dX10_takes_24 rfl rfl ?_ ?_
    · exact im_vret C rfl dX10_takes_31
    · refine im_aload_n C 28 0 dX10_takes_27 rfl rfl rfl ?_
      refine im_cVV C 31 vk_X10_readsToken gw_1081 (c_X10_readsToken  hU h0) (h0 32 (by decide) (by decide)) rfl rfl (rle rfl) rfl (st := []) rfl (Nat.le_of_ble_eq_true rfl) dX10_takes_28 rfl (fun D2 => ?_)
      exact im_vret C rfl dX10_takes_31
  · refine im_iload_n C 9 1 dX10_takes_8 rfl rfl rfl ?_
    refine im_if_ne C 16 12 dX10_takes_9 rfl rfl ?_ ?_
    · refine im_iconst C 17 dX10_takes_16 rfl k_ic0 ?_
      refine im_gd (fun hg => ?_)
      refine pl_X10_118 C 20 (h0 32 (by decide) (by decide)) hg dX10_takes_17 rfl (fun D3 => ?_)
      refine im_aload_n C 21 0 dX10_takes_20 rfl rfl rfl ?_
      refine gl_X10_118 C 24 (h0 32 (by decide) (by decide)) dX10_takes_21 rfl ?_
      refine im_if_ne C 31 27 dX10_takes_24 rfl rfl ?_ ?_
      · exact im_vret C rfl dX10_takes_31
      · refine im_aload_n C 28 0 dX10_takes_27 rfl rfl rfl ?_
        refine im_cVV C 31 vk_X10_readsToken gw_1081 (c_X10_readsToken  hU h0) (h0 32 (by decide) (by decide)) rfl rfl (rle rfl) rfl (st := []) rfl (Nat.le_of_ble_eq_true rfl) dX10_takes_28 rfl (fun D4 => ?_)
        exact im_vret C rfl dX10_takes_31
    · refine im_iconst C 13 dX10_takes_12 rfl k_ic1 ?_
      refine im_goto C 17 dX10_takes_13 rfl ?_
      refine im_gd (fun hg => ?_)
      refine pl_X10_118 C 20 (h0 32 (by decide) (by decide)) hg dX10_takes_17 rfl (fun D5 => ?_)
      refine im_aload_n C 21 0 dX10_takes_20 rfl rfl rfl ?_
      refine gl_X10_118 C 24 (h0 32 (by decide) (by decide)) dX10_takes_21 rfl ?_
      refine im_if_ne C 31 27 dX10_takes_24 rfl rfl ?_ ?_
      · exact im_vret C rfl dX10_takes_31
      · refine im_aload_n C 28 0 dX10_takes_27 rfl rfl rfl ?_
        refine im_cVV C 31 vk_X10_readsToken gw_1081 (c_X10_readsToken  hU h0) (h0 32 (by decide) (by decide)) rfl rfl (rle rfl) rfl (st := []) rfl (Nat.le_of_ble_eq_true rfl) dX10_takes_28 rfl (fun D6 => ?_)
        exact im_vret C rfl dX10_takes_31
set_option maxRecDepth 100000 in
set_option maxHeartbeats 4000000 in
theorem c_X10_number {l : Launch} {G : va_G} {ad : Nat → Nat → Nat} {U : List (Nat × Nat)} {D : Dt} (hU : Uinj ad U) (h0 : MoU U) : MI l G ad U yX10_number cX10_number 1 .int (k2_rm 0 0) [.ref (ad 32 0)] D ((f_X10_number D).bind (fun r => some (r, D))) := by
  refine mI_of (lv := [(0, .ref (ad 32 0))]) (by decide) hU rfl (Nat.le_of_ble_eq_true rfl) (fun A p e s m args below meth c C => ?_)
  have C : Cx G ad U A p s m meth c args cX10_number RX10 1 (some .int) := C
  unfold f_X10_number
  refine im_aload_n C 1 0 dX10_number_0 rfl rfl rfl ?_
  refine gl_X10_103 C 4 (h0 32 (by decide) (by decide)) dX10_number_1 rfl ?_
  refine im_iconst C 5 dX10_number_4 rfl k_ic2 ?_
  refine im_ic_ne C 16 8 dX10_number_5 rfl rfl ?_ ?_
  · refine im_iconst C 17 dX10_number_16 rfl k_icm1 ?_
    exact im_iret C rfl rfl dX10_number_17
  · refine im_aload_n C 9 0 dX10_number_8 rfl rfl rfl ?_
    refine gl_X10_99 C 12 (h0 32 (by decide) (by decide)) dX10_number_9 rfl ?_
    refine im_l2i C 13 dX10_number_12 rfl rfl ?_
    refine im_goto C 17 dX10_number_13 rfl ?_
    exact im_iret C rfl rfl dX10_number_17
set_option maxRecDepth 100000 in
set_option maxHeartbeats 4000000 in
theorem c_X10_touchesPool {l : Launch} {G : va_G} {ad : Nat → Nat → Nat} {U : List (Nat × Nat)} {D : Dt} {x1 : Int32} {x2 : Int32} (hU : Uinj ad U) (h0 : MoU U) : MI l G ad U yX10_touchesPool cX10_touchesPool 6 .boolean (k2_rm 1 20) [.ref (ad 32 0), .int x1, .int x2] D ((f_X10_touchesPool x1 x2 D).bind (fun r => some (r, D))) := by
  refine mI_of (lv := [(0, .ref (ad 32 0)), (1, .int x1), (2, .int x2)]) (by decide) hU rfl (Nat.le_of_ble_eq_true rfl) (fun A p e s m args below meth c C => ?_)
  have C : Cx G ad U A p s m meth c args cX10_touchesPool RX10 6 (some .boolean) := C
  unfold f_X10_touchesPool
  refine im_iconst C 1 dX10_touchesPool_0 rfl k_ic0 ?_
  refine im_istore_n C 2 [(3, .int (0 : Int32)), (0, .ref (ad 32 0)), (1, .int x1), (2, .int x2)] dX10_touchesPool_1 rfl (by decide) rfl rfl ?_
  refine im_iconst C 3 dX10_touchesPool_2 rfl k_ic0 ?_
  refine im_istore C 5 [(4, .int (0 : Int32)), (3, .int (0 : Int32)), (0, .ref (ad 32 0)), (1, .int x1), (2, .int x2)] dX10_touchesPool_3 (by decide) rfl rfl ?_
  refine im_sub [2, 3, 4, 1, 0] [(0, .ref (ad 32 0)), (1, .int x1), (2, .int x2), (3, .int (0 : Int32)), (4, .int (0 : Int32))] rfl ?_
  refine im_lpB (l_X10_touchesPool_5 x1 x2 D) (fun z5 => [(0, .ref (ad 32 0)), (1, .int x1), (2, .int x2), (3, .int z5.1), (4, .int z5.2)]) (fun z5 => D) 81 (fun e1 => [(3, .int e1)]) (fun e1 => D) (fun e1 => ?_) (fun z5 X_z5 hX_z5 hE_z5 => ?_) FU ((0 : Int32), (0 : Int32))
  · refine im_iload_n C 82 0 dX10_touchesPool_81 rfl rfl rfl ?_
    refine im_gd (fun hg => ?_)
    exact im_iret C rfl (isb_n hg) dX10_touchesPool_82
  · unfold l_X10_touchesPool_5
    refine im_iload C 7 4 dX10_touchesPool_5 rfl rfl ?_
    refine im_aload_n C 8 0 dX10_touchesPool_7 rfl rfl rfl ?_
    refine gl_X10_7 C 11 (h0 32 (by decide) (by decide)) dX10_touchesPool_8 rfl ?_
    refine im_iconst C 12 dX10_touchesPool_11 rfl k_ic5 ?_
    refine im_rdi C 13 170 (h0 33 (by decide) (by decide)) rfl dX10_touchesPool_12 rfl (fun v2 => ?_)
    refine im_ic_ge C 81 16 dX10_touchesPool_13 rfl rfl ?_ ?_
    · exact im_sub [3] [(3, .int z5.1)] rfl (hE_z5 z5.1)
    · refine im_aload_n C 17 0 dX10_touchesPool_16 rfl rfl rfl ?_
      refine gl_X10_7 C 20 (h0 32 (by decide) (by decide)) dX10_touchesPool_17 rfl ?_
      refine im_bipush C 22 dX10_touchesPool_20 rfl k_bp6 ?_
      refine im_iconst C 23 dX10_touchesPool_22 rfl k_ic2 ?_
      refine im_iload C 25 4 dX10_touchesPool_23 rfl rfl ?_
      refine im_imul C 26 dX10_touchesPool_25 rfl ?_
      refine im_iadd C 27 dX10_touchesPool_26 rfl ?_
      refine im_rdi C 28 170 (h0 33 (by decide) (by decide)) rfl dX10_touchesPool_27 rfl (fun v3 => ?_)
      refine im_istore C 30 [(5, .int v3), (0, .ref (ad 32 0)), (1, .int x1), (2, .int x2), (3, .int z5.1), (4, .int z5.2)] dX10_touchesPool_28 (by decide) rfl rfl ?_
      refine im_iload_n C 31 4 dX10_touchesPool_30 rfl rfl rfl ?_
      refine im_if_ne C 69 34 dX10_touchesPool_31 rfl rfl ?_ ?_
      · refine im_iconst C 70 dX10_touchesPool_69 rfl k_ic1 ?_
        refine im_goto C 74 dX10_touchesPool_70 rfl ?_
        refine im_istore_n C 75 [(3, .int (1 : Int32)), (5, .int v3), (0, .ref (ad 32 0)), (1, .int x1), (2, .int x2), (4, .int z5.2)] dX10_touchesPool_74 rfl (by decide) rfl rfl ?_
        refine im_iinc C 78 5 [(4, .int (z5.2 + (1 : Int32))), (3, .int (1 : Int32)), (5, .int v3), (0, .ref (ad 32 0)), (1, .int x1), (2, .int x2)] dX10_touchesPool_75 rfl (k_inc1) (by decide) rfl rfl ?_
        refine im_goto C 5 dX10_touchesPool_78 rfl ?_
        exact im_sub [3, 4, 5, 1, 0] [(0, .ref (ad 32 0)), (1, .int x1), (2, .int x2), (3, .int (1 : Int32)), (4, .int (z5.2 + (1 : Int32)))] rfl (hX_z5 ((1 : Int32), z5.2 + (1 : Int32)))
      · refine im_iload C 36 0 dX10_touchesPool_34 rfl rfl ?_
        refine im_iload_n C 37 2 dX10_touchesPool_36 rfl rfl rfl ?_
        refine im_iload_n C 38 3 dX10_touchesPool_37 rfl rfl rfl ?_
        refine im_cSP C 41 sk_X10_size gw_1113 (c_X10_size (x0 := x2) hU) (rle rfl) rfl (st := [.int x1, .int v3]) rfl (Nat.le_of_ble_eq_true rfl) dX10_touchesPool_38 rfl (fun o4 => ?_)
        refine im_iadd C 42 dX10_touchesPool_41 rfl ?_
        refine im_ic_ge C 73 45 dX10_touchesPool_42 rfl rfl ?_ ?_
        · refine im_iconst C 74 dX10_touchesPool_73 rfl k_ic0 ?_
          refine im_istore_n C 75 [(3, .int (0 : Int32)), (5, .int v3), (0, .ref (ad 32 0)), (1, .int x1), (2, .int x2), (4, .int z5.2)] dX10_touchesPool_74 rfl (by decide) rfl rfl ?_
          refine im_iinc C 78 5 [(4, .int (z5.2 + (1 : Int32))), (3, .int (0 : Int32)), (5, .int v3), (0, .ref (ad 32 0)), (1, .int x1), (2, .int x2)] dX10_touchesPool_75 rfl (k_inc1) (by decide) rfl rfl ?_
          refine im_goto C 5 dX10_touchesPool_78 rfl ?_
          exact im_sub [3, 4, 5, 1, 0] [(0, .ref (ad 32 0)), (1, .int x1), (2, .int x2), (3, .int (0 : Int32)), (4, .int (z5.2 + (1 : Int32)))] rfl (hX_z5 ((0 : Int32), z5.2 + (1 : Int32)))
        · refine im_iload_n C 46 2 dX10_touchesPool_45 rfl rfl rfl ?_
          refine im_iload C 48 0 dX10_touchesPool_46 rfl rfl ?_
          refine im_aload_n C 49 1 dX10_touchesPool_48 rfl rfl rfl ?_
          refine gl_X10_7 C 52 (h0 32 (by decide) (by decide)) dX10_touchesPool_49 rfl ?_
          refine im_bipush C 54 dX10_touchesPool_52 rfl k_bp6 ?_
          refine im_iconst C 55 dX10_touchesPool_54 rfl k_ic2 ?_
          refine im_iload C 57 5 dX10_touchesPool_55 rfl rfl ?_
          refine im_imul C 58 dX10_touchesPool_57 rfl ?_
          refine im_iadd C 59 dX10_touchesPool_58 rfl ?_
          refine im_iconst C 60 dX10_touchesPool_59 rfl k_ic1 ?_
          refine im_iadd C 61 dX10_touchesPool_60 rfl ?_
          refine im_rdi C 62 170 (h0 33 (by decide) (by decide)) rfl dX10_touchesPool_61 rfl (fun v5 => ?_)
          refine im_cSP C 65 sk_X10_size gw_1113 (c_X10_size (x0 := v5) hU) (rle rfl) rfl (st := [.int v3, .int x1]) rfl (Nat.le_of_ble_eq_true rfl) dX10_touchesPool_62 rfl (fun o6 => ?_)
          refine im_iadd C 66 dX10_touchesPool_65 rfl ?_
          refine im_ic_ge C 73 69 dX10_touchesPool_66 rfl rfl ?_ ?_
          · refine im_iconst C 74 dX10_touchesPool_73 rfl k_ic0 ?_
            refine im_istore_n C 75 [(3, .int (0 : Int32)), (5, .int v3), (0, .ref (ad 32 0)), (1, .int x1), (2, .int x2), (4, .int z5.2)] dX10_touchesPool_74 rfl (by decide) rfl rfl ?_
            refine im_iinc C 78 5 [(4, .int (z5.2 + (1 : Int32))), (3, .int (0 : Int32)), (5, .int v3), (0, .ref (ad 32 0)), (1, .int x1), (2, .int x2)] dX10_touchesPool_75 rfl (k_inc1) (by decide) rfl rfl ?_
            refine im_goto C 5 dX10_touchesPool_78 rfl ?_
            exact im_sub [3, 4, 5, 1, 0] [(0, .ref (ad 32 0)), (1, .int x1), (2, .int x2), (3, .int (0 : Int32)), (4, .int (z5.2 + (1 : Int32)))] rfl (hX_z5 ((0 : Int32), z5.2 + (1 : Int32)))
          · refine im_iconst C 70 dX10_touchesPool_69 rfl k_ic1 ?_
            refine im_goto C 74 dX10_touchesPool_70 rfl ?_
            refine im_istore_n C 75 [(3, .int (1 : Int32)), (5, .int v3), (0, .ref (ad 32 0)), (1, .int x1), (2, .int x2), (4, .int z5.2)] dX10_touchesPool_74 rfl (by decide) rfl rfl ?_
            refine im_iinc C 78 5 [(4, .int (z5.2 + (1 : Int32))), (3, .int (1 : Int32)), (5, .int v3), (0, .ref (ad 32 0)), (1, .int x1), (2, .int x2)] dX10_touchesPool_75 rfl (k_inc1) (by decide) rfl rfl ?_
            refine im_goto C 5 dX10_touchesPool_78 rfl ?_
            exact im_sub [3, 4, 5, 1, 0] [(0, .ref (ad 32 0)), (1, .int x1), (2, .int x2), (3, .int (1 : Int32)), (4, .int (z5.2 + (1 : Int32)))] rfl (hX_z5 ((1 : Int32), z5.2 + (1 : Int32)))
set_option maxRecDepth 100000 in
set_option maxHeartbeats 4000000 in
theorem c_X10_readsPool {l : Launch} {G : va_G} {ad : Nat → Nat → Nat} {U : List (Nat × Nat)} {D : Dt} (hU : Uinj ad U) (h0 : MoU U) : MV l G ad U yX10_readsPool cX10_readsPool 3 (k2_rm 3 64) [.ref (ad 32 0)] D (f_X10_readsPool D) := by
  refine mV_of0 (lv := [(0, .ref (ad 32 0))]) (by decide) hU rfl (Nat.le_of_ble_eq_true rfl) (fun A p e s m args below meth c C => ?_)
  have C : Cx G ad U A p s m meth c args cX10_readsPool RX10 3 none := C
  unfold f_X10_readsPool
  refine im_aload_n C 1 0 dX10_readsPool_0 rfl rfl rfl ?_
  refine im_cVP C 4 vk_X10_number gw_1108 (c_X10_number  hU h0) (h0 32 (by decide) (by decide)) rfl rfl (rle rfl) rfl (st := []) rfl (Nat.le_of_ble_eq_true rfl) dX10_readsPool_1 rfl (fun o1 => ?_)
  refine im_istore_n C 5 [(1, .int o1), (0, .ref (ad 32 0))] dX10_readsPool_4 rfl (by decide) rfl rfl ?_
  refine im_aload_n C 6 1 dX10_readsPool_5 rfl rfl rfl ?_
  refine im_iload_n C 7 0 dX10_readsPool_6 rfl rfl rfl ?_
  refine im_iconst C 8 dX10_readsPool_7 rfl k_ic0 ?_
  refine im_ldc C 10 gw_1112 dX10_readsPool_8 rfl ?_
  refine im_cSP C 13 sk_X10_in gw_1066 (c_X10_in (x0 := o1) (x1 := (0 : Int32)) (x2 := (65535 : Int32)) hU) (rle rfl) rfl (st := [.ref (ad 32 0)]) rfl (Nat.le_of_ble_eq_true rfl) dX10_readsPool_10 rfl (fun o2 => ?_)
  refine im_cVV C 16 vk_X10_takes gw_1100 (c_X10_takes (x1 := o2) hU h0) (h0 32 (by decide) (by decide)) rfl rfl (rle rfl) rfl (st := []) rfl (Nat.le_of_ble_eq_true rfl) dX10_readsPool_13 rfl (fun D3 => ?_)
  refine im_aload_n C 17 1 dX10_readsPool_16 rfl rfl rfl ?_
  refine im_cVP C 20 vk_X10_number gw_1108 (c_X10_number  hU h0) (h0 32 (by decide) (by decide)) rfl rfl (rle rfl) rfl (st := []) rfl (Nat.le_of_ble_eq_true rfl) dX10_readsPool_17 rfl (fun o4 => ?_)
  refine im_istore_n C 21 [(2, .int o4), (1, .int o1), (0, .ref (ad 32 0))] dX10_readsPool_20 rfl (by decide) rfl rfl ?_
  refine im_aload_n C 22 2 dX10_readsPool_21 rfl rfl rfl ?_
  refine im_iload_n C 23 0 dX10_readsPool_22 rfl rfl rfl ?_
  refine im_iconst C 24 dX10_readsPool_23 rfl k_ic4 ?_
  refine im_bipush C 26 dX10_readsPool_24 rfl k_bp14 ?_
  refine im_cSP C 29 sk_X10_in gw_1066 (c_X10_in (x0 := o4) (x1 := (4 : Int32)) (x2 := (14 : Int32)) hU) (rle rfl) rfl (st := [.ref (ad 32 0)]) rfl (Nat.le_of_ble_eq_true rfl) dX10_readsPool_26 rfl (fun o5 => ?_)
  refine im_jn 55 (fun t6 => [(0, .ref (ad 32 0)), (1, .int o1), (2, .int o4)]) (fun t6 => [.int t6, .ref (ad 32 0)]) (fun t6 => D3) (fun t6 => j_X10_readsPool_55_t6 o1 D3 o4 t6) (fun t6 => ?_) (fun ht6 => ?_)
  · unfold j_X10_readsPool_55_t6
    refine im_cVV C 58 vk_X10_takes gw_1100 (c_X10_takes (x1 := t6) hU h0) (h0 32 (by decide) (by decide)) rfl rfl (rle rfl) rfl (st := []) rfl (Nat.le_of_ble_eq_true rfl) dX10_readsPool_55 rfl (fun D7 => ?_)
    refine im_aload_n C 59 0 dX10_readsPool_58 rfl rfl rfl ?_
    refine gl_X10_118 C 62 (h0 32 (by decide) (by decide)) dX10_readsPool_59 rfl ?_
    refine im_if_ne C 111 65 dX10_readsPool_62 rfl rfl ?_ ?_
    · exact im_vret C rfl dX10_readsPool_111
    · refine im_aload_n C 66 0 dX10_readsPool_65 rfl rfl rfl ?_
      refine gl_X10_7 C 69 (h0 32 (by decide) (by decide)) dX10_readsPool_66 rfl ?_
      refine im_bipush C 71 dX10_readsPool_69 rfl k_bp6 ?_
      refine im_iconst C 72 dX10_readsPool_71 rfl k_ic2 ?_
      refine im_aload_n C 73 0 dX10_readsPool_72 rfl rfl rfl ?_
      refine gl_X10_7 C 76 (h0 32 (by decide) (by decide)) dX10_readsPool_73 rfl ?_
      refine im_iconst C 77 dX10_readsPool_76 rfl k_ic5 ?_
      refine im_rdi C 78 170 (h0 33 (by decide) (by decide)) rfl dX10_readsPool_77 rfl (fun v8 => ?_)
      refine im_imul C 79 dX10_readsPool_78 rfl ?_
      refine im_iadd C 80 dX10_readsPool_79 rfl ?_
      refine im_iload_n C 81 1 dX10_readsPool_80 rfl rfl rfl ?_
      refine im_wri C 82 170 (h0 33 (by decide) (by decide)) (fun _ => rfl) dX10_readsPool_81 rfl (fun D9 => ?_)
      refine im_aload_n C 83 0 dX10_readsPool_82 rfl rfl rfl ?_
      refine gl_X10_7 C 86 (h0 32 (by decide) (by decide)) dX10_readsPool_83 rfl ?_
      refine im_bipush C 88 dX10_readsPool_86 rfl k_bp6 ?_
      refine im_iconst C 89 dX10_readsPool_88 rfl k_ic2 ?_
      refine im_aload_n C 90 0 dX10_readsPool_89 rfl rfl rfl ?_
      refine gl_X10_7 C 93 (h0 32 (by decide) (by decide)) dX10_readsPool_90 rfl ?_
      refine im_iconst C 94 dX10_readsPool_93 rfl k_ic5 ?_
      refine im_rdi C 95 170 (h0 33 (by decide) (by decide)) rfl dX10_readsPool_94 rfl (fun v10 => ?_)
      refine im_imul C 96 dX10_readsPool_95 rfl ?_
      refine im_iadd C 97 dX10_readsPool_96 rfl ?_
      refine im_iconst C 98 dX10_readsPool_97 rfl k_ic1 ?_
      refine im_iadd C 99 dX10_readsPool_98 rfl ?_
      refine im_iload_n C 100 2 dX10_readsPool_99 rfl rfl rfl ?_
      refine im_wri C 101 170 (h0 33 (by decide) (by decide)) (fun _ => rfl) dX10_readsPool_100 rfl (fun D11 => ?_)
      refine im_aload_n C 102 0 dX10_readsPool_101 rfl rfl rfl ?_
      refine gl_X10_7 C 105 (h0 32 (by decide) (by decide)) dX10_readsPool_102 rfl ?_
      refine im_iconst C 106 dX10_readsPool_105 rfl k_ic5 ?_
      refine im_dup2 C 107 dX10_readsPool_106 rfl rfl rfl ?_
      refine im_rdi C 108 170 (h0 33 (by decide) (by decide)) rfl dX10_readsPool_107 rfl (fun v12 => ?_)
      refine im_iconst C 109 dX10_readsPool_108 rfl k_ic1 ?_
      refine im_iadd C 110 dX10_readsPool_109 rfl ?_
      refine im_wri C 111 170 (h0 33 (by decide) (by decide)) (fun _ => rfl) dX10_readsPool_110 rfl (fun D13 => ?_)
      exact im_vret C rfl dX10_readsPool_111
  · refine im_if_eq C 54 32 dX10_readsPool_29 rfl rfl ?_ ?_
    · refine im_iconst C 55 dX10_readsPool_54 rfl k_ic0 ?_
      exact im_sub [2, 1, 0] [(0, .ref (ad 32 0)), (1, .int o1), (2, .int o4)] rfl (ht6 (0 : Int32))
    · refine im_iload_n C 33 1 dX10_readsPool_32 rfl rfl rfl ?_
      refine im_iload_n C 34 0 dX10_readsPool_33 rfl rfl rfl ?_
      refine im_cSP C 37 sk_X10_size gw_1113 (c_X10_size (x0 := o4) hU) (rle rfl) rfl (st := [.int o1, .ref (ad 32 0)]) rfl (Nat.le_of_ble_eq_true rfl) dX10_readsPool_34 rfl (fun o14 => ?_)
      refine im_irem C 38 dX10_readsPool_37 rfl ?_
      refine im_if_ne C 54 41 dX10_readsPool_38 rfl rfl ?_ ?_
      · refine im_iconst C 55 dX10_readsPool_54 rfl k_ic0 ?_
        exact im_sub [2, 1, 0] [(0, .ref (ad 32 0)), (1, .int o1), (2, .int o4)] rfl (ht6 (0 : Int32))
      · refine im_aload_n C 42 2 dX10_readsPool_41 rfl rfl rfl ?_
        refine im_iload_n C 43 1 dX10_readsPool_42 rfl rfl rfl ?_
        refine im_iload_n C 44 0 dX10_readsPool_43 rfl rfl rfl ?_
        refine im_cVP C 47 vk_X10_touchesPool gw_1116 (c_X10_touchesPool (x1 := o1) (x2 := o4) hU h0) (h0 32 (by decide) (by decide)) rfl rfl (rle rfl) rfl (st := [.ref (ad 32 0)]) rfl (Nat.le_of_ble_eq_true rfl) dX10_readsPool_44 rfl (fun o15 => ?_)
        refine im_if_ne C 54 50 dX10_readsPool_47 rfl rfl ?_ ?_
        · refine im_iconst C 55 dX10_readsPool_54 rfl k_ic0 ?_
          exact im_sub [2, 1, 0] [(0, .ref (ad 32 0)), (1, .int o1), (2, .int o4)] rfl (ht6 (0 : Int32))
        · refine im_iconst C 51 dX10_readsPool_50 rfl k_ic1 ?_
          refine im_goto C 55 dX10_readsPool_51 rfl ?_
          exact im_sub [2, 1, 0] [(0, .ref (ad 32 0)), (1, .int o1), (2, .int o4)] rfl (ht6 (1 : Int32))
set_option maxRecDepth 100000 in
set_option maxHeartbeats 4000000 in
theorem c_X10_readsNet {l : Launch} {G : va_G} {ad : Nat → Nat → Nat} {U : List (Nat × Nat)} {D : Dt} (hU : Uinj ad U) (h0 : MoU U) : MV l G ad U yX10_readsNet cX10_readsNet 4 (k2_rm 6 136) [.ref (ad 32 0)] D (f_X10_readsNet D) := by
  refine mV_of0 (lv := [(0, .ref (ad 32 0))]) (by decide) hU rfl (Nat.le_of_ble_eq_true rfl) (fun A p e s m args below meth c C => ?_)
  have C : Cx G ad U A p s m meth c args cX10_readsNet RX10 4 none := C
  unfold f_X10_readsNet
  refine im_aload_n C 1 0 dX10_readsNet_0 rfl rfl rfl ?_
  refine im_cVP C 4 vk_X10_number gw_1108 (c_X10_number  hU h0) (h0 32 (by decide) (by decide)) rfl rfl (rle rfl) rfl (st := []) rfl (Nat.le_of_ble_eq_true rfl) dX10_readsNet_1 rfl (fun o1 => ?_)
  refine im_istore_n C 5 [(1, .int o1), (0, .ref (ad 32 0))] dX10_readsNet_4 rfl (by decide) rfl rfl ?_
  refine im_aload_n C 6 1 dX10_readsNet_5 rfl rfl rfl ?_
  refine im_iload_n C 7 0 dX10_readsNet_6 rfl rfl rfl ?_
  refine im_iconst C 8 dX10_readsNet_7 rfl k_ic0 ?_
  refine im_bipush C 10 dX10_readsNet_8 rfl k_bp11 ?_
  refine im_cSP C 13 sk_X10_in gw_1066 (c_X10_in (x0 := o1) (x1 := (0 : Int32)) (x2 := (11 : Int32)) hU) (rle rfl) rfl (st := [.ref (ad 32 0)]) rfl (Nat.le_of_ble_eq_true rfl) dX10_readsNet_10 rfl (fun o2 => ?_)
  refine im_jn 33 (fun t3 => [(0, .ref (ad 32 0)), (1, .int o1)]) (fun t3 => [.int t3, .ref (ad 32 0)]) (fun t3 => D) (fun t3 => j_X10_readsNet_33_t3 D o1 t3) (fun t3 => ?_) (fun ht3 => ?_)
  · unfold j_X10_readsNet_33_t3
    refine im_cVV C 36 vk_X10_takes gw_1100 (c_X10_takes (x1 := t3) hU h0) (h0 32 (by decide) (by decide)) rfl rfl (rle rfl) rfl (st := []) rfl (Nat.le_of_ble_eq_true rfl) dX10_readsNet_33 rfl (fun D4 => ?_)
    refine im_aload_n C 37 0 dX10_readsNet_36 rfl rfl rfl ?_
    refine im_cVP C 40 vk_X10_number gw_1108 (c_X10_number  hU h0) (h0 32 (by decide) (by decide)) rfl rfl (rle rfl) rfl (st := []) rfl (Nat.le_of_ble_eq_true rfl) dX10_readsNet_37 rfl (fun o5 => ?_)
    refine im_istore_n C 41 [(2, .int o5), (0, .ref (ad 32 0)), (1, .int o1)] dX10_readsNet_40 rfl (by decide) rfl rfl ?_
    refine im_aload_n C 42 1 dX10_readsNet_41 rfl rfl rfl ?_
    refine gl_X10_118 C 45 (h0 32 (by decide) (by decide)) dX10_readsNet_42 rfl ?_
    refine im_jn 67 (fun t6 => [(0, .ref (ad 32 0)), (1, .int o1), (2, .int o5)]) (fun t6 => [.int t6.1]) (fun t6 => t6.2) (fun t6 => j_X10_readsNet_67_t6 o1 o5 t6) (fun t6 => ?_) (fun ht6 => ?_)
    · unfold j_X10_readsNet_67_t6
      refine im_istore_n C 68 [(3, .int t6.1), (0, .ref (ad 32 0)), (1, .int o1), (2, .int o5)] dX10_readsNet_67 rfl (by decide) rfl rfl ?_
      refine im_aload_n C 69 1 dX10_readsNet_68 rfl rfl rfl ?_
      refine im_iload_n C 70 0 dX10_readsNet_69 rfl rfl rfl ?_
      refine im_jn 78 (fun t7 => [(0, .ref (ad 32 0)), (1, .int o1), (2, .int o5), (3, .int t6.1)]) (fun t7 => [.int t7, .ref (ad 32 0)]) (fun t7 => t6.2) (fun t7 => j_X10_readsNet_78_t7 o1 o5 t6 t7) (fun t7 => ?_) (fun ht7 => ?_)
      · unfold j_X10_readsNet_78_t7
        refine im_cVV C 81 vk_X10_takes gw_1100 (c_X10_takes (x1 := t7) hU h0) (h0 32 (by decide) (by decide)) rfl rfl (rle rfl) rfl (st := []) rfl (Nat.le_of_ble_eq_true rfl) dX10_readsNet_78 rfl (fun D8 => ?_)
        refine im_aload_n C 82 0 dX10_readsNet_81 rfl rfl rfl ?_
        refine gl_X10_118 C 85 (h0 32 (by decide) (by decide)) dX10_readsNet_82 rfl ?_
        refine im_if_ne C 110 88 dX10_readsNet_85 rfl rfl ?_ ?_
        · exact im_vret C rfl dX10_readsNet_110
        · refine im_aload_n C 89 0 dX10_readsNet_88 rfl rfl rfl ?_
          refine gl_X10_7 C 92 (h0 32 (by decide) (by decide)) dX10_readsNet_89 rfl ?_
          refine im_iload_n C 93 1 dX10_readsNet_92 rfl rfl rfl ?_
          refine im_cSP C 96 sk_X10_net gw_990 (c_X10_net (x0 := o1) hU) (rle rfl) rfl (st := [.ref (ad 33 0)]) rfl (Nat.le_of_ble_eq_true rfl) dX10_readsNet_93 rfl (fun o9 => ?_)
          refine im_iload_n C 97 3 dX10_readsNet_96 rfl rfl rfl ?_
          refine im_wri C 98 170 (h0 33 (by decide) (by decide)) (fun _ => rfl) dX10_readsNet_97 rfl (fun D10 => ?_)
          refine im_aload_n C 99 0 dX10_readsNet_98 rfl rfl rfl ?_
          refine gl_X10_7 C 102 (h0 32 (by decide) (by decide)) dX10_readsNet_99 rfl ?_
          refine im_iload_n C 103 1 dX10_readsNet_102 rfl rfl rfl ?_
          refine im_cSP C 106 sk_X10_net gw_990 (c_X10_net (x0 := o1) hU) (rle rfl) rfl (st := [.ref (ad 33 0)]) rfl (Nat.le_of_ble_eq_true rfl) dX10_readsNet_103 rfl (fun o11 => ?_)
          refine im_iconst C 107 dX10_readsNet_106 rfl k_ic1 ?_
          refine im_iadd C 108 dX10_readsNet_107 rfl ?_
          refine im_iload_n C 109 2 dX10_readsNet_108 rfl rfl rfl ?_
          refine im_wri C 110 170 (h0 33 (by decide) (by decide)) (fun _ => rfl) dX10_readsNet_109 rfl (fun D12 => ?_)
          exact im_vret C rfl dX10_readsNet_110
      · refine im_if_lt C 77 73 dX10_readsNet_70 rfl rfl ?_ ?_
        · refine im_iconst C 78 dX10_readsNet_77 rfl k_ic0 ?_
          exact im_sub [1, 2, 3, 0] [(0, .ref (ad 32 0)), (1, .int o1), (2, .int o5), (3, .int t6.1)] rfl (ht7 (0 : Int32))
        · refine im_iconst C 74 dX10_readsNet_73 rfl k_ic1 ?_
          refine im_goto C 78 dX10_readsNet_74 rfl ?_
          exact im_sub [1, 2, 3, 0] [(0, .ref (ad 32 0)), (1, .int o1), (2, .int o5), (3, .int t6.1)] rfl (ht7 (1 : Int32))
    · refine im_if_ne C 66 48 dX10_readsNet_45 rfl rfl ?_ ?_
      · refine im_iconst C 67 dX10_readsNet_66 rfl k_icm1 ?_
        exact im_sub [1, 2, 0] [(0, .ref (ad 32 0)), (1, .int o1), (2, .int o5)] rfl (ht6 ((-1 : Int32), D4))
      · refine im_iload_n C 49 0 dX10_readsNet_48 rfl rfl rfl ?_
        refine im_iconst C 50 dX10_readsNet_49 rfl k_ic5 ?_
        refine im_bipush C 52 dX10_readsNet_50 rfl k_bp16 ?_
        refine im_cSP C 55 sk_X10_in gw_1066 (c_X10_in (x0 := o5) (x1 := (5 : Int32)) (x2 := (16 : Int32)) hU) (rle rfl) rfl (st := []) rfl (Nat.le_of_ble_eq_true rfl) dX10_readsNet_52 rfl (fun o13 => ?_)
        refine im_if_eq C 66 58 dX10_readsNet_55 rfl rfl ?_ ?_
        · refine im_iconst C 67 dX10_readsNet_66 rfl k_icm1 ?_
          exact im_sub [1, 2, 0] [(0, .ref (ad 32 0)), (1, .int o1), (2, .int o5)] rfl (ht6 ((-1 : Int32), D4))
        · refine im_aload_n C 59 1 dX10_readsNet_58 rfl rfl rfl ?_
          refine im_iload_n C 60 0 dX10_readsNet_59 rfl rfl rfl ?_
          refine im_cVI C 63 vk_X10_places gw_1125 (c_X10_places (x1 := o5) hU h0) (h0 32 (by decide) (by decide)) rfl rfl (rle rfl) rfl (st := []) rfl (Nat.le_of_ble_eq_true rfl) dX10_readsNet_60 rfl (fun o14 => ?_)
          refine im_goto C 67 dX10_readsNet_63 rfl ?_
          exact im_sub [1, 2, 0] [(0, .ref (ad 32 0)), (1, .int o1), (2, .int o5)] rfl (ht6 (o14.1, o14.2))
  · refine im_if_eq C 32 16 dX10_readsNet_13 rfl rfl ?_ ?_
    · refine im_iconst C 33 dX10_readsNet_32 rfl k_ic0 ?_
      exact im_sub [1, 0] [(0, .ref (ad 32 0)), (1, .int o1)] rfl (ht3 (0 : Int32))
    · refine im_aload_n C 17 1 dX10_readsNet_16 rfl rfl rfl ?_
      refine gl_X10_7 C 20 (h0 32 (by decide) (by decide)) dX10_readsNet_17 rfl ?_
      refine im_iload_n C 21 0 dX10_readsNet_20 rfl rfl rfl ?_
      refine im_cSP C 24 sk_X10_net gw_990 (c_X10_net (x0 := o1) hU) (rle rfl) rfl (st := [.ref (ad 33 0), .ref (ad 32 0)]) rfl (Nat.le_of_ble_eq_true rfl) dX10_readsNet_21 rfl (fun o15 => ?_)
      refine im_rdi C 25 170 (h0 33 (by decide) (by decide)) rfl dX10_readsNet_24 rfl (fun v16 => ?_)
      refine im_if_ge C 32 28 dX10_readsNet_25 rfl rfl ?_ ?_
      · refine im_iconst C 33 dX10_readsNet_32 rfl k_ic0 ?_
        exact im_sub [1, 0] [(0, .ref (ad 32 0)), (1, .int o1)] rfl (ht3 (0 : Int32))
      · refine im_iconst C 29 dX10_readsNet_28 rfl k_ic1 ?_
        refine im_goto C 33 dX10_readsNet_29 rfl ?_
        exact im_sub [1, 0] [(0, .ref (ad 32 0)), (1, .int o1)] rfl (ht3 (1 : Int32))
set_option maxRecDepth 100000 in
set_option maxHeartbeats 4000000 in
theorem c_X10_readsHost {l : Launch} {G : va_G} {ad : Nat → Nat → Nat} {U : List (Nat × Nat)} {D : Dt} (hU : Uinj ad U) (h0 : MoU U) : MV l G ad U yX10_readsHost cX10_readsHost 4 (k2_rm 3 64) [.ref (ad 32 0)] D (f_X10_readsHost D) := by
  refine mV_of0 (lv := [(0, .ref (ad 32 0))]) (by decide) hU rfl (Nat.le_of_ble_eq_true rfl) (fun A p e s m args below meth c C => ?_)
  have C : Cx G ad U A p s m meth c args cX10_readsHost RX10 4 none := C
  unfold f_X10_readsHost
  refine im_aload_n C 1 0 dX10_readsHost_0 rfl rfl rfl ?_
  refine im_cVP C 4 vk_X10_number gw_1108 (c_X10_number  hU h0) (h0 32 (by decide) (by decide)) rfl rfl (rle rfl) rfl (st := []) rfl (Nat.le_of_ble_eq_true rfl) dX10_readsHost_1 rfl (fun o1 => ?_)
  refine im_istore_n C 5 [(1, .int o1), (0, .ref (ad 32 0))] dX10_readsHost_4 rfl (by decide) rfl rfl ?_
  refine im_aload_n C 6 1 dX10_readsHost_5 rfl rfl rfl ?_
  refine im_iload_n C 7 0 dX10_readsHost_6 rfl rfl rfl ?_
  refine im_iconst C 8 dX10_readsHost_7 rfl k_ic0 ?_
  refine im_bipush C 10 dX10_readsHost_8 rfl k_bp15 ?_
  refine im_cSP C 13 sk_X10_in gw_1066 (c_X10_in (x0 := o1) (x1 := (0 : Int32)) (x2 := (15 : Int32)) hU) (rle rfl) rfl (st := [.ref (ad 32 0)]) rfl (Nat.le_of_ble_eq_true rfl) dX10_readsHost_10 rfl (fun o2 => ?_)
  refine im_jn 33 (fun t3 => [(0, .ref (ad 32 0)), (1, .int o1)]) (fun t3 => [.int t3, .ref (ad 32 0)]) (fun t3 => D) (fun t3 => j_X10_readsHost_33_t3 D o1 t3) (fun t3 => ?_) (fun ht3 => ?_)
  · unfold j_X10_readsHost_33_t3
    refine im_cVV C 36 vk_X10_takes gw_1100 (c_X10_takes (x1 := t3) hU h0) (h0 32 (by decide) (by decide)) rfl rfl (rle rfl) rfl (st := []) rfl (Nat.le_of_ble_eq_true rfl) dX10_readsHost_33 rfl (fun D4 => ?_)
    refine im_aload_n C 37 0 dX10_readsHost_36 rfl rfl rfl ?_
    refine im_cVP C 40 vk_X10_number gw_1108 (c_X10_number  hU h0) (h0 32 (by decide) (by decide)) rfl rfl (rle rfl) rfl (st := []) rfl (Nat.le_of_ble_eq_true rfl) dX10_readsHost_37 rfl (fun o5 => ?_)
    refine im_istore_n C 41 [(2, .int o5), (0, .ref (ad 32 0)), (1, .int o1)] dX10_readsHost_40 rfl (by decide) rfl rfl ?_
    refine im_aload_n C 42 1 dX10_readsHost_41 rfl rfl rfl ?_
    refine im_iload_n C 43 0 dX10_readsHost_42 rfl rfl rfl ?_
    refine im_iconst C 44 dX10_readsHost_43 rfl k_ic0 ?_
    refine im_bipush C 46 dX10_readsHost_44 rfl k_bp11 ?_
    refine im_cSP C 49 sk_X10_in gw_1066 (c_X10_in (x0 := o5) (x1 := (0 : Int32)) (x2 := (11 : Int32)) hU) (rle rfl) rfl (st := [.ref (ad 32 0)]) rfl (Nat.le_of_ble_eq_true rfl) dX10_readsHost_46 rfl (fun o6 => ?_)
    refine im_jn 69 (fun t7 => [(0, .ref (ad 32 0)), (1, .int o1), (2, .int o5)]) (fun t7 => [.int t7, .ref (ad 32 0)]) (fun t7 => D4) (fun t7 => j_X10_readsHost_69_t7 o1 D4 o5 t7) (fun t7 => ?_) (fun ht7 => ?_)
    · unfold j_X10_readsHost_69_t7
      refine im_cVV C 72 vk_X10_takes gw_1100 (c_X10_takes (x1 := t7) hU h0) (h0 32 (by decide) (by decide)) rfl rfl (rle rfl) rfl (st := []) rfl (Nat.le_of_ble_eq_true rfl) dX10_readsHost_69 rfl (fun D8 => ?_)
      refine im_aload_n C 73 0 dX10_readsHost_72 rfl rfl rfl ?_
      refine gl_X10_118 C 76 (h0 32 (by decide) (by decide)) dX10_readsHost_73 rfl ?_
      refine im_jn 92 (fun t9 => [(0, .ref (ad 32 0)), (1, .int o1), (2, .int o5)]) (fun t9 => [.int t9]) (fun t9 => D8) (fun t9 => j_X10_readsHost_92_t9 o1 o5 D8 t9) (fun t9 => ?_) (fun ht9 => ?_)
      · unfold j_X10_readsHost_92_t9
        refine im_istore_n C 93 [(3, .int t9), (0, .ref (ad 32 0)), (1, .int o1), (2, .int o5)] dX10_readsHost_92 rfl (by decide) rfl rfl ?_
        refine im_iload_n C 94 0 dX10_readsHost_93 rfl rfl rfl ?_
        refine im_jn 117 (fun t10 => [(0, .ref (ad 32 0)), (1, .int o1), (2, .int o5), (3, .int t9)]) (fun t10 => []) (fun t10 => t10) (fun t10 => j_X10_readsHost_117_t10 o1 o5 t9 t10) (fun t10 => ?_) (fun ht10 => ?_)
        · unfold j_X10_readsHost_117_t10
          refine im_aload_n C 118 0 dX10_readsHost_117 rfl rfl rfl ?_
          refine gl_X10_118 C 121 (h0 32 (by decide) (by decide)) dX10_readsHost_118 rfl ?_
          refine im_if_ne C 154 124 dX10_readsHost_121 rfl rfl ?_ ?_
          · exact im_vret C rfl dX10_readsHost_154
          · refine im_aload_n C 125 0 dX10_readsHost_124 rfl rfl rfl ?_
            refine gl_X10_7 C 128 (h0 32 (by decide) (by decide)) dX10_readsHost_125 rfl ?_
            refine im_iload_n C 129 1 dX10_readsHost_128 rfl rfl rfl ?_
            refine im_cSP C 132 sk_X10_hostAt gw_997 (c_X10_hostAt (x0 := o1) hU) (rle rfl) rfl (st := [.ref (ad 33 0)]) rfl (Nat.le_of_ble_eq_true rfl) dX10_readsHost_129 rfl (fun o11 => ?_)
            refine im_iload_n C 133 2 dX10_readsHost_132 rfl rfl rfl ?_
            refine im_wri C 134 170 (h0 33 (by decide) (by decide)) (fun _ => rfl) dX10_readsHost_133 rfl (fun D12 => ?_)
            refine im_aload_n C 135 0 dX10_readsHost_134 rfl rfl rfl ?_
            refine gl_X10_7 C 138 (h0 32 (by decide) (by decide)) dX10_readsHost_135 rfl ?_
            refine im_iload_n C 139 1 dX10_readsHost_138 rfl rfl rfl ?_
            refine im_cSP C 142 sk_X10_hostAt gw_997 (c_X10_hostAt (x0 := o1) hU) (rle rfl) rfl (st := [.ref (ad 33 0)]) rfl (Nat.le_of_ble_eq_true rfl) dX10_readsHost_139 rfl (fun o13 => ?_)
            refine im_iconst C 143 dX10_readsHost_142 rfl k_ic1 ?_
            refine im_iadd C 144 dX10_readsHost_143 rfl ?_
            refine im_iload_n C 145 3 dX10_readsHost_144 rfl rfl rfl ?_
            refine im_if_eq C 152 148 dX10_readsHost_145 rfl rfl ?_ ?_
            · refine im_iconst C 153 dX10_readsHost_152 rfl k_ic0 ?_
              refine im_wri C 154 170 (h0 33 (by decide) (by decide)) (fun _ => rfl) dX10_readsHost_153 rfl (fun D14 => ?_)
              exact im_vret C rfl dX10_readsHost_154
            · refine im_iconst C 149 dX10_readsHost_148 rfl k_ic1 ?_
              refine im_goto C 153 dX10_readsHost_149 rfl ?_
              refine im_wri C 154 170 (h0 33 (by decide) (by decide)) (fun _ => rfl) dX10_readsHost_153 rfl (fun D15 => ?_)
              exact im_vret C rfl dX10_readsHost_154
        · refine im_if_eq C 117 97 dX10_readsHost_94 rfl rfl ?_ ?_
          · exact im_sub [1, 2, 3, 0] [(0, .ref (ad 32 0)), (1, .int o1), (2, .int o5), (3, .int t9)] rfl (ht10 D8)
          · refine im_aload_n C 98 1 dX10_readsHost_97 rfl rfl rfl ?_
            refine im_aload_n C 99 1 dX10_readsHost_98 rfl rfl rfl ?_
            refine gl_X10_99 C 102 (h0 32 (by decide) (by decide)) dX10_readsHost_99 rfl ?_
            refine im_ldc2 C 105 gw_1162 dX10_readsHost_102 rfl ?_
            refine im_lcmp C 106 dX10_readsHost_105 rfl ?_
            refine im_if_ne C 113 109 dX10_readsHost_106 rfl rfl ?_ ?_
            · refine im_iconst C 114 dX10_readsHost_113 rfl k_ic0 ?_
              refine im_cVV C 117 vk_X10_takes gw_1100 (c_X10_takes (x1 := (0 : Int32)) hU h0) (h0 32 (by decide) (by decide)) rfl rfl (rle rfl) rfl (st := []) rfl (Nat.le_of_ble_eq_true rfl) dX10_readsHost_114 rfl (fun D16 => ?_)
              exact im_sub [1, 2, 3, 0] [(0, .ref (ad 32 0)), (1, .int o1), (2, .int o5), (3, .int t9)] rfl (ht10 D16)
            · refine im_iconst C 110 dX10_readsHost_109 rfl k_ic1 ?_
              refine im_goto C 114 dX10_readsHost_110 rfl ?_
              refine im_cVV C 117 vk_X10_takes gw_1100 (c_X10_takes (x1 := (1 : Int32)) hU h0) (h0 32 (by decide) (by decide)) rfl rfl (rle rfl) rfl (st := []) rfl (Nat.le_of_ble_eq_true rfl) dX10_readsHost_114 rfl (fun D17 => ?_)
              exact im_sub [1, 2, 3, 0] [(0, .ref (ad 32 0)), (1, .int o1), (2, .int o5), (3, .int t9)] rfl (ht10 D17)
      · refine im_if_ne C 91 79 dX10_readsHost_76 rfl rfl ?_ ?_
        · refine im_iconst C 92 dX10_readsHost_91 rfl k_ic0 ?_
          exact ht9 (0 : Int32)
        · refine im_aload_n C 80 0 dX10_readsHost_79 rfl rfl rfl ?_
          refine gl_X10_103 C 83 (h0 32 (by decide) (by decide)) dX10_readsHost_80 rfl ?_
          refine im_iconst C 84 dX10_readsHost_83 rfl k_ic1 ?_
          refine im_ic_ne C 91 87 dX10_readsHost_84 rfl rfl ?_ ?_
          · refine im_iconst C 92 dX10_readsHost_91 rfl k_ic0 ?_
            exact ht9 (0 : Int32)
          · refine im_iconst C 88 dX10_readsHost_87 rfl k_ic1 ?_
            refine im_goto C 92 dX10_readsHost_88 rfl ?_
            exact ht9 (1 : Int32)
    · refine im_if_eq C 68 52 dX10_readsHost_49 rfl rfl ?_ ?_
      · refine im_iconst C 69 dX10_readsHost_68 rfl k_ic0 ?_
        exact im_sub [1, 2, 0] [(0, .ref (ad 32 0)), (1, .int o1), (2, .int o5)] rfl (ht7 (0 : Int32))
      · refine im_aload_n C 53 1 dX10_readsHost_52 rfl rfl rfl ?_
        refine gl_X10_7 C 56 (h0 32 (by decide) (by decide)) dX10_readsHost_53 rfl ?_
        refine im_iload_n C 57 0 dX10_readsHost_56 rfl rfl rfl ?_
        refine im_cSP C 60 sk_X10_net gw_990 (c_X10_net (x0 := o5) hU) (rle rfl) rfl (st := [.ref (ad 33 0), .ref (ad 32 0)]) rfl (Nat.le_of_ble_eq_true rfl) dX10_readsHost_57 rfl (fun o18 => ?_)
        refine im_rdi C 61 170 (h0 33 (by decide) (by decide)) rfl dX10_readsHost_60 rfl (fun v19 => ?_)
        refine im_if_lt C 68 64 dX10_readsHost_61 rfl rfl ?_ ?_
        · refine im_iconst C 69 dX10_readsHost_68 rfl k_ic0 ?_
          exact im_sub [1, 2, 0] [(0, .ref (ad 32 0)), (1, .int o1), (2, .int o5)] rfl (ht7 (0 : Int32))
        · refine im_iconst C 65 dX10_readsHost_64 rfl k_ic1 ?_
          refine im_goto C 69 dX10_readsHost_65 rfl ?_
          exact im_sub [1, 2, 0] [(0, .ref (ad 32 0)), (1, .int o1), (2, .int o5)] rfl (ht7 (1 : Int32))
  · refine im_if_eq C 32 16 dX10_readsHost_13 rfl rfl ?_ ?_
    · refine im_iconst C 33 dX10_readsHost_32 rfl k_ic0 ?_
      exact im_sub [1, 0] [(0, .ref (ad 32 0)), (1, .int o1)] rfl (ht3 (0 : Int32))
    · refine im_aload_n C 17 1 dX10_readsHost_16 rfl rfl rfl ?_
      refine gl_X10_7 C 20 (h0 32 (by decide) (by decide)) dX10_readsHost_17 rfl ?_
      refine im_iload_n C 21 0 dX10_readsHost_20 rfl rfl rfl ?_
      refine im_cSP C 24 sk_X10_hostAt gw_997 (c_X10_hostAt (x0 := o1) hU) (rle rfl) rfl (st := [.ref (ad 33 0), .ref (ad 32 0)]) rfl (Nat.le_of_ble_eq_true rfl) dX10_readsHost_21 rfl (fun o20 => ?_)
      refine im_rdi C 25 170 (h0 33 (by decide) (by decide)) rfl dX10_readsHost_24 rfl (fun v21 => ?_)
      refine im_if_ge C 32 28 dX10_readsHost_25 rfl rfl ?_ ?_
      · refine im_iconst C 33 dX10_readsHost_32 rfl k_ic0 ?_
        exact im_sub [1, 0] [(0, .ref (ad 32 0)), (1, .int o1)] rfl (ht3 (0 : Int32))
      · refine im_iconst C 29 dX10_readsHost_28 rfl k_ic1 ?_
        refine im_goto C 33 dX10_readsHost_29 rfl ?_
        exact im_sub [1, 0] [(0, .ref (ad 32 0)), (1, .int o1)] rfl (ht3 (1 : Int32))
set_option maxRecDepth 100000 in
set_option maxHeartbeats 4000000 in
theorem c_X10_readsPolicy {l : Launch} {G : va_G} {ad : Nat → Nat → Nat} {U : List (Nat × Nat)} {D : Dt} (hU : Uinj ad U) (h0 : MoU U) : MV l G ad U yX10_readsPolicy cX10_readsPolicy 2 (k2_rm 3 64) [.ref (ad 32 0)] D (f_X10_readsPolicy D) := by
  refine mV_of0 (lv := [(0, .ref (ad 32 0))]) (by decide) hU rfl (Nat.le_of_ble_eq_true rfl) (fun A p e s m args below meth c C => ?_)
  have C : Cx G ad U A p s m meth c args cX10_readsPolicy RX10 2 none := C
  unfold f_X10_readsPolicy
  refine im_aload_n C 1 0 dX10_readsPolicy_0 rfl rfl rfl ?_
  refine im_cVP C 4 vk_X10_number gw_1108 (c_X10_number  hU h0) (h0 32 (by decide) (by decide)) rfl rfl (rle rfl) rfl (st := []) rfl (Nat.le_of_ble_eq_true rfl) dX10_readsPolicy_1 rfl (fun o1 => ?_)
  refine im_istore_n C 5 [(1, .int o1), (0, .ref (ad 32 0))] dX10_readsPolicy_4 rfl (by decide) rfl rfl ?_
  refine im_aload_n C 6 1 dX10_readsPolicy_5 rfl rfl rfl ?_
  refine im_iload_n C 7 0 dX10_readsPolicy_6 rfl rfl rfl ?_
  refine im_iconst C 8 dX10_readsPolicy_7 rfl k_ic0 ?_
  refine im_iconst C 9 dX10_readsPolicy_8 rfl k_ic3 ?_
  refine im_cSP C 12 sk_X10_in gw_1066 (c_X10_in (x0 := o1) (x1 := (0 : Int32)) (x2 := (3 : Int32)) hU) (rle rfl) rfl (st := [.ref (ad 32 0)]) rfl (Nat.le_of_ble_eq_true rfl) dX10_readsPolicy_9 rfl (fun o2 => ?_)
  refine im_cVV C 15 vk_X10_takes gw_1100 (c_X10_takes (x1 := o2) hU h0) (h0 32 (by decide) (by decide)) rfl rfl (rle rfl) rfl (st := []) rfl (Nat.le_of_ble_eq_true rfl) dX10_readsPolicy_12 rfl (fun D3 => ?_)
  refine im_aload_n C 16 1 dX10_readsPolicy_15 rfl rfl rfl ?_
  refine gl_X10_7 C 19 (h0 32 (by decide) (by decide)) dX10_readsPolicy_16 rfl ?_
  refine im_iconst C 20 dX10_readsPolicy_19 rfl k_ic3 ?_
  refine im_aload_n C 21 1 dX10_readsPolicy_20 rfl rfl rfl ?_
  refine gl_X10_118 C 24 (h0 32 (by decide) (by decide)) dX10_readsPolicy_21 rfl ?_
  refine im_if_eq C 36 27 dX10_readsPolicy_24 rfl rfl ?_ ?_
  · refine im_iload_n C 37 0 dX10_readsPolicy_36 rfl rfl rfl ?_
    refine im_wri C 38 170 (h0 33 (by decide) (by decide)) (fun _ => rfl) dX10_readsPolicy_37 rfl (fun D4 => ?_)
    exact im_vret C rfl dX10_readsPolicy_38
  · refine im_aload_n C 28 1 dX10_readsPolicy_27 rfl rfl rfl ?_
    refine gl_X10_7 C 31 (h0 32 (by decide) (by decide)) dX10_readsPolicy_28 rfl ?_
    refine im_iconst C 32 dX10_readsPolicy_31 rfl k_ic3 ?_
    refine im_rdi C 33 170 (h0 33 (by decide) (by decide)) rfl dX10_readsPolicy_32 rfl (fun v5 => ?_)
    refine im_goto C 37 dX10_readsPolicy_33 rfl ?_
    refine im_wri C 38 170 (h0 33 (by decide) (by decide)) (fun _ => rfl) dX10_readsPolicy_37 rfl (fun D6 => ?_)
    exact im_vret C rfl dX10_readsPolicy_38
set_option maxRecDepth 100000 in
set_option maxHeartbeats 4000000 in
theorem c_X10_readsItem {l : Launch} {G : va_G} {ad : Nat → Nat → Nat} {U : List (Nat × Nat)} {D : Dt} (hU : Uinj ad U) (h0 : MoU U) : MV l G ad U yX10_readsItem cX10_readsItem 3 (k2_rm 7 159) [.ref (ad 32 0)] D (f_X10_readsItem D) := by
  refine mV_of0 (lv := [(0, .ref (ad 32 0))]) (by decide) hU rfl (Nat.le_of_ble_eq_true rfl) (fun A p e s m args below meth c C => ?_)
  have C : Cx G ad U A p s m meth c args cX10_readsItem RX10 3 none := C
  unfold f_X10_readsItem
  refine im_aload_n C 1 0 dX10_readsItem_0 rfl rfl rfl ?_
  refine gl_X10_103 C 4 (h0 32 (by decide) (by decide)) dX10_readsItem_1 rfl ?_
  refine im_iconst C 5 dX10_readsItem_4 rfl k_ic1 ?_
  refine im_jn 18 (fun t1 => [(0, .ref (ad 32 0))]) (fun t1 => [.long t1]) (fun t1 => D) (fun t1 => j_X10_readsItem_18_t1 D t1) (fun t1 => ?_) (fun ht1 => ?_)
  · unfold j_X10_readsItem_18_t1
    refine im_lstore_n C 19 [(1, .long t1), (0, .ref (ad 32 0))] dX10_readsItem_18 rfl (by decide) rfl rfl ?_
    refine im_lload_n C 20 0 dX10_readsItem_19 rfl rfl rfl ?_
    refine im_ldc2 C 23 gw_1099 dX10_readsItem_20 rfl ?_
    refine im_lcmp C 24 dX10_readsItem_23 rfl ?_
    refine im_if_ne C 53 27 dX10_readsItem_24 rfl rfl ?_ ?_
    · refine im_lload_n C 54 0 dX10_readsItem_53 rfl rfl rfl ?_
      refine im_ldc2 C 57 gw_1120 dX10_readsItem_54 rfl ?_
      refine im_lcmp C 58 dX10_readsItem_57 rfl ?_
      refine im_if_ne C 73 61 dX10_readsItem_58 rfl rfl ?_ ?_
      · refine im_lload_n C 74 0 dX10_readsItem_73 rfl rfl rfl ?_
        refine im_ldc2 C 77 gw_1157 dX10_readsItem_74 rfl ?_
        refine im_lcmp C 78 dX10_readsItem_77 rfl ?_
        refine im_if_ne C 93 81 dX10_readsItem_78 rfl rfl ?_ ?_
        · refine im_aload_n C 94 1 dX10_readsItem_93 rfl rfl rfl ?_
          refine im_lload_n C 95 0 dX10_readsItem_94 rfl rfl rfl ?_
          refine im_ldc2 C 98 gw_1163 dX10_readsItem_95 rfl ?_
          refine im_lcmp C 99 dX10_readsItem_98 rfl ?_
          refine im_jn 107 (fun t2 => [(0, .ref (ad 32 0))]) (fun t2 => [.int t2, .ref (ad 32 0)]) (fun t2 => D) (fun t2 => j_X10_readsItem_107_t2 D t2) (fun t2 => ?_) (fun ht2 => ?_)
          · unfold j_X10_readsItem_107_t2
            refine im_cVV C 110 vk_X10_takes gw_1100 (c_X10_takes (x1 := t2) hU h0) (h0 32 (by decide) (by decide)) rfl rfl (rle rfl) rfl (st := []) rfl (Nat.le_of_ble_eq_true rfl) dX10_readsItem_107 rfl (fun D3 => ?_)
            refine im_aload_n C 111 0 dX10_readsItem_110 rfl rfl rfl ?_
            refine im_cVV C 114 vk_X10_readsPolicy gw_1164 (c_X10_readsPolicy  hU h0) (h0 32 (by decide) (by decide)) rfl rfl (rle rfl) rfl (st := []) rfl (Nat.le_of_ble_eq_true rfl) dX10_readsItem_111 rfl (fun D4 => ?_)
            refine im_aload_n C 115 0 dX10_readsItem_114 rfl rfl rfl ?_
            refine im_aload_n C 116 0 dX10_readsItem_115 rfl rfl rfl ?_
            refine gl_X10_103 C 119 (h0 32 (by decide) (by decide)) dX10_readsItem_116 rfl ?_
            refine im_iconst C 120 dX10_readsItem_119 rfl k_ic3 ?_
            refine im_ic_ne C 127 123 dX10_readsItem_120 rfl rfl ?_ ?_
            · refine im_iconst C 128 dX10_readsItem_127 rfl k_ic0 ?_
              refine im_cVV C 131 vk_X10_takes gw_1100 (c_X10_takes (x1 := (0 : Int32)) hU h0) (h0 32 (by decide) (by decide)) rfl rfl (rle rfl) rfl (st := []) rfl (Nat.le_of_ble_eq_true rfl) dX10_readsItem_128 rfl (fun D5 => ?_)
              exact im_vret C rfl dX10_readsItem_131
            · refine im_iconst C 124 dX10_readsItem_123 rfl k_ic1 ?_
              refine im_goto C 128 dX10_readsItem_124 rfl ?_
              refine im_cVV C 131 vk_X10_takes gw_1100 (c_X10_takes (x1 := (1 : Int32)) hU h0) (h0 32 (by decide) (by decide)) rfl rfl (rle rfl) rfl (st := []) rfl (Nat.le_of_ble_eq_true rfl) dX10_readsItem_128 rfl (fun D6 => ?_)
              exact im_vret C rfl dX10_readsItem_131
          · refine im_if_ne C 106 102 dX10_readsItem_99 rfl rfl ?_ ?_
            · refine im_iconst C 107 dX10_readsItem_106 rfl k_ic0 ?_
              exact im_sub [1] [(0, .ref (ad 32 0))] rfl (ht2 (0 : Int32))
            · refine im_iconst C 103 dX10_readsItem_102 rfl k_ic1 ?_
              refine im_goto C 107 dX10_readsItem_103 rfl ?_
              exact im_sub [1] [(0, .ref (ad 32 0))] rfl (ht2 (1 : Int32))
        · refine im_aload_n C 82 1 dX10_readsItem_81 rfl rfl rfl ?_
          refine im_iconst C 83 dX10_readsItem_82 rfl k_ic1 ?_
          refine im_cVV C 86 vk_X10_takes gw_1100 (c_X10_takes (x1 := (1 : Int32)) hU h0) (h0 32 (by decide) (by decide)) rfl rfl (rle rfl) rfl (st := []) rfl (Nat.le_of_ble_eq_true rfl) dX10_readsItem_83 rfl (fun D7 => ?_)
          refine im_aload_n C 87 1 dX10_readsItem_86 rfl rfl rfl ?_
          refine im_cVV C 90 vk_X10_readsHost gw_1158 (c_X10_readsHost  hU h0) (h0 32 (by decide) (by decide)) rfl rfl (rle rfl) rfl (st := []) rfl (Nat.le_of_ble_eq_true rfl) dX10_readsItem_87 rfl (fun D8 => ?_)
          refine im_goto C 114 dX10_readsItem_90 rfl ?_
          refine im_aload_n C 115 1 dX10_readsItem_114 rfl rfl rfl ?_
          refine im_aload_n C 116 1 dX10_readsItem_115 rfl rfl rfl ?_
          refine gl_X10_103 C 119 (h0 32 (by decide) (by decide)) dX10_readsItem_116 rfl ?_
          refine im_iconst C 120 dX10_readsItem_119 rfl k_ic3 ?_
          refine im_ic_ne C 127 123 dX10_readsItem_120 rfl rfl ?_ ?_
          · refine im_iconst C 128 dX10_readsItem_127 rfl k_ic0 ?_
            refine im_cVV C 131 vk_X10_takes gw_1100 (c_X10_takes (x1 := (0 : Int32)) hU h0) (h0 32 (by decide) (by decide)) rfl rfl (rle rfl) rfl (st := []) rfl (Nat.le_of_ble_eq_true rfl) dX10_readsItem_128 rfl (fun D9 => ?_)
            exact im_vret C rfl dX10_readsItem_131
          · refine im_iconst C 124 dX10_readsItem_123 rfl k_ic1 ?_
            refine im_goto C 128 dX10_readsItem_124 rfl ?_
            refine im_cVV C 131 vk_X10_takes gw_1100 (c_X10_takes (x1 := (1 : Int32)) hU h0) (h0 32 (by decide) (by decide)) rfl rfl (rle rfl) rfl (st := []) rfl (Nat.le_of_ble_eq_true rfl) dX10_readsItem_128 rfl (fun D10 => ?_)
            exact im_vret C rfl dX10_readsItem_131
      · refine im_aload_n C 62 1 dX10_readsItem_61 rfl rfl rfl ?_
        refine im_iconst C 63 dX10_readsItem_62 rfl k_ic1 ?_
        refine im_cVV C 66 vk_X10_takes gw_1100 (c_X10_takes (x1 := (1 : Int32)) hU h0) (h0 32 (by decide) (by decide)) rfl rfl (rle rfl) rfl (st := []) rfl (Nat.le_of_ble_eq_true rfl) dX10_readsItem_63 rfl (fun D11 => ?_)
        refine im_aload_n C 67 1 dX10_readsItem_66 rfl rfl rfl ?_
        refine im_cVV C 70 vk_X10_readsNet gw_1121 (c_X10_readsNet  hU h0) (h0 32 (by decide) (by decide)) rfl rfl (rle rfl) rfl (st := []) rfl (Nat.le_of_ble_eq_true rfl) dX10_readsItem_67 rfl (fun D12 => ?_)
        refine im_goto C 114 dX10_readsItem_70 rfl ?_
        refine im_aload_n C 115 1 dX10_readsItem_114 rfl rfl rfl ?_
        refine im_aload_n C 116 1 dX10_readsItem_115 rfl rfl rfl ?_
        refine gl_X10_103 C 119 (h0 32 (by decide) (by decide)) dX10_readsItem_116 rfl ?_
        refine im_iconst C 120 dX10_readsItem_119 rfl k_ic3 ?_
        refine im_ic_ne C 127 123 dX10_readsItem_120 rfl rfl ?_ ?_
        · refine im_iconst C 128 dX10_readsItem_127 rfl k_ic0 ?_
          refine im_cVV C 131 vk_X10_takes gw_1100 (c_X10_takes (x1 := (0 : Int32)) hU h0) (h0 32 (by decide) (by decide)) rfl rfl (rle rfl) rfl (st := []) rfl (Nat.le_of_ble_eq_true rfl) dX10_readsItem_128 rfl (fun D13 => ?_)
          exact im_vret C rfl dX10_readsItem_131
        · refine im_iconst C 124 dX10_readsItem_123 rfl k_ic1 ?_
          refine im_goto C 128 dX10_readsItem_124 rfl ?_
          refine im_cVV C 131 vk_X10_takes gw_1100 (c_X10_takes (x1 := (1 : Int32)) hU h0) (h0 32 (by decide) (by decide)) rfl rfl (rle rfl) rfl (st := []) rfl (Nat.le_of_ble_eq_true rfl) dX10_readsItem_128 rfl (fun D14 => ?_)
          exact im_vret C rfl dX10_readsItem_131
    · refine im_aload_n C 28 1 dX10_readsItem_27 rfl rfl rfl ?_
      refine im_aload_n C 29 1 dX10_readsItem_28 rfl rfl rfl ?_
      refine gl_X10_7 C 32 (h0 32 (by decide) (by decide)) dX10_readsItem_29 rfl ?_
      refine im_iconst C 33 dX10_readsItem_32 rfl k_ic5 ?_
      refine im_rdi C 34 170 (h0 33 (by decide) (by decide)) rfl dX10_readsItem_33 rfl (fun v15 => ?_)
      refine im_iconst C 35 dX10_readsItem_34 rfl k_ic4 ?_
      refine im_jn 43 (fun t16 => [(0, .ref (ad 32 0))]) (fun t16 => [.int t16, .ref (ad 32 0)]) (fun t16 => D) (fun t16 => j_X10_readsItem_43_t16 D t16) (fun t16 => ?_) (fun ht16 => ?_)
      · unfold j_X10_readsItem_43_t16
        refine im_cVV C 46 vk_X10_takes gw_1100 (c_X10_takes (x1 := t16) hU h0) (h0 32 (by decide) (by decide)) rfl rfl (rle rfl) rfl (st := []) rfl (Nat.le_of_ble_eq_true rfl) dX10_readsItem_43 rfl (fun D17 => ?_)
        refine im_aload_n C 47 0 dX10_readsItem_46 rfl rfl rfl ?_
        refine im_cVV C 50 vk_X10_readsPool gw_1104 (c_X10_readsPool  hU h0) (h0 32 (by decide) (by decide)) rfl rfl (rle rfl) rfl (st := []) rfl (Nat.le_of_ble_eq_true rfl) dX10_readsItem_47 rfl (fun D18 => ?_)
        refine im_goto C 114 dX10_readsItem_50 rfl ?_
        refine im_aload_n C 115 0 dX10_readsItem_114 rfl rfl rfl ?_
        refine im_aload_n C 116 0 dX10_readsItem_115 rfl rfl rfl ?_
        refine gl_X10_103 C 119 (h0 32 (by decide) (by decide)) dX10_readsItem_116 rfl ?_
        refine im_iconst C 120 dX10_readsItem_119 rfl k_ic3 ?_
        refine im_ic_ne C 127 123 dX10_readsItem_120 rfl rfl ?_ ?_
        · refine im_iconst C 128 dX10_readsItem_127 rfl k_ic0 ?_
          refine im_cVV C 131 vk_X10_takes gw_1100 (c_X10_takes (x1 := (0 : Int32)) hU h0) (h0 32 (by decide) (by decide)) rfl rfl (rle rfl) rfl (st := []) rfl (Nat.le_of_ble_eq_true rfl) dX10_readsItem_128 rfl (fun D19 => ?_)
          exact im_vret C rfl dX10_readsItem_131
        · refine im_iconst C 124 dX10_readsItem_123 rfl k_ic1 ?_
          refine im_goto C 128 dX10_readsItem_124 rfl ?_
          refine im_cVV C 131 vk_X10_takes gw_1100 (c_X10_takes (x1 := (1 : Int32)) hU h0) (h0 32 (by decide) (by decide)) rfl rfl (rle rfl) rfl (st := []) rfl (Nat.le_of_ble_eq_true rfl) dX10_readsItem_128 rfl (fun D20 => ?_)
          exact im_vret C rfl dX10_readsItem_131
      · refine im_ic_ge C 42 38 dX10_readsItem_35 rfl rfl ?_ ?_
        · refine im_iconst C 43 dX10_readsItem_42 rfl k_ic0 ?_
          exact im_sub [1] [(0, .ref (ad 32 0))] rfl (ht16 (0 : Int32))
        · refine im_iconst C 39 dX10_readsItem_38 rfl k_ic1 ?_
          refine im_goto C 43 dX10_readsItem_39 rfl ?_
          exact im_sub [1] [(0, .ref (ad 32 0))] rfl (ht16 (1 : Int32))
  · refine im_ic_ne C 15 8 dX10_readsItem_5 rfl rfl ?_ ?_
    · refine im_ldc2 C 18 gw_1091 dX10_readsItem_15 rfl ?_
      exact ht1 (-1 : Int64)
    · refine im_aload_n C 9 0 dX10_readsItem_8 rfl rfl rfl ?_
      refine gl_X10_99 C 12 (h0 32 (by decide) (by decide)) dX10_readsItem_9 rfl ?_
      refine im_goto C 18 dX10_readsItem_12 rfl ?_
      exact ht1 (mkL (D 32 0 13) (D 32 0 113))
set_option maxRecDepth 100000 in
set_option maxHeartbeats 4000000 in
theorem c_X10_load {l : Launch} {G : va_G} {ad : Nat → Nat → Nat} {U : List (Nat × Nat)} {D : Dt} (hU : Uinj ad U) (h0 : MoU U) : MI l G ad U yX10_load cX10_load 2 .int (k2_rm 8 181) [.ref (ad 32 0)] D (f_X10_load D) := by
  refine mI_of0 (lv := [(0, .ref (ad 32 0))]) (by decide) hU rfl (Nat.le_of_ble_eq_true rfl) (fun A p e s m args below meth c C => ?_)
  have C : Cx G ad U A p s m meth c args cX10_load RX10 2 (some .int) := C
  unfold f_X10_load
  refine im_aload_n C 1 0 dX10_load_0 rfl rfl rfl ?_
  refine im_cVV C 4 vk_X10_keepsApart gw_1077 (c_X10_keepsApart  hU h0) (h0 32 (by decide) (by decide)) rfl rfl (rle rfl) rfl (st := []) rfl (Nat.le_of_ble_eq_true rfl) dX10_load_1 rfl (fun D1 => ?_)
  refine im_aload_n C 5 0 dX10_load_4 rfl rfl rfl ?_
  refine im_cVV C 8 vk_X10_empties gw_986 (c_X10_empties  hU h0) (h0 32 (by decide) (by decide)) rfl rfl (rle rfl) rfl (st := []) rfl (Nat.le_of_ble_eq_true rfl) dX10_load_5 rfl (fun D2 => ?_)
  refine im_aload_n C 9 0 dX10_load_8 rfl rfl rfl ?_
  refine im_iconst C 10 dX10_load_9 rfl k_ic0 ?_
  refine pl_X10_89 C 13 (h0 32 (by decide) (by decide)) dX10_load_10 rfl (fun D3 => ?_)
  refine im_aload_n C 14 0 dX10_load_13 rfl rfl rfl ?_
  refine im_iconst C 15 dX10_load_14 rfl k_ic0 ?_
  refine im_gd (fun hg => ?_)
  refine pl_X10_118 C 18 (h0 32 (by decide) (by decide)) hg dX10_load_15 rfl (fun D4 => ?_)
  refine im_iconst C 19 dX10_load_18 rfl k_ic0 ?_
  refine im_istore_n C 20 [(1, .int (0 : Int32)), (0, .ref (ad 32 0))] dX10_load_19 rfl (by decide) rfl rfl ?_
  refine im_aload_n C 21 1 dX10_load_20 rfl rfl rfl ?_
  refine im_cVV C 24 vk_X10_readsToken gw_1081 (c_X10_readsToken  hU h0) (h0 32 (by decide) (by decide)) rfl rfl (rle rfl) rfl (st := []) rfl (Nat.le_of_ble_eq_true rfl) dX10_load_21 rfl (fun D5 => ?_)
  refine im_sub [1, 0] [(0, .ref (ad 32 0)), (1, .int (0 : Int32))] rfl ?_
  refine im_lpB l_X10_load_24 (fun z24 => [(0, .ref (ad 32 0)), (1, .int z24.1)]) (fun z24 => z24.2) 48 (fun e6 => [(0, .ref (ad 32 0)), (1, .int e6.1)]) (fun e6 => e6.2) (fun e6 => ?_) (fun z24 X_z24 hX_z24 hE_z24 => ?_) FU ((0 : Int32), D5)
  · refine im_aload_n C 49 0 dX10_load_48 rfl rfl rfl ?_
    refine im_cVV C 52 vk_X10_exchanges gw_1168 (c_X10_exchanges  hU h0) (h0 32 (by decide) (by decide)) rfl rfl (rle rfl) rfl (st := []) rfl (Nat.le_of_ble_eq_true rfl) dX10_load_49 rfl (fun D8 => ?_)
    refine im_aload_n C 53 0 dX10_load_52 rfl rfl rfl ?_
    refine gl_X10_118 C 56 (h0 32 (by decide) (by decide)) dX10_load_53 rfl ?_
    refine im_if_eq C 67 59 dX10_load_56 rfl rfl ?_ ?_
    · refine im_aload_n C 68 0 dX10_load_67 rfl rfl rfl ?_
      refine im_cVV C 71 vk_X10_note gw_1172 (c_X10_note  hU h0) (h0 32 (by decide) (by decide)) rfl rfl (rle rfl) rfl (st := []) rfl (Nat.le_of_ble_eq_true rfl) dX10_load_68 rfl (fun D9 => ?_)
      refine im_aload_n C 72 0 dX10_load_71 rfl rfl rfl ?_
      refine im_cVV C 75 vk_X10_exchanges gw_1168 (c_X10_exchanges  hU h0) (h0 32 (by decide) (by decide)) rfl rfl (rle rfl) rfl (st := []) rfl (Nat.le_of_ble_eq_true rfl) dX10_load_72 rfl (fun D10 => ?_)
      refine im_aload_n C 76 0 dX10_load_75 rfl rfl rfl ?_
      refine im_iconst C 77 dX10_load_76 rfl k_ic0 ?_
      refine pl_X10_86 C 80 (h0 32 (by decide) (by decide)) dX10_load_77 rfl (fun D11 => ?_)
      refine im_iload_n C 81 1 dX10_load_80 rfl rfl rfl ?_
      exact im_iret C rfl rfl dX10_load_81
    · refine im_bipush C 61 dX10_load_59 rfl k_bpm10 ?_
      refine im_aload_n C 62 0 dX10_load_61 rfl rfl rfl ?_
      refine gl_X10_96 C 65 (h0 32 (by decide) (by decide)) dX10_load_62 rfl ?_
      refine im_isub C 66 dX10_load_65 rfl ?_
      exact im_iret C rfl rfl dX10_load_66
  · unfold l_X10_load_24
    refine im_aload_n C 25 0 dX10_load_24 rfl rfl rfl ?_
    refine gl_X10_118 C 28 (h0 32 (by decide) (by decide)) dX10_load_25 rfl ?_
    refine im_if_ne C 48 31 dX10_load_28 rfl rfl ?_ ?_
    · exact hE_z24 (z24.1, z24.2)
    · refine im_aload_n C 32 0 dX10_load_31 rfl rfl rfl ?_
      refine gl_X10_103 C 35 (h0 32 (by decide) (by decide)) dX10_load_32 rfl ?_
      refine im_if_eq C 48 38 dX10_load_35 rfl rfl ?_ ?_
      · exact hE_z24 (z24.1, z24.2)
      · refine im_aload_n C 39 0 dX10_load_38 rfl rfl rfl ?_
        refine im_cVV C 42 vk_X10_readsItem gw_1095 (c_X10_readsItem  hU h0) (h0 32 (by decide) (by decide)) rfl rfl (rle rfl) rfl (st := []) rfl (Nat.le_of_ble_eq_true rfl) dX10_load_39 rfl (fun D7 => ?_)
        refine im_iinc C 45 1 [(1, .int (z24.1 + (1 : Int32))), (0, .ref (ad 32 0))] dX10_load_42 rfl (k_inc1) (by decide) rfl rfl ?_
        refine im_goto C 24 dX10_load_45 rfl ?_
        exact im_sub [1, 0] [(0, .ref (ad 32 0)), (1, .int (z24.1 + (1 : Int32)))] rfl (hX_z24 (z24.1 + (1 : Int32), D7))
set_option maxRecDepth 100000 in
set_option maxHeartbeats 4000000 in
theorem c_X10_addPool {l : Launch} {G : va_G} {ad : Nat → Nat → Nat} {U : List (Nat × Nat)} {D : Dt} {x1 : Int32} {x2 : Int32} (hU : Uinj ad U) (h0 : MoU U) : MI l G ad U yX10_addPool cX10_addPool 3 .int (k2_rm 2 45) [.ref (ad 32 0), .int x1, .int x2] D (f_X10_addPool x1 x2 D) := by
  refine mI_of0 (lv := [(0, .ref (ad 32 0)), (1, .int x1), (2, .int x2)]) (by decide) hU rfl (Nat.le_of_ble_eq_true rfl) (fun A p e s m args below meth c C => ?_)
  have C : Cx G ad U A p s m meth c args cX10_addPool RX10 3 (some .int) := C
  unfold f_X10_addPool
  refine im_iload_n C 1 1 dX10_addPool_0 rfl rfl rfl ?_
  refine im_iconst C 2 dX10_addPool_1 rfl k_ic0 ?_
  refine im_ldc C 4 gw_1112 dX10_addPool_2 rfl ?_
  refine im_cSP C 7 sk_X10_in gw_1066 (c_X10_in (x0 := x1) (x1 := (0 : Int32)) (x2 := (65535 : Int32)) hU) (rle rfl) rfl (st := []) rfl (Nat.le_of_ble_eq_true rfl) dX10_addPool_4 rfl (fun o1 => ?_)
  refine im_if_eq C 29 10 dX10_addPool_7 rfl rfl ?_ ?_
  · refine im_iconst C 30 dX10_addPool_29 rfl k_icm1 ?_
    exact im_iret C rfl rfl dX10_addPool_30
  · refine im_iload_n C 11 2 dX10_addPool_10 rfl rfl rfl ?_
    refine im_iconst C 12 dX10_addPool_11 rfl k_ic4 ?_
    refine im_bipush C 14 dX10_addPool_12 rfl k_bp14 ?_
    refine im_cSP C 17 sk_X10_in gw_1066 (c_X10_in (x0 := x2) (x1 := (4 : Int32)) (x2 := (14 : Int32)) hU) (rle rfl) rfl (st := []) rfl (Nat.le_of_ble_eq_true rfl) dX10_addPool_14 rfl (fun o2 => ?_)
    refine im_if_eq C 29 20 dX10_addPool_17 rfl rfl ?_ ?_
    · refine im_iconst C 30 dX10_addPool_29 rfl k_icm1 ?_
      exact im_iret C rfl rfl dX10_addPool_30
    · refine im_iload_n C 21 1 dX10_addPool_20 rfl rfl rfl ?_
      refine im_iload_n C 22 2 dX10_addPool_21 rfl rfl rfl ?_
      refine im_cSP C 25 sk_X10_size gw_1113 (c_X10_size (x0 := x2) hU) (rle rfl) rfl (st := [.int x1]) rfl (Nat.le_of_ble_eq_true rfl) dX10_addPool_22 rfl (fun o3 => ?_)
      refine im_irem C 26 dX10_addPool_25 rfl ?_
      refine im_if_eq C 31 29 dX10_addPool_26 rfl rfl ?_ ?_
      · refine im_aload_n C 32 0 dX10_addPool_31 rfl rfl rfl ?_
        refine im_iload_n C 33 1 dX10_addPool_32 rfl rfl rfl ?_
        refine im_iload_n C 34 2 dX10_addPool_33 rfl rfl rfl ?_
        refine im_cVP C 37 vk_X10_touchesPool gw_1116 (c_X10_touchesPool (x1 := x1) (x2 := x2) hU h0) (h0 32 (by decide) (by decide)) rfl rfl (rle rfl) rfl (st := []) rfl (Nat.le_of_ble_eq_true rfl) dX10_addPool_34 rfl (fun o4 => ?_)
        refine im_if_eq C 43 40 dX10_addPool_37 rfl rfl ?_ ?_
        · refine im_aload_n C 44 0 dX10_addPool_43 rfl rfl rfl ?_
          refine gl_X10_7 C 47 (h0 32 (by decide) (by decide)) dX10_addPool_44 rfl ?_
          refine im_iconst C 48 dX10_addPool_47 rfl k_ic5 ?_
          refine im_rdi C 49 170 (h0 33 (by decide) (by decide)) rfl dX10_addPool_48 rfl (fun v5 => ?_)
          refine im_iconst C 50 dX10_addPool_49 rfl k_ic4 ?_
          refine im_ic_ne C 56 53 dX10_addPool_50 rfl rfl ?_ ?_
          · refine im_aload_n C 57 0 dX10_addPool_56 rfl rfl rfl ?_
            refine im_cVV C 60 vk_X10_note gw_1172 (c_X10_note  hU h0) (h0 32 (by decide) (by decide)) rfl rfl (rle rfl) rfl (st := []) rfl (Nat.le_of_ble_eq_true rfl) dX10_addPool_57 rfl (fun D6 => ?_)
            refine im_aload_n C 61 0 dX10_addPool_60 rfl rfl rfl ?_
            refine gl_X10_7 C 64 (h0 32 (by decide) (by decide)) dX10_addPool_61 rfl ?_
            refine im_bipush C 66 dX10_addPool_64 rfl k_bp6 ?_
            refine im_iconst C 67 dX10_addPool_66 rfl k_ic2 ?_
            refine im_aload_n C 68 0 dX10_addPool_67 rfl rfl rfl ?_
            refine gl_X10_7 C 71 (h0 32 (by decide) (by decide)) dX10_addPool_68 rfl ?_
            refine im_iconst C 72 dX10_addPool_71 rfl k_ic5 ?_
            refine im_rdi C 73 170 (h0 33 (by decide) (by decide)) rfl dX10_addPool_72 rfl (fun v7 => ?_)
            refine im_imul C 74 dX10_addPool_73 rfl ?_
            refine im_iadd C 75 dX10_addPool_74 rfl ?_
            refine im_iload_n C 76 1 dX10_addPool_75 rfl rfl rfl ?_
            refine im_wri C 77 170 (h0 33 (by decide) (by decide)) (fun _ => rfl) dX10_addPool_76 rfl (fun D8 => ?_)
            refine im_aload_n C 78 0 dX10_addPool_77 rfl rfl rfl ?_
            refine gl_X10_7 C 81 (h0 32 (by decide) (by decide)) dX10_addPool_78 rfl ?_
            refine im_bipush C 83 dX10_addPool_81 rfl k_bp6 ?_
            refine im_iconst C 84 dX10_addPool_83 rfl k_ic2 ?_
            refine im_aload_n C 85 0 dX10_addPool_84 rfl rfl rfl ?_
            refine gl_X10_7 C 88 (h0 32 (by decide) (by decide)) dX10_addPool_85 rfl ?_
            refine im_iconst C 89 dX10_addPool_88 rfl k_ic5 ?_
            refine im_rdi C 90 170 (h0 33 (by decide) (by decide)) rfl dX10_addPool_89 rfl (fun v9 => ?_)
            refine im_imul C 91 dX10_addPool_90 rfl ?_
            refine im_iadd C 92 dX10_addPool_91 rfl ?_
            refine im_iconst C 93 dX10_addPool_92 rfl k_ic1 ?_
            refine im_iadd C 94 dX10_addPool_93 rfl ?_
            refine im_iload_n C 95 2 dX10_addPool_94 rfl rfl rfl ?_
            refine im_wri C 96 170 (h0 33 (by decide) (by decide)) (fun _ => rfl) dX10_addPool_95 rfl (fun D10 => ?_)
            refine im_aload_n C 97 0 dX10_addPool_96 rfl rfl rfl ?_
            refine gl_X10_7 C 100 (h0 32 (by decide) (by decide)) dX10_addPool_97 rfl ?_
            refine im_iconst C 101 dX10_addPool_100 rfl k_ic5 ?_
            refine im_dup2 C 102 dX10_addPool_101 rfl rfl rfl ?_
            refine im_rdi C 103 170 (h0 33 (by decide) (by decide)) rfl dX10_addPool_102 rfl (fun v11 => ?_)
            refine im_iconst C 104 dX10_addPool_103 rfl k_ic1 ?_
            refine im_iadd C 105 dX10_addPool_104 rfl ?_
            refine im_wri C 106 170 (h0 33 (by decide) (by decide)) (fun _ => rfl) dX10_addPool_105 rfl (fun D12 => ?_)
            refine im_aload_n C 107 0 dX10_addPool_106 rfl rfl rfl ?_
            refine gl_X10_7 C 110 (h0 32 (by decide) (by decide)) dX10_addPool_107 rfl ?_
            refine im_iconst C 111 dX10_addPool_110 rfl k_ic5 ?_
            refine im_rdi C 112 170 (h0 33 (by decide) (by decide)) rfl dX10_addPool_111 rfl (fun v13 => ?_)
            refine im_iconst C 113 dX10_addPool_112 rfl k_ic1 ?_
            refine im_isub C 114 dX10_addPool_113 rfl ?_
            exact im_iret C rfl rfl dX10_addPool_114
          · refine im_bipush C 55 dX10_addPool_53 rfl k_bpm3 ?_
            exact im_iret C rfl rfl dX10_addPool_55
        · refine im_bipush C 42 dX10_addPool_40 rfl k_bpm2 ?_
          exact im_iret C rfl rfl dX10_addPool_42
      · refine im_iconst C 30 dX10_addPool_29 rfl k_icm1 ?_
        exact im_iret C rfl rfl dX10_addPool_30
