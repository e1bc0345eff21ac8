set_option maxRecDepth 100000 in
set_option maxHeartbeats 8000000 in
theorem c_X1_init {l : Launch} {G : va_G} {cy : Nat → Nat → Nat} {h0 : Nat} : MK l G cy yX1_init cX1_init 2 ({ frames := 4, cells := 97, slots := 1116, locals := 83 } : Room) h0 (.inr (1, [.null, .int 0, .int 0])) [] (tr1 cy) := by
  refine mK_of (lv := [(0, .ref h0)]) (by decide) rfl rfl (Nat.le_of_ble_eq_true rfl) (fun A p e s m args below meth c C hin hAO => ?_)
  have C : Cx G cy [] A p s m meth c args cX1_init RX1 2 none := C
  refine ik_aload_n C 1 0 dX1_init_0 rfl rfl rfl ?_
  refine ik_obj C 4 gw_204 ⟨Nat.le_of_ble_eq_true rfl, Nat.le_of_ble_eq_true rfl⟩ dX1_init_1 rfl ?_
  refine ik_aload_n C 5 0 dX1_init_4 rfl rfl rfl ?_
  refine ik_bipush C 7 dX1_init_5 rfl k_bp6 ?_
  refine ik_new_State C hAO 10 6 gw_205 rfl (by decide) ⟨Nat.le_of_ble_eq_true rfl, Nat.le_of_ble_eq_true rfl⟩ dX1_init_7 rfl (fun g => ?_)
  refine ik_putF C hin 13 0 0 [(h0, .inr (1, [.ref g, .int 0, .int 0])), (g, .inl (cy 100 3, 6, .inr (.inr (.inr (.inr (fun _ => none))))))] ui_1 tyX1 tyX1_ok nmX1 rfl rfl (by decide) gw_208 rfl rfl rfl rfl rfl (Nat.le_of_ble_eq_true rfl) rfl dX1_init_10 rfl ?_
  refine ik_iconst C 14 dX1_init_13 rfl k_ic0 ?_
  refine ik_istore_n C 15 [(1, .int (0 : Int32)), (0, .ref h0)] dX1_init_14 rfl (by decide) rfl rfl ?_
  refine ik_iload_n C 16 0 dX1_init_15 rfl rfl rfl ?_
  refine ik_bipush C 18 dX1_init_16 rfl k_bp6 ?_
  refine ik_icge C 40 21 dX1_init_18 rfl rfl (fun hx => absurd hx (by decide)) (fun _ => ?_)
  refine ik_aload_n C 22 1 dX1_init_21 rfl rfl rfl ?_
  refine ik_get C 25 0 0 ui_1 rfl rfl (by decide) gw_208 rfl dX1_init_22 rfl ?_
  refine ik_iload_n C 26 0 dX1_init_25 rfl rfl rfl ?_
  refine ik_new C 29 (ci := 6) (fs := [.null, .null, .int 0, .int 0, .int 0, .int 0]) ui_6 tyX6 tyX6_ok gw_205 gw_58 gw_3 rfl df_6 ⟨Nat.le_of_ble_eq_true rfl, Nat.le_of_ble_eq_true rfl⟩ dX1_init_26 rfl (fun q0 => ?_)
  refine ik_dup C 30 dX1_init_29 rfl rfl ?_
  refine ik_ctor C hAO 33 kk_6 gw_207 c_X6_init ⟨Nat.le_of_ble_eq_true rfl, Nat.le_of_ble_eq_true rfl⟩ rfl (st := [.ref q0, .int (0 : Int32), .ref g]) rfl (Nat.le_of_ble_eq_true rfl) ⟨Nat.le_of_ble_eq_true rfl, Nat.le_of_ble_eq_true rfl⟩ dX1_init_30 rfl (fun a0 ha0 => ?_)
  subst ha0
  refine ik_astr C 34 1 2 6 0 ((h0, .inr (1, [.ref g, .int 0, .int 0])) :: (g, .inl (cy 100 3, 6, .inr (.inr (.inr (.inr (va_up (fun _ => none) 0 (some (a0 0)))))))) :: ([] ++ tr6 cy a0)) rfl rfl rfl (by decide) (by decide) (by decide) rfl dX1_init_33 rfl ?_
  refine ik_iinc C 37 0 [(1, .int ((0 : Int32) + (1 : Int32))), (0, .ref h0)] dX1_init_34 rfl k_inc1 (by decide) rfl rfl ?_
  refine ik_goto C 15 dX1_init_37 rfl ?_
  refine ik_iload_n C 16 0 dX1_init_15 rfl rfl rfl ?_
  refine ik_bipush C 18 dX1_init_16 rfl k_bp6 ?_
  refine ik_icge C 40 21 dX1_init_18 rfl rfl (fun hx => absurd hx (by decide)) (fun _ => ?_)
  refine ik_aload_n C 22 1 dX1_init_21 rfl rfl rfl ?_
  refine ik_get C 25 0 0 ui_1 rfl rfl (by decide) gw_208 rfl dX1_init_22 rfl ?_
  refine ik_iload_n C 26 0 dX1_init_25 rfl rfl rfl ?_
  refine ik_new C 29 (ci := 6) (fs := [.null, .null, .int 0, .int 0, .int 0, .int 0]) ui_6 tyX6 tyX6_ok gw_205 gw_58 gw_3 rfl df_6 ⟨Nat.le_of_ble_eq_true rfl, Nat.le_of_ble_eq_true rfl⟩ dX1_init_26 rfl (fun q1 => ?_)
  refine ik_dup C 30 dX1_init_29 rfl rfl ?_
  refine ik_ctor C hAO 33 kk_6 gw_207 c_X6_init ⟨Nat.le_of_ble_eq_true rfl, Nat.le_of_ble_eq_true rfl⟩ rfl (st := [.ref q1, .int ((0 : Int32) + (1 : Int32)), .ref g]) rfl (Nat.le_of_ble_eq_true rfl) ⟨Nat.le_of_ble_eq_true rfl, Nat.le_of_ble_eq_true rfl⟩ dX1_init_30 rfl (fun a1 ha1 => ?_)
  subst ha1
  refine ik_astr C 34 1 18 6 1 ((h0, .inr (1, [.ref g, .int 0, .int 0])) :: (g, .inl (cy 100 3, 6, .inr (.inr (.inr (.inr (va_up (va_up (fun _ => none) 0 (some (a0 0))) 1 (some (a1 0)))))))) :: (([] ++ tr6 cy a0) ++ tr6 cy a1)) rfl rfl rfl (by decide) (by decide) (by decide) rfl dX1_init_33 rfl ?_
  refine ik_iinc C 37 0 [(1, .int (((0 : Int32) + (1 : Int32)) + (1 : Int32))), (0, .ref h0)] dX1_init_34 rfl k_inc1 (by decide) rfl rfl ?_
  refine ik_goto C 15 dX1_init_37 rfl ?_
  refine ik_iload_n C 16 0 dX1_init_15 rfl rfl rfl ?_
  refine ik_bipush C 18 dX1_init_16 rfl k_bp6 ?_
  refine ik_icge C 40 21 dX1_init_18 rfl rfl (fun hx => absurd hx (by decide)) (fun _ => ?_)
  refine ik_aload_n C 22 1 dX1_init_21 rfl rfl rfl ?_
  refine ik_get C 25 0 0 ui_1 rfl rfl (by decide) gw_208 rfl dX1_init_22 rfl ?_
  refine ik_iload_n C 26 0 dX1_init_25 rfl rfl rfl ?_
  refine ik_new C 29 (ci := 6) (fs := [.null, .null, .int 0, .int 0, .int 0, .int 0]) ui_6 tyX6 tyX6_ok gw_205 gw_58 gw_3 rfl df_6 ⟨Nat.le_of_ble_eq_true rfl, Nat.le_of_ble_eq_true rfl⟩ dX1_init_26 rfl (fun q2 => ?_)
  refine ik_dup C 30 dX1_init_29 rfl rfl ?_
  refine ik_ctor C hAO 33 kk_6 gw_207 c_X6_init ⟨Nat.le_of_ble_eq_true rfl, Nat.le_of_ble_eq_true rfl⟩ rfl (st := [.ref q2, .int (((0 : Int32) + (1 : Int32)) + (1 : Int32)), .ref g]) rfl (Nat.le_of_ble_eq_true rfl) ⟨Nat.le_of_ble_eq_true rfl, Nat.le_of_ble_eq_true rfl⟩ dX1_init_30 rfl (fun a2 ha2 => ?_)
  subst ha2
  refine ik_astr C 34 1 34 6 2 ((h0, .inr (1, [.ref g, .int 0, .int 0])) :: (g, .inl (cy 100 3, 6, .inr (.inr (.inr (.inr (va_up (va_up (va_up (fun _ => none) 0 (some (a0 0))) 1 (some (a1 0))) 2 (some (a2 0)))))))) :: ((([] ++ tr6 cy a0) ++ tr6 cy a1) ++ tr6 cy a2)) rfl rfl rfl (by decide) (by decide) (by decide) rfl dX1_init_33 rfl ?_
  refine ik_iinc C 37 0 [(1, .int ((((0 : Int32) + (1 : Int32)) + (1 : Int32)) + (1 : Int32))), (0, .ref h0)] dX1_init_34 rfl k_inc1 (by decide) rfl rfl ?_
  refine ik_goto C 15 dX1_init_37 rfl ?_
  refine ik_iload_n C 16 0 dX1_init_15 rfl rfl rfl ?_
  refine ik_bipush C 18 dX1_init_16 rfl k_bp6 ?_
  refine ik_icge C 40 21 dX1_init_18 rfl rfl (fun hx => absurd hx (by decide)) (fun _ => ?_)
  refine ik_aload_n C 22 1 dX1_init_21 rfl rfl rfl ?_
  refine ik_get C 25 0 0 ui_1 rfl rfl (by decide) gw_208 rfl dX1_init_22 rfl ?_
  refine ik_iload_n C 26 0 dX1_init_25 rfl rfl rfl ?_
  refine ik_new C 29 (ci := 6) (fs := [.null, .null, .int 0, .int 0, .int 0, .int 0]) ui_6 tyX6 tyX6_ok gw_205 gw_58 gw_3 rfl df_6 ⟨Nat.le_of_ble_eq_true rfl, Nat.le_of_ble_eq_true rfl⟩ dX1_init_26 rfl (fun q3 => ?_)
  refine ik_dup C 30 dX1_init_29 rfl rfl ?_
  refine ik_ctor C hAO 33 kk_6 gw_207 c_X6_init ⟨Nat.le_of_ble_eq_true rfl, Nat.le_of_ble_eq_true rfl⟩ rfl (st := [.ref q3, .int ((((0 : Int32) + (1 : Int32)) + (1 : Int32)) + (1 : Int32)), .ref g]) rfl (Nat.le_of_ble_eq_true rfl) ⟨Nat.le_of_ble_eq_true rfl, Nat.le_of_ble_eq_true rfl⟩ dX1_init_30 rfl (fun a3 ha3 => ?_)
  subst ha3
  refine ik_astr C 34 1 50 6 3 ((h0, .inr (1, [.ref g, .int 0, .int 0])) :: (g, .inl (cy 100 3, 6, .inr (.inr (.inr (.inr (va_up (va_up (va_up (va_up (fun _ => none) 0 (some (a0 0))) 1 (some (a1 0))) 2 (some (a2 0))) 3 (some (a3 0)))))))) :: (((([] ++ tr6 cy a0) ++ tr6 cy a1) ++ tr6 cy a2) ++ tr6 cy a3)) rfl rfl rfl (by decide) (by decide) (by decide) rfl dX1_init_33 rfl ?_
  refine ik_iinc C 37 0 [(1, .int (((((0 : Int32) + (1 : Int32)) + (1 : Int32)) + (1 : Int32)) + (1 : Int32))), (0, .ref h0)] dX1_init_34 rfl k_inc1 (by decide) rfl rfl ?_
  refine ik_goto C 15 dX1_init_37 rfl ?_
  refine ik_iload_n C 16 0 dX1_init_15 rfl rfl rfl ?_
  refine ik_bipush C 18 dX1_init_16 rfl k_bp6 ?_
  refine ik_icge C 40 21 dX1_init_18 rfl rfl (fun hx => absurd hx (by decide)) (fun _ => ?_)
  refine ik_aload_n C 22 1 dX1_init_21 rfl rfl rfl ?_
  refine ik_get C 25 0 0 ui_1 rfl rfl (by decide) gw_208 rfl dX1_init_22 rfl ?_
  refine ik_iload_n C 26 0 dX1_init_25 rfl rfl rfl ?_
  refine ik_new C 29 (ci := 6) (fs := [.null, .null, .int 0, .int 0, .int 0, .int 0]) ui_6 tyX6 tyX6_ok gw_205 gw_58 gw_3 rfl df_6 ⟨Nat.le_of_ble_eq_true rfl, Nat.le_of_ble_eq_true rfl⟩ dX1_init_26 rfl (fun q4 => ?_)
  refine ik_dup C 30 dX1_init_29 rfl rfl ?_
  refine ik_ctor C hAO 33 kk_6 gw_207 c_X6_init ⟨Nat.le_of_ble_eq_true rfl, Nat.le_of_ble_eq_true rfl⟩ rfl (st := [.ref q4, .int (((((0 : Int32) + (1 : Int32)) + (1 : Int32)) + (1 : Int32)) + (1 : Int32)), .ref g]) rfl (Nat.le_of_ble_eq_true rfl) ⟨Nat.le_of_ble_eq_true rfl, Nat.le_of_ble_eq_true rfl⟩ dX1_init_30 rfl (fun a4 ha4 => ?_)
  subst ha4
  refine ik_astr C 34 1 66 6 4 ((h0, .inr (1, [.ref g, .int 0, .int 0])) :: (g, .inl (cy 100 3, 6, .inr (.inr (.inr (.inr (va_up (va_up (va_up (va_up (va_up (fun _ => none) 0 (some (a0 0))) 1 (some (a1 0))) 2 (some (a2 0))) 3 (some (a3 0))) 4 (some (a4 0)))))))) :: ((((([] ++ tr6 cy a0) ++ tr6 cy a1) ++ tr6 cy a2) ++ tr6 cy a3) ++ tr6 cy a4)) rfl rfl rfl (by decide) (by decide) (by decide) rfl dX1_init_33 rfl ?_
  refine ik_iinc C 37 0 [(1, .int ((((((0 : Int32) + (1 : Int32)) + (1 : Int32)) + (1 : Int32)) + (1 : Int32)) + (1 : Int32))), (0, .ref h0)] dX1_init_34 rfl k_inc1 (by decide) rfl rfl ?_
  refine ik_goto C 15 dX1_init_37 rfl ?_
  refine ik_iload_n C 16 0 dX1_init_15 rfl rfl rfl ?_
  refine ik_bipush C 18 dX1_init_16 rfl k_bp6 ?_
  refine ik_icge C 40 21 dX1_init_18 rfl rfl (fun hx => absurd hx (by decide)) (fun _ => ?_)
  refine ik_aload_n C 22 1 dX1_init_21 rfl rfl rfl ?_
  refine ik_get C 25 0 0 ui_1 rfl rfl (by decide) gw_208 rfl dX1_init_22 rfl ?_
  refine ik_iload_n C 26 0 dX1_init_25 rfl rfl rfl ?_
  refine ik_new C 29 (ci := 6) (fs := [.null, .null, .int 0, .int 0, .int 0, .int 0]) ui_6 tyX6 tyX6_ok gw_205 gw_58 gw_3 rfl df_6 ⟨Nat.le_of_ble_eq_true rfl, Nat.le_of_ble_eq_true rfl⟩ dX1_init_26 rfl (fun q5 => ?_)
  refine ik_dup C 30 dX1_init_29 rfl rfl ?_
  refine ik_ctor C hAO 33 kk_6 gw_207 c_X6_init ⟨Nat.le_of_ble_eq_true rfl, Nat.le_of_ble_eq_true rfl⟩ rfl (st := [.ref q5, .int ((((((0 : Int32) + (1 : Int32)) + (1 : Int32)) + (1 : Int32)) + (1 : Int32)) + (1 : Int32)), .ref g]) rfl (Nat.le_of_ble_eq_true rfl) ⟨Nat.le_of_ble_eq_true rfl, Nat.le_of_ble_eq_true rfl⟩ dX1_init_30 rfl (fun a5 ha5 => ?_)
  subst ha5
  refine ik_astr C 34 1 82 6 5 ((h0, .inr (1, [.ref g, .int 0, .int 0])) :: (g, .inl (cy 100 3, 6, .inr (.inr (.inr (.inr (va_up (va_up (va_up (va_up (va_up (va_up (fun _ => none) 0 (some (a0 0))) 1 (some (a1 0))) 2 (some (a2 0))) 3 (some (a3 0))) 4 (some (a4 0))) 5 (some (a5 0)))))))) :: (((((([] ++ tr6 cy a0) ++ tr6 cy a1) ++ tr6 cy a2) ++ tr6 cy a3) ++ tr6 cy a4) ++ tr6 cy a5)) rfl rfl rfl (by decide) (by decide) (by decide) rfl dX1_init_33 rfl ?_
  refine ik_iinc C 37 0 [(1, .int (((((((0 : Int32) + (1 : Int32)) + (1 : Int32)) + (1 : Int32)) + (1 : Int32)) + (1 : Int32)) + (1 : Int32))), (0, .ref h0)] dX1_init_34 rfl k_inc1 (by decide) rfl rfl ?_
  refine ik_goto C 15 dX1_init_37 rfl ?_
  refine ik_iload_n C 16 0 dX1_init_15 rfl rfl rfl ?_
  refine ik_bipush C 18 dX1_init_16 rfl k_bp6 ?_
  refine ik_icge C 40 21 dX1_init_18 rfl rfl (fun _ => ?_) (fun hx => absurd (by decide) hx)
  refine ik_arr 1 (x' := (6, .inr (.inr (.inr (.inr (fun j => some (adH cy (fun i => if i = 0 then h0 else if i = 1 then g else if i < 18 then a0 (i - 2) else if i < 34 then a1 (i - 18) else if i < 50 then a2 (i - 34) else if i < 66 then a3 (i - 50) else if i < 82 then a4 (i - 66) else if i < 98 then a5 (i - 82) else 0) 0 (2 + j)))))))) (ws' := ((h0, .inr (1, [.ref g, .int 0, .int 0])) :: (g, .inl (cy 100 3, 6, .inr (.inr (.inr (.inr (fun j => some (adH cy (fun i => if i = 0 then h0 else if i = 1 then g else if i < 18 then a0 (i - 2) else if i < 34 then a1 (i - 18) else if i < 50 then a2 (i - 34) else if i < 66 then a3 (i - 50) else if i < 82 then a4 (i - 66) else if i < 98 then a5 (i - 82) else 0) 0 (2 + j)))))))) :: (((((([] ++ tr6 cy a0) ++ tr6 cy a1) ++ tr6 cy a2) ++ tr6 cy a3) ++ tr6 cy a4) ++ tr6 cy a5))) rfl (vp_ref (fun j hj => by rcases (show j = 0 ∨ j = 1 ∨ j = 2 ∨ j = 3 ∨ j = 4 ∨ j = 5 by omega) with rfl | rfl | rfl | rfl | rfl | rfl <;> rfl)) rfl ?_
  exact ik_ret C (tr := tr1 cy) (fun i => if i = 0 then h0 else if i = 1 then g else if i < 18 then a0 (i - 2) else if i < 34 then a1 (i - 18) else if i < 50 then a2 (i - 34) else if i < 66 then a3 (i - 50) else if i < 82 then a4 (i - 66) else if i < 98 then a5 (i - 82) else 0) rfl (by simp only [tr6, tr1, uH]; rfl) dX1_init_40
set_option maxRecDepth 100000 in
set_option maxHeartbeats 8000000 in
theorem c_X10_init {l : Launch} {G : va_G} {cy : Nat → Nat → Nat} {h0 : Nat} : MK l G cy yX10_init cX10_init 1 ({ frames := 3, cells := 7, slots := 3146, locals := 62 } : Room) h0 (.inr (10, [.null, .null, .int 0, .null, .int 0, .null, .null, .null, .int 0, .int 0, .int 0, .int 0, .int 0, .long 0, .int 0, .int 0, .int 0, .null, .int 0])) [] (tr10 cy) := by
  refine mK_of (lv := [(0, .ref h0)]) (by decide) rfl rfl (Nat.le_of_ble_eq_true rfl) (fun A p e s m args below meth c C hin hAO => ?_)
  have C : Cx G cy [] A p s m meth c args cX10_init RX10 1 none := C
  refine ik_aload_n C 1 0 dX10_init_0 rfl rfl rfl ?_
  refine ik_obj C 4 gw_985 ⟨Nat.le_of_ble_eq_true rfl, Nat.le_of_ble_eq_true rfl⟩ dX10_init_1 rfl ?_
  refine ik_aload_n C 5 0 dX10_init_4 rfl rfl rfl ?_
  refine ik_sipush C 8 dX10_init_5 rfl k_sp170 ?_
  refine ik_new_int C 10 170 rfl (by decide) ⟨Nat.le_of_ble_eq_true rfl, Nat.le_of_ble_eq_true rfl⟩ dX10_init_8 rfl (fun q1 => ?_)
  refine ik_putF C hin 13 0 0 ((h0, .inr (10, [.ref q1, .null, .int 0, .null, .int 0, .null, .null, .null, .int 0, .int 0, .int 0, .int 0, .int 0, .long 0, .int 0, .int 0, .int 0, .null, .int 0])) :: ([] ++ [(q1, .inl (cy 100 0, 170, .inl (fun _ => 0)))])) ui_10 tyX10 tyX10_ok nmX10 rfl rfl (by decide) gw_1000 rfl rfl rfl rfl rfl (Nat.le_of_ble_eq_true rfl) rfl dX10_init_10 rfl ?_
  refine ik_aload_n C 14 0 dX10_init_13 rfl rfl rfl ?_
  refine ik_sipush C 17 dX10_init_14 rfl k_sp1020 ?_
  refine ik_new_int C 19 1020 rfl (by decide) ⟨Nat.le_of_ble_eq_true rfl, Nat.le_of_ble_eq_true rfl⟩ dX10_init_17 rfl (fun q2 => ?_)
  refine ik_putF C hin 22 1 0 ((h0, .inr (10, [.ref q1, .ref q2, .int 0, .null, .int 0, .null, .null, .null, .int 0, .int 0, .int 0, .int 0, .int 0, .long 0, .int 0, .int 0, .int 0, .null, .int 0])) :: (([] ++ [(q1, .inl (cy 100 0, 170, .inl (fun _ => 0)))]) ++ [(q2, .inl (cy 100 0, 1020, .inl (fun _ => 0)))])) ui_10 tyX10 tyX10_ok nmX10 rfl rfl (by decide) gw_1001 rfl rfl rfl rfl rfl (Nat.le_of_ble_eq_true rfl) rfl dX10_init_19 rfl ?_
  refine ik_aload_n C 23 0 dX10_init_22 rfl rfl rfl ?_
  refine ik_sipush C 26 dX10_init_23 rfl k_sp150 ?_
  refine ik_new_byte C 28 150 rfl (by decide) ⟨Nat.le_of_ble_eq_true rfl, Nat.le_of_ble_eq_true rfl⟩ dX10_init_26 rfl (fun q3 => ?_)
  refine ik_putF C hin 31 3 0 ((h0, .inr (10, [.ref q1, .ref q2, .int 0, .ref q3, .int 0, .null, .null, .null, .int 0, .int 0, .int 0, .int 0, .int 0, .long 0, .int 0, .int 0, .int 0, .null, .int 0])) :: ((([] ++ [(q1, .inl (cy 100 0, 170, .inl (fun _ => 0)))]) ++ [(q2, .inl (cy 100 0, 1020, .inl (fun _ => 0)))]) ++ [(q3, .inl (cy 100 1, 150, .inl (fun _ => 0)))])) ui_10 tyX10 tyX10_ok nmX10 rfl rfl (by decide) gw_1003 rfl rfl rfl rfl rfl (Nat.le_of_ble_eq_true rfl) rfl dX10_init_28 rfl ?_
  refine ik_aload_n C 32 0 dX10_init_31 rfl rfl rfl ?_
  refine ik_sipush C 35 dX10_init_32 rfl k_sp170 ?_
  refine ik_new_int C 37 170 rfl (by decide) ⟨Nat.le_of_ble_eq_true rfl, Nat.le_of_ble_eq_true rfl⟩ dX10_init_35 rfl (fun q4 => ?_)
  refine ik_putF C hin 40 5 0 ((h0, .inr (10, [.ref q1, .ref q2, .int 0, .ref q3, .int 0, .ref q4, .null, .null, .int 0, .int 0, .int 0, .int 0, .int 0, .long 0, .int 0, .int 0, .int 0, .null, .int 0])) :: (((([] ++ [(q1, .inl (cy 100 0, 170, .inl (fun _ => 0)))]) ++ [(q2, .inl (cy 100 0, 1020, .inl (fun _ => 0)))]) ++ [(q3, .inl (cy 100 1, 150, .inl (fun _ => 0)))]) ++ [(q4, .inl (cy 100 0, 170, .inl (fun _ => 0)))])) ui_10 tyX10 tyX10_ok nmX10 rfl rfl (by decide) gw_1005 rfl rfl rfl rfl rfl (Nat.le_of_ble_eq_true rfl) rfl dX10_init_37 rfl ?_
  refine ik_aload_n C 41 0 dX10_init_40 rfl rfl rfl ?_
  refine ik_sipush C 44 dX10_init_41 rfl k_sp800 ?_
  refine ik_new_int C 46 800 rfl (by decide) ⟨Nat.le_of_ble_eq_true rfl, Nat.le_of_ble_eq_true rfl⟩ dX10_init_44 rfl (fun q5 => ?_)
  refine ik_putF C hin 49 6 0 ((h0, .inr (10, [.ref q1, .ref q2, .int 0, .ref q3, .int 0, .ref q4, .ref q5, .null, .int 0, .int 0, .int 0, .int 0, .int 0, .long 0, .int 0, .int 0, .int 0, .null, .int 0])) :: ((((([] ++ [(q1, .inl (cy 100 0, 170, .inl (fun _ => 0)))]) ++ [(q2, .inl (cy 100 0, 1020, .inl (fun _ => 0)))]) ++ [(q3, .inl (cy 100 1, 150, .inl (fun _ => 0)))]) ++ [(q4, .inl (cy 100 0, 170, .inl (fun _ => 0)))]) ++ [(q5, .inl (cy 100 0, 800, .inl (fun _ => 0)))])) ui_10 tyX10 tyX10_ok nmX10 rfl rfl (by decide) gw_1006 rfl rfl rfl rfl rfl (Nat.le_of_ble_eq_true rfl) rfl dX10_init_46 rfl ?_
  refine ik_aload_n C 50 0 dX10_init_49 rfl rfl rfl ?_
  refine ik_sipush C 53 dX10_init_50 rfl k_sp800 ?_
  refine ik_new_int C 55 800 rfl (by decide) ⟨Nat.le_of_ble_eq_true rfl, Nat.le_of_ble_eq_true rfl⟩ dX10_init_53 rfl (fun q6 => ?_)
  refine ik_putF C hin 58 7 0 ((h0, .inr (10, [.ref q1, .ref q2, .int 0, .ref q3, .int 0, .ref q4, .ref q5, .ref q6, .int 0, .int 0, .int 0, .int 0, .int 0, .long 0, .int 0, .int 0, .int 0, .null, .int 0])) :: (((((([] ++ [(q1, .inl (cy 100 0, 170, .inl (fun _ => 0)))]) ++ [(q2, .inl (cy 100 0, 1020, .inl (fun _ => 0)))]) ++ [(q3, .inl (cy 100 1, 150, .inl (fun _ => 0)))]) ++ [(q4, .inl (cy 100 0, 170, .inl (fun _ => 0)))]) ++ [(q5, .inl (cy 100 0, 800, .inl (fun _ => 0)))]) ++ [(q6, .inl (cy 100 0, 800, .inl (fun _ => 0)))])) ui_10 tyX10 tyX10_ok nmX10 rfl rfl (by decide) gw_1007 rfl rfl rfl rfl rfl (Nat.le_of_ble_eq_true rfl) rfl dX10_init_55 rfl ?_
  refine ik_aload_n C 59 0 dX10_init_58 rfl rfl rfl ?_
  refine ik_bipush C 61 dX10_init_59 rfl k_bp36 ?_
  refine ik_new_int C 63 36 rfl (by decide) ⟨Nat.le_of_ble_eq_true rfl, Nat.le_of_ble_eq_true rfl⟩ dX10_init_61 rfl (fun q7 => ?_)
  refine ik_putF C hin 66 17 0 ((h0, .inr (10, [.ref q1, .ref q2, .int 0, .ref q3, .int 0, .ref q4, .ref q5, .ref q6, .int 0, .int 0, .int 0, .int 0, .int 0, .long 0, .int 0, .int 0, .int 0, .ref q7, .int 0])) :: ((((((([] ++ [(q1, .inl (cy 100 0, 170, .inl (fun _ => 0)))]) ++ [(q2, .inl (cy 100 0, 1020, .inl (fun _ => 0)))]) ++ [(q3, .inl (cy 100 1, 150, .inl (fun _ => 0)))]) ++ [(q4, .inl (cy 100 0, 170, .inl (fun _ => 0)))]) ++ [(q5, .inl (cy 100 0, 800, .inl (fun _ => 0)))]) ++ [(q6, .inl (cy 100 0, 800, .inl (fun _ => 0)))]) ++ [(q7, .inl (cy 100 0, 36, .inl (fun _ => 0)))])) ui_10 tyX10 tyX10_ok nmX10 rfl rfl (by decide) gw_1017 rfl rfl rfl rfl rfl (Nat.le_of_ble_eq_true rfl) rfl dX10_init_63 rfl ?_
  refine ik_aload_n C 67 0 dX10_init_66 rfl rfl rfl ?_
  refine ik_eq (ws' := wl (adB cy (fun i => if i = 0 then h0 else if i = 1 then q1 else if i = 2 then q2 else if i = 3 then q3 else if i = 4 then q4 else if i = 5 then q5 else if i = 6 then q6 else if i = 7 then q7 else 0) 32) [(32, 0), (33, 0), (34, 0), (35, 0), (36, 0), (37, 0), (38, 0), (39, 0)] Dz) rfl ?_
  refine ik_cV C 70 (ad := (adB cy (fun i => if i = 0 then h0 else if i = 1 then q1 else if i = 2 then q2 else if i = 3 then q3 else if i = 4 then q4 else if i = 5 then q5 else if i = 6 then q6 else if i = 7 then q7 else 0) 32)) (U := [(32, 0), (33, 0), (34, 0), (35, 0), (36, 0), (37, 0), (38, 0), (39, 0)]) (D := Dz) (D1 := r_10) (kd := 32) (b := 0) vk_X10_empties gw_986 (fun hU => c_X10_empties hU kg_Mo) r_10_ok rfl rfl rfl (by decide) rfl rfl (rle2 rfl) rfl (st := []) rfl (Nat.le_of_ble_eq_true rfl) ⟨Nat.le_of_ble_eq_true rfl, Nat.le_of_ble_eq_true rfl⟩ dX10_init_67 rfl ?_
  refine ik_eq (wl_congr (ad := (adB cy (fun i => if i = 0 then h0 else if i = 1 then q1 else if i = 2 then q2 else if i = 3 then q3 else if i = 4 then q4 else if i = 5 then q5 else if i = 6 then q6 else if i = 7 then q7 else 0) 32)) r_10_eq) ?_
  exact ik_ret C (tr := tr10 cy) (fun i => if i = 0 then h0 else if i = 1 then q1 else if i = 2 then q2 else if i = 3 then q3 else if i = 4 then q4 else if i = 5 then q5 else if i = 6 then q6 else if i = 7 then q7 else 0) rfl rfl dX10_init_70
