set_option maxRecDepth 100000 in
set_option maxHeartbeats 8000000 in
theorem c_X9_init {l : Launch} {G : va_G} {cy : Nat → Nat → Nat} {h0 : Nat} : MK l G cy yX9_init cX9_init 1 ({ frames := 5, cells := 166, slots := 4277, locals := 104 } : Room) h0 (.inr (9, [.null, .null, .null, .null, .null, .null, .null, .null])) [] (tr9 cy) := by
  refine mK_of (lv := [(0, .ref h0)]) (by decide) rfl rfl (Nat.le_of_ble_eq_true rfl) (fun A p e s m args below meth c C hin hAO => ?_)
  have C : Cx G cy [] A p s m meth c args cX9_init RX9 1 none := C
  refine ik_aload_n C 1 0 dX9_init_0 rfl rfl rfl ?_
  refine ik_obj C 4 gw_24 ⟨Nat.le_of_ble_eq_true rfl, Nat.le_of_ble_eq_true rfl⟩ dX9_init_1 rfl ?_
  refine ik_aload_n C 5 0 dX9_init_4 rfl rfl rfl ?_
  refine ik_new C 8 (ci := 8) (fs := [.null, .int 0, .int 0, .int 0, .int 0, .int 0]) ui_8 tyX8 tyX8_ok gw_27 gw_28 gw_2 rfl df_8 ⟨Nat.le_of_ble_eq_true rfl, Nat.le_of_ble_eq_true rfl⟩ dX9_init_5 rfl (fun q1 => ?_)
  refine ik_dup C 9 dX9_init_8 rfl rfl ?_
  refine ik_ctorN C hAO 12 kk_8 gw_29 (c_X8_init) ⟨Nat.le_of_ble_eq_true rfl, Nat.le_of_ble_eq_true rfl⟩ rfl (st := [.ref q1, .ref h0]) rfl (Nat.le_of_ble_eq_true rfl) ⟨Nat.le_of_ble_eq_true rfl, Nat.le_of_ble_eq_true rfl⟩ dX9_init_9 rfl (fun a2 ha2 => ?_)
  subst ha2
  refine ik_putF C hin 15 0 0 ((h0, .inr (9, [.ref (a2 0), .null, .null, .null, .null, .null, .null, .null])) :: ([] ++ tr8 cy a2)) ui_9 tyX9 tyX9_ok nmX9 rfl rfl (by decide) gw_328 rfl rfl rfl rfl rfl (Nat.le_of_ble_eq_true rfl) rfl dX9_init_12 rfl ?_
  refine ik_aload_n C 16 0 dX9_init_15 rfl rfl rfl ?_
  refine ik_new C 19 (ci := 6) (fs := [.null, .null, .int 0, .int 0, .int 0, .int 0]) ui_6 tyX6 tyX6_ok gw_57 gw_58 gw_3 rfl df_6 ⟨Nat.le_of_ble_eq_true rfl, Nat.le_of_ble_eq_true rfl⟩ dX9_init_16 rfl (fun q3 => ?_)
  refine ik_dup C 20 dX9_init_19 rfl rfl ?_
  refine ik_ctor C hAO 23 kk_6 gw_59 (c_X6_init) ⟨Nat.le_of_ble_eq_true rfl, Nat.le_of_ble_eq_true rfl⟩ rfl (st := [.ref q3, .ref h0]) rfl (Nat.le_of_ble_eq_true rfl) ⟨Nat.le_of_ble_eq_true rfl, Nat.le_of_ble_eq_true rfl⟩ dX9_init_20 rfl (fun a4 ha4 => ?_)
  subst ha4
  refine ik_putF C hin 26 1 0 ((h0, .inr (9, [.ref (a2 0), .ref (a4 0), .null, .null, .null, .null, .null, .null])) :: (([] ++ tr8 cy a2) ++ tr6 cy a4)) ui_9 tyX9 tyX9_ok nmX9 rfl rfl (by decide) gw_329 rfl rfl rfl rfl rfl (Nat.le_of_ble_eq_true rfl) rfl dX9_init_23 rfl ?_
  refine ik_aload_n C 27 0 dX9_init_26 rfl rfl rfl ?_
  refine ik_new C 30 (ci := 6) (fs := [.null, .null, .int 0, .int 0, .int 0, .int 0]) ui_6 tyX6 tyX6_ok gw_57 gw_58 gw_3 rfl df_6 ⟨Nat.le_of_ble_eq_true rfl, Nat.le_of_ble_eq_true rfl⟩ dX9_init_27 rfl (fun q5 => ?_)
  refine ik_dup C 31 dX9_init_30 rfl rfl ?_
  refine ik_ctor C hAO 34 kk_6 gw_59 (c_X6_init) ⟨Nat.le_of_ble_eq_true rfl, Nat.le_of_ble_eq_true rfl⟩ rfl (st := [.ref q5, .ref h0]) rfl (Nat.le_of_ble_eq_true rfl) ⟨Nat.le_of_ble_eq_true rfl, Nat.le_of_ble_eq_true rfl⟩ dX9_init_31 rfl (fun a6 ha6 => ?_)
  subst ha6
  refine ik_putF C hin 37 2 0 ((h0, .inr (9, [.ref (a2 0), .ref (a4 0), .ref (a6 0), .null, .null, .null, .null, .null])) :: ((([] ++ tr8 cy a2) ++ tr6 cy a4) ++ tr6 cy a6)) ui_9 tyX9 tyX9_ok nmX9 rfl rfl (by decide) gw_330 rfl rfl rfl rfl rfl (Nat.le_of_ble_eq_true rfl) rfl dX9_init_34 rfl ?_
  refine ik_aload_n C 38 0 dX9_init_37 rfl rfl rfl ?_
  refine ik_new C 41 (ci := 1) (fs := [.null, .int 0, .int 0]) ui_1 tyX1 tyX1_ok gw_199 gw_200 gw_7 rfl df_1 ⟨Nat.le_of_ble_eq_true rfl, Nat.le_of_ble_eq_true rfl⟩ dX9_init_38 rfl (fun q7 => ?_)
  refine ik_dup C 42 dX9_init_41 rfl rfl ?_
  refine ik_ctor C hAO 45 kk_1 gw_201 (c_X1_init) ⟨Nat.le_of_ble_eq_true rfl, Nat.le_of_ble_eq_true rfl⟩ rfl (st := [.ref q7, .ref h0]) rfl (Nat.le_of_ble_eq_true rfl) ⟨Nat.le_of_ble_eq_true rfl, Nat.le_of_ble_eq_true rfl⟩ dX9_init_42 rfl (fun a8 ha8 => ?_)
  subst ha8
  refine ik_putF C hin 48 3 0 ((h0, .inr (9, [.ref (a2 0), .ref (a4 0), .ref (a6 0), .ref (a8 0), .null, .null, .null, .null])) :: (((([] ++ tr8 cy a2) ++ tr6 cy a4) ++ tr6 cy a6) ++ tr1 cy a8)) ui_9 tyX9 tyX9_ok nmX9 rfl rfl (by decide) gw_331 rfl rfl rfl rfl rfl (Nat.le_of_ble_eq_true rfl) rfl dX9_init_45 rfl ?_
  refine ik_aload_n C 49 0 dX9_init_48 rfl rfl rfl ?_
  refine ik_new C 52 (ci := 7) (fs := [.null, .null, .int 0, .null]) ui_7 tyX7 tyX7_ok gw_219 gw_220 gw_8 rfl df_7 ⟨Nat.le_of_ble_eq_true rfl, Nat.le_of_ble_eq_true rfl⟩ dX9_init_49 rfl (fun q9 => ?_)
  refine ik_dup C 53 dX9_init_52 rfl rfl ?_
  refine ik_ctorN C hAO 56 kk_7 gw_221 (c_X7_init) ⟨Nat.le_of_ble_eq_true rfl, Nat.le_of_ble_eq_true rfl⟩ rfl (st := [.ref q9, .ref h0]) rfl (Nat.le_of_ble_eq_true rfl) ⟨Nat.le_of_ble_eq_true rfl, Nat.le_of_ble_eq_true rfl⟩ dX9_init_53 rfl (fun a10 ha10 => ?_)
  subst ha10
  refine ik_putF C hin 59 4 0 ((h0, .inr (9, [.ref (a2 0), .ref (a4 0), .ref (a6 0), .ref (a8 0), .ref (a10 0), .null, .null, .null])) :: ((((([] ++ tr8 cy a2) ++ tr6 cy a4) ++ tr6 cy a6) ++ tr1 cy a8) ++ tr7 cy a10)) ui_9 tyX9 tyX9_ok nmX9 rfl rfl (by decide) gw_332 rfl rfl rfl rfl rfl (Nat.le_of_ble_eq_true rfl) rfl dX9_init_56 rfl ?_
  refine ik_aload_n C 60 0 dX9_init_59 rfl rfl rfl ?_
  refine ik_new C 63 (ci := 0) (fs := [.null, .null, .int 0]) ui_0 tyX0 tyX0_ok gw_260 gw_226 gw_9 rfl df_0 ⟨Nat.le_of_ble_eq_true rfl, Nat.le_of_ble_eq_true rfl⟩ dX9_init_60 rfl (fun q11 => ?_)
  refine ik_dup C 64 dX9_init_63 rfl rfl ?_
  refine ik_ctorN C hAO 67 kk_0 gw_261 (c_X0_init) ⟨Nat.le_of_ble_eq_true rfl, Nat.le_of_ble_eq_true rfl⟩ rfl (st := [.ref q11, .ref h0]) rfl (Nat.le_of_ble_eq_true rfl) ⟨Nat.le_of_ble_eq_true rfl, Nat.le_of_ble_eq_true rfl⟩ dX9_init_64 rfl (fun a12 ha12 => ?_)
  subst ha12
  refine ik_putF C hin 70 5 0 ((h0, .inr (9, [.ref (a2 0), .ref (a4 0), .ref (a6 0), .ref (a8 0), .ref (a10 0), .ref (a12 0), .null, .null])) :: (((((([] ++ tr8 cy a2) ++ tr6 cy a4) ++ tr6 cy a6) ++ tr1 cy a8) ++ tr7 cy a10) ++ tr0 cy a12)) ui_9 tyX9 tyX9_ok nmX9 rfl rfl (by decide) gw_333 rfl rfl rfl rfl rfl (Nat.le_of_ble_eq_true rfl) rfl dX9_init_67 rfl ?_
  refine ik_aload_n C 71 0 dX9_init_70 rfl rfl rfl ?_
  refine ik_new C 74 (ci := 4) (fs := [.null, .null, .null]) ui_4 tyX4 tyX4_ok gw_262 gw_263 gw_10 rfl df_4 ⟨Nat.le_of_ble_eq_true rfl, Nat.le_of_ble_eq_true rfl⟩ dX9_init_71 rfl (fun q13 => ?_)
  refine ik_dup C 75 dX9_init_74 rfl rfl ?_
  refine ik_aload_n C 76 0 dX9_init_75 rfl rfl rfl ?_
  refine ik_get C 79 0 1 ui_9 rfl rfl (by decide) gw_328 rfl dX9_init_76 rfl ?_
  refine ik_aload_n C 80 0 dX9_init_79 rfl rfl rfl ?_
  refine ik_get C 83 2 1 ui_9 rfl rfl (by decide) gw_330 rfl dX9_init_80 rfl ?_
  refine ik_aload_n C 84 0 dX9_init_83 rfl rfl rfl ?_
  refine ik_get C 87 4 1 ui_9 rfl rfl (by decide) gw_332 rfl dX9_init_84 rfl ?_
  refine ik_ctor C hAO 90 kk_4 gw_264 (c_X4_init (t := (a2 0)) (d := (a6 0)) (v := (a10 0))) ⟨Nat.le_of_ble_eq_true rfl, Nat.le_of_ble_eq_true rfl⟩ rfl (st := [.ref q13, .ref h0]) rfl (Nat.le_of_ble_eq_true rfl) ⟨Nat.le_of_ble_eq_true rfl, Nat.le_of_ble_eq_true rfl⟩ dX9_init_87 rfl (fun a14 ha14 => ?_)
  subst ha14
  refine ik_putF C hin 93 6 0 ((h0, .inr (9, [.ref (a2 0), .ref (a4 0), .ref (a6 0), .ref (a8 0), .ref (a10 0), .ref (a12 0), .ref (a14 0), .null])) :: ((((((([] ++ tr8 cy a2) ++ tr6 cy a4) ++ tr6 cy a6) ++ tr1 cy a8) ++ tr7 cy a10) ++ tr0 cy a12) ++ tr4 (a2 0) (a6 0) (a10 0) a14)) ui_9 tyX9 tyX9_ok nmX9 rfl rfl (by decide) gw_334 rfl rfl rfl rfl rfl (Nat.le_of_ble_eq_true rfl) rfl dX9_init_90 rfl ?_
  refine ik_aload_n C 94 0 dX9_init_93 rfl rfl rfl ?_
  refine ik_new C 97 (ci := 3) (fs := [.null, .null, .null, .int 0, .int 0, .int 0, .int 0, .int 0, .null, .null, .null, .int 0]) ui_3 tyX3 tyX3_ok gw_278 gw_279 gw_11 rfl df_3 ⟨Nat.le_of_ble_eq_true rfl, Nat.le_of_ble_eq_true rfl⟩ dX9_init_94 rfl (fun q15 => ?_)
  refine ik_dup C 98 dX9_init_97 rfl rfl ?_
  refine ik_ctorN C hAO 101 kk_3 gw_280 (c_X3_init) ⟨Nat.le_of_ble_eq_true rfl, Nat.le_of_ble_eq_true rfl⟩ rfl (st := [.ref q15, .ref h0]) rfl (Nat.le_of_ble_eq_true rfl) ⟨Nat.le_of_ble_eq_true rfl, Nat.le_of_ble_eq_true rfl⟩ dX9_init_98 rfl (fun a16 ha16 => ?_)
  subst ha16
  refine ik_putF C hin 104 7 0 ((h0, .inr (9, [.ref (a2 0), .ref (a4 0), .ref (a6 0), .ref (a8 0), .ref (a10 0), .ref (a12 0), .ref (a14 0), .ref (a16 0)])) :: (((((((([] ++ tr8 cy a2) ++ tr6 cy a4) ++ tr6 cy a6) ++ tr1 cy a8) ++ tr7 cy a10) ++ tr0 cy a12) ++ tr4 (a2 0) (a6 0) (a10 0) a14) ++ tr3 cy a16)) ui_9 tyX9 tyX9_ok nmX9 rfl rfl (by decide) gw_335 rfl rfl rfl rfl rfl (Nat.le_of_ble_eq_true rfl) rfl dX9_init_101 rfl ?_
  refine ik_arr 36 (x' := (6, .inr (.inr (.inr (.inr (fun j => some (adR cy (fun i => if i = 0 then h0 else if i < 3 then a2 (i - 1) else if i < 19 then a4 (i - 3) else if i < 35 then a6 (i - 19) else if i < 133 then a8 (i - 35) else if i < 139 then a10 (i - 133) else if i < 142 then a12 (i - 139) else if i < 143 then a14 (i - 142) else if i < 167 then a16 (i - 143) else 0) 0 (2 + j)))))))) (ws' := wl (adR cy (fun i => if i = 0 then h0 else if i < 3 then a2 (i - 1) else if i < 19 then a4 (i - 3) else if i < 35 then a6 (i - 19) else if i < 133 then a8 (i - 35) else if i < 139 then a10 (i - 133) else if i < 142 then a12 (i - 139) else if i < 143 then a14 (i - 142) else if i < 167 then a16 (i - 143) else 0)) uR D0) rfl (vp_ref (fun j hj => by rcases (show j = 0 ∨ j = 1 ∨ j = 2 ∨ j = 3 ∨ j = 4 ∨ j = 5 by omega) with rfl | rfl | rfl | rfl | rfl | rfl <;> rfl)) (by simp only [tr0, tr1, tr3, tr4, tr6, tr7, tr8]; rfl) ?_
  exact ik_ret C (tr := tr9 cy) (fun i => if i = 0 then h0 else if i < 3 then a2 (i - 1) else if i < 19 then a4 (i - 3) else if i < 35 then a6 (i - 19) else if i < 133 then a8 (i - 35) else if i < 139 then a10 (i - 133) else if i < 142 then a12 (i - 139) else if i < 143 then a14 (i - 142) else if i < 167 then a16 (i - 143) else 0) rfl rfl dX9_init_104
