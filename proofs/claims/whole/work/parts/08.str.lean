section
variable {β β2 ρ : Type} {G : va_G} {ad : Nat → Nat → Nat} {U : List (Nat × Nat)} {A : Nat → Prop} {p : Program} {l : Launch} {e : Env} {R : Room} {s : State} {m : MethodId} {args : Array Value} {below : List Frame} {meth : Method} {c : Code} {nL : Nat} {Go : ρ → State → Prop} {cc : ByteArray} {own : String} {rt : Option FieldType} {pc : Nat} {lv : List (Nat × Value)} {st : List Value} {D : Dt} {B B1 B2 : Option β} {k : β → Option ρ}
theorem im_ldcS (C : Cx G ad U A p s m meth c args cc RX8 nL rt) (q i : Nat) {index : Nat} {tx : String} (hd : decode cc pc = .ok (.ldc index, 2)) (ht : texS[i]? = some (index, tx)) (hq : pc + 2 = q) (h : Im G ad U A p l e R s m args below meth c nL Go q lv (.ref (ad 101 i) :: st) D B k) : Im G ad U A p l e R s m args below meth c nL Go pc lv st D B k := by
  subst hq
  exact fun o ho H locs ls hP hS hl => va_ldcS C.1 C.2.1 C.2.2.2.1 (C.2.2.2.2.2.2.2.2.2.1.2.1 i (index, tx) ht) hd (h o ho H locs ls hP hS hl)
theorem im_ishr (C : Cx G ad U A p s m meth c args cc own nL rt) (q : Nat) {x y : Int32} (hd : decode cc pc = .ok (.ishr, 1)) (hq : pc + 1 = q) (h : Im G ad U A p l e R s m args below meth c nL Go q lv (.int (x >>> (y &&& 31)) :: st) D B k) : Im G ad U A p l e R s m args below meth c nL Go pc lv (.int y :: .int x :: st) D B k := by
  subst hq
  exact fun o ho H locs ls hP hS hl => lv_ishr C.1 C.2.1 hd (h o ho H locs ls hP hS hl)
theorem im_compact (C : Cx G ad U A p s m meth c args cc RJ0 nL rt) (q : Nat) (hd : decode cc pc = .ok (.getstatic 38, 3)) (hq : pc + 3 = q) (h : Im G ad U A p l e R s m args below meth c nL Go q lv (.int 1 :: st) D B k) : Im G ad U A p l e R s m args below meth c nL Go pc lv st D B k := by
  subst hq
  exact fun o ho H locs ls hP hS hl => va_gets C.1 C.2.1 C.2.2.2.2.2.2.2.2.2.1.2.2.1 hS C.2.2.2.1 (C.2.2.2.2.1 _ gw_410) (fun _ h9 => h9) hd (h o ho H locs ls hP hS hl)
theorem im_coderf (C : Cx G ad U A p s m meth c args cc RJ0 nL rt) (q : Nat) {i : Nat} (hi : i < 5) (hd : decode cc pc = .ok (.getfield 15, 3)) (hq : pc + 3 = q) (h : Im G ad U A p l e R s m args below meth c nL Go q lv (.int 0 :: st) D B k) : Im G ad U A p l e R s m args below meth c nL Go pc lv (.ref (ad 101 i) :: st) D B k := by
  subst hq
  exact fun o ho H locs ls hP hS hl => vk_getf C.1 C.2.1 (C.2.2.2.2.2.2.2.2.2.1.1.1 i hi).2.1 hS C.2.2.2.1 (C.2.2.2.2.1 _ gw_1379) (fun _ h9 => h9) hd (h o ho H locs ls hP hS hl)
theorem im_valuef (C : Cx G ad U A p s m meth c args cc RJ0 nL rt) (q : Nat) {i : Nat} (hi : i < 5) (hd : decode cc pc = .ok (.getfield 9, 3)) (hq : pc + 3 = q) (h : Im G ad U A p l e R s m args below meth c nL Go q lv (.ref (ad 102 i) :: st) D B k) : Im G ad U A p l e R s m args below meth c nL Go pc lv (.ref (ad 101 i) :: st) D B k := by
  subst hq
  exact fun o ho H locs ls hP hS hl => vk_getf C.1 C.2.1 (C.2.2.2.2.2.2.2.2.2.1.1.1 i hi).2.2.1 hS C.2.2.2.1 (C.2.2.2.2.1 _ gw_1378) (fun _ h9 => h9) hd (h o ho H locs ls hP hS hl)
theorem im_tlen (C : Cx G ad U A p s m meth c args cc own nL rt) (q : Nat) {i : Nat} (hi : i < 5) (hd : decode cc pc = .ok (.arraylength, 1)) (hq : pc + 1 = q) (h : Im G ad U A p l e R s m args below meth c nL Go q lv (.int (nI (lenS.getD i 0)) :: st) D B k) : Im G ad U A p l e R s m args below meth c nL Go pc lv (.ref (ad 102 i) :: st) D B k := by
  subst hq
  exact fun o ho H locs ls hP hS hl => va_tlen C.1 C.2.1 (C.2.2.2.2.2.2.2.2.2.1.1.1 i hi).2.2.2 hS rfl hd (h o ho H locs ls hP hS hl)
theorem im_tbyte (C : Cx G ad U A p s m meth c args cc own nL rt) (q : Nat) {i : Nat} {x : Int32} (hi : i < 5) (hx : inb x (lenS.getD i 0) = true) (hd : decode cc pc = .ok (.baload, 1)) (hq : pc + 1 = q) (h : Im G ad U A p l e R s m args below meth c nL Go q lv (.int ((bytS.getD i []).getD x.toNatClampNeg 0) :: st) D B k) : Im G ad U A p l e R s m args below meth c nL Go pc lv (.int x :: .ref (ad 102 i) :: st) D B k := by
  subst hq
  exact fun o ho H locs ls hP hS hl => va_tb C.1 C.2.1 (C.2.2.2.2.2.2.2.2.2.1.1.1 i hi).2.2.2 hS (inb_in hx) rfl hd (h o ho H locs ls hP hS hl)
theorem im_sioobe (C : Cx G ad U A p s m meth c args cc RJ0 nL rt) (q : Nat) (hd : decode cc pc = .ok (.getstatic 1053, 3)) (hq : pc + 3 = q) (h : ∀ v : Value, (v = .null ∨ ∃ t, v = .ref t) → Im G ad U A p l e R s m args below meth c nL Go q lv (v :: st) D B k) : Im G ad U A p l e R s m args below meth c nL Go pc lv st D B k := by
  subst hq
  intro o ho H locs ls hP hS hl
  rcases C.2.2.2.2.2.2.2.2.2.1.2.2.2 with hz | ⟨t, hz⟩
  · exact va_gets C.1 C.2.1 hz hS C.2.2.2.1 (C.2.2.2.2.1 _ gw_426) (fun _ h9 => h9) hd (h _ (Or.inl rfl) o ho H locs ls hP hS hl)
  · exact va_gets C.1 C.2.1 hz hS C.2.2.2.1 (C.2.2.2.2.1 _ gw_426) (fun _ h9 => h9) hd (h _ (Or.inr ⟨t, rfl⟩) o ho H locs ls hP hS hl)
theorem rn_VS (C : Cx G ad U A p s m meth c args cc own nL rt) {y : MethodName} {cb : ByteArray} {mx n fr lo index : Nat} {ret : Option FieldType} {Qc : Array Value → State → Outcome → State → Prop} {free : Addr → Prop} {i : Nat} {As : List Value} {H : Heap} {locs : List Loc} {ls : Array Slot} {st0 : List Value} (V : Vok y cb mx ret n) (hy : y.cls = "java/lang/String") (hi : i < 5) (hw : Cond.methodLink own index y ∈ gt_T) (hM : Met l y (wsG y cb mx ret) (k2_rm fr lo) (va_Pc (.ref (ad 101 i) :: As) (Wd G ad U D H.size)) Qc 0 0 free) (hR : Rle fr lo mx R) (hn : As.length = n) (hst : st0 = As.reverse ++ .ref (ad 101 i) :: st) (hcat : (st.map fun v => v.category).sum ≤ 8) (hd : decode cc pc = .ok (.invokevirtual index, 3)) (hP : va_P G vwCl (wl ad U D) H) (hS : va_S A s.heap H locs) (hl : lv_has ls nL lv) : va_Run p l e R s m args below meth c H locs 0 0 0 0 (F0 m pc ls st0) st (Qc (Value.ref (ad 101 i) :: As).toArray) free := by
  have hts := C.2.2.2.2.1
  refine va_runV (Ts := gt_T) (C := y.cls) (bytes := cb) (maxL := mx) (ret := ret) ⟨C.1, C.2.1, C.2.2.1, C.2.2.2.1, hts⟩ hM ⟨callB_of n hts (gi_ws V.2.2.2.1) rfl rfl rfl (hts _ V.2.2.1) (hts _ hw) V.2.2.2.2 hR, hts _ V.1, hts _ V.2.1⟩ ⟨wd_blind, (by rw [hy]; exact vk_recv C.2.2.2.2.2.2.2.2.2.1.1 hi hS), wd_pre C hP hS _⟩ rfl hn hl.1 hst (lv_room hcat) hd ⟨Nat.zero_le _, Nat.zero_le _⟩
theorem im_cVSP (C : Cx G ad U A p s m meth c args cc own nL rt) (q : Nat) {y : MethodName} {cb : ByteArray} {mx n fr lo index : Nat} {rr : FieldType} {i : Nat} {As : List Value} {st0 : List Value} {F : Option Int32} {B9 : Int32 → Option β} (V : Vok y cb mx (some rr) n) (hy : y.cls = "java/lang/String") (hi : i < 5) (hw : Cond.methodLink own index y ∈ gt_T) (hM : MI l G ad U y cb mx rr (k2_rm fr lo) (.ref (ad 101 i) :: As) D (F.bind (fun r => some (r, D)))) (hR : Rle fr lo mx R) (hn : As.length = n) (hst : st0 = As.reverse ++ .ref (ad 101 i) :: st) (hcat : (st.map fun v => v.category).sum ≤ 8) (hd : decode cc pc = .ok (.invokevirtual index, 3)) (hq : pc + 3 = q) (h : ∀ o, Im G ad U A p l e R s m args below meth c nL Go q lv (.int o :: st) D (B9 o) k) : Im G ad U A p l e R s m args below meth c nL Go pc lv st0 D (F.bind B9) k := by
  intro o ho H locs ls hP hS hl
  cases hF : F with
  | none => rw [hF] at ho; cases ho
  | some w =>
    rw [hF] at ho hM
    have ho : (B9 w).bind k = some o := ho
    subst hq
    refine va_calli (rn_VS C V hy hi hw (hM H.size (w, D) rfl) hR hn hst hcat hd hP hS hl) hS (fun q _ h => cx_F C hS D q h) (cx_F C hS D) (fun r u t H1 locs1 ht hvm hw hB hz hk hS1 => ?_)
    have hB : va_P G vwCl (wl ad U u) t.heap := hB
    have e1 : r = w := hw.1
    have e2 : u = D := hw.2
    rw [e2, ht] at hB
    rw [e1]
    exact h w o ho H1 locs1 ls hB hS1 hl
end
section
variable {β β2 ρ : Type} {G : va_G} {ad : Nat → Nat → Nat} {U : List (Nat × Nat)} {A : Nat → Prop} {p : Program} {l : Launch} {e : Env} {R : Room} {s : State} {m : MethodId} {args : Array Value} {below : List Frame} {meth : Method} {c : Code} {nL : Nat} {Go : ρ → State → Prop} {cc : ByteArray} {own : String} {rt : Option FieldType} {pc : Nat} {lv : List (Nat × Value)} {st : List Value} {D : Dt} {B B1 B2 : Option β} {k : β → Option ρ}
theorem im_cSW (C : Cx G ad U A p s m meth c args cc own nL rt) (q : Nat) {y : MethodName} {cb : ByteArray} {mx n fr lo index : Nat} {As : List Value} {st0 : List Value} {F : Option Int32} {B9 : Int32 → Option β} (V : Sok y cb mx none n) (hw : Cond.methodLink own index y ∈ gt_T) (hM : MV l G ad U y cb mx (k2_rm fr lo) As D (F.bind (fun _ => some D))) (hR : Rle fr lo mx R) (hn : As.length = n) (hst : st0 = As.reverse ++ st) (hcat : (st.map fun v => v.category).sum ≤ 8) (hd : decode cc pc = .ok (.invokestatic index, 3)) (hq : pc + 3 = q) (h : ∀ o, Im G ad U A p l e R s m args below meth c nL Go q lv st D (B9 o) k) : Im G ad U A p l e R s m args below meth c nL Go pc lv st0 D (F.bind B9) k := by
  intro o ho H locs ls hP hS hl
  cases hF : F with
  | none => rw [hF] at ho; cases ho
  | some w =>
    rw [hF] at ho hM
    have ho : (B9 w).bind k = some o := ho
    subst hq
    refine va_callv (rn_S C V hw (hM H.size D rfl) hR hn hst hcat hd hP hS hl) hS (fun q _ h => cx_F C hS D q h) (cx_F C hS D) (fun u t H1 locs1 ht hvm hw hB hz hk hS1 => ?_)
    have hB : va_P G vwCl (wl ad U u) t.heap := hB
    have e2 : u = D := hw
    rw [e2, ht] at hB
    exact h w o ho H1 locs1 ls hB hS1 hl
end
theorem vk_coder : Vok yJ0_coder_7d493 cJ0_coder_7d493 1 (some .byte) 0 := ⟨gw_407, gw_408, gw_13, gw_409, by decide, by decide, by decide +kernel⟩
theorem vk_isLatin1 : Vok yJ0_isLatin1_aae02 cJ0_isLatin1_aae02 1 (some .boolean) 0 := ⟨gw_417, gw_418, gw_13, gw_419, by decide, by decide, by decide +kernel⟩
theorem vk_length : Vok yJ0_length_8abf5 cJ0_length_8abf5 1 (some .int) 0 := ⟨gw_403, gw_404, gw_13, gw_405, by decide, by decide, by decide +kernel⟩
theorem vk_charAt : Vok yJ0_charAt_5068e cJ0_charAt_5068e 2 (some .char) 1 := ⟨gw_413, gw_414, gw_13, gw_415, by decide, by decide, by decide +kernel⟩
theorem sk_latAt : Sok yJ1_charAt_3b067 cJ1_charAt_3b067 2 (some .char) 2 := ⟨gw_421, gw_14, gw_422, by decide, by decide, by decide +kernel⟩
theorem sk_chk : Sok yJ0_checkIndex_df160 cJ0_checkIndex_df160 2 none 2 := ⟨gw_424, gw_13, gw_425, by decide, by decide, by decide +kernel⟩
theorem sk_chk3 : Sok yJ3_checkIndex_8e157 cJ3_checkIndex_8e157 3 (some .int) 3 := ⟨gw_429, gw_15, gw_430, by decide, by decide, by decide +kernel⟩
set_option maxRecDepth 100000 in
set_option maxHeartbeats 4000000 in
theorem c_coder {l : Launch} {G : va_G} {ad : Nat → Nat → Nat} {U : List (Nat × Nat)} {D : Dt} {i : Nat} (hU : Uinj ad U) (hi : i < 5) : MI l G ad U yJ0_coder_7d493 cJ0_coder_7d493 1 .byte (k2_rm 0 0) [.ref (ad 101 i)] D (((if (1 : Int32) = 0 then none else some (0 : Int32))).bind (fun r => some (r, D))) := by
  refine mI_of (lv := [(0, .ref (ad 101 i))]) (by decide) hU rfl (Nat.le_of_ble_eq_true rfl) (fun A p e s m args below meth c C => ?_)
  have C : Cx G ad U A p s m meth c args cJ0_coder_7d493 RJ0 1 (some .byte) := C
  refine im_compact C 3 dJ0_coder_7d493_0 rfl ?_
  refine im_if_eq C 13 6 dJ0_coder_7d493_3 rfl rfl ?_ ?_
  · exact im_none
  · refine im_aload_n C 7 0 dJ0_coder_7d493_6 rfl rfl rfl ?_
    refine im_coderf C 10 hi dJ0_coder_7d493_7 rfl ?_
    refine im_goto C 14 dJ0_coder_7d493_10 rfl ?_
    exact im_iret C rfl rfl dJ0_coder_7d493_14
set_option maxRecDepth 100000 in
set_option maxHeartbeats 4000000 in
theorem c_isLatin1 {l : Launch} {G : va_G} {ad : Nat → Nat → Nat} {U : List (Nat × Nat)} {D : Dt} {i : Nat} (hU : Uinj ad U) (hi : i < 5) : MI l G ad U yJ0_isLatin1_aae02 cJ0_isLatin1_aae02 1 .boolean (k2_rm 0 0) [.ref (ad 101 i)] D (((if (1 : Int32) = 0 then none else (if (0 : Int32) = 0 then some (1 : Int32) else none))).bind (fun r => some (r, D))) := by
  refine mI_of (lv := [(0, .ref (ad 101 i))]) (by decide) hU rfl (Nat.le_of_ble_eq_true rfl) (fun A p e s m args below meth c C => ?_)
  have C : Cx G ad U A p s m meth c args cJ0_isLatin1_aae02 RJ0 1 (some .boolean) := C
  refine im_compact C 3 dJ0_isLatin1_aae02_0 rfl ?_
  refine im_if_eq C 17 6 dJ0_isLatin1_aae02_3 rfl rfl ?_ ?_
  · exact im_none
  · refine im_aload_n C 7 0 dJ0_isLatin1_aae02_6 rfl rfl rfl ?_
    refine im_coderf C 10 hi dJ0_isLatin1_aae02_7 rfl ?_
    refine im_if_ne C 17 13 dJ0_isLatin1_aae02_10 rfl rfl ?_ ?_
    · exact im_none
    · refine im_iconst C 14 dJ0_isLatin1_aae02_13 rfl k_ic1 ?_
      refine im_goto C 18 dJ0_isLatin1_aae02_14 rfl ?_
      exact im_iret C rfl rfl dJ0_isLatin1_aae02_18
theorem st_shr (x : Int32) : x >>> ((0 : Int32) &&& 31) = x := sb_shr0 x
set_option maxRecDepth 100000 in
set_option maxHeartbeats 4000000 in
theorem c_length {l : Launch} {G : va_G} {ad : Nat → Nat → Nat} {U : List (Nat × Nat)} {D : Dt} {i : Nat} (hU : Uinj ad U) (hi : i < 5) : MI l G ad U yJ0_length_8abf5 cJ0_length_8abf5 1 .int (k2_rm 1 20) [.ref (ad 101 i)] D ((f_strlen i).bind (fun r => some (r, D))) := by
  refine mI_of (lv := [(0, .ref (ad 101 i))]) (by decide) hU rfl (Nat.le_of_ble_eq_true rfl) (fun A p e s m args below meth c C => ?_)
  have C : Cx G ad U A p s m meth c args cJ0_length_8abf5 RJ0 1 (some .int) := C
  have e9 : f_strlen i = (if (1 : Int32) = 0 then none else some (0 : Int32)).bind (fun o => some (nI (lenS.getD i 0) >>> (o &&& 31))) := by
    rw [if_neg (by decide)]
    show some (nI (lenS.getD i 0)) = some (nI (lenS.getD i 0) >>> ((0 : Int32) &&& 31))
    rw [st_shr]
  rw [e9]
  refine im_aload_n C 1 0 dJ0_length_8abf5_0 rfl rfl rfl ?_
  refine im_valuef C 4 hi dJ0_length_8abf5_1 rfl ?_
  refine im_tlen C 5 hi dJ0_length_8abf5_4 rfl ?_
  refine im_aload_n C 6 0 dJ0_length_8abf5_5 rfl rfl rfl ?_
  refine im_cVSP C 9 vk_coder rfl hi gw_406 (c_coder hU hi) (rle rfl) rfl (st := [.int (nI (lenS.getD i 0))]) rfl (Nat.le_of_ble_eq_true rfl) dJ0_length_8abf5_6 rfl (fun o => ?_)
  refine im_ishr C 10 dJ0_length_8abf5_9 rfl ?_
  exact im_iret C rfl rfl dJ0_length_8abf5_10
def f_chk (x n : Int32) : Option Int32 := if x < 0 then none else (if x < n then some x else none)
set_option maxRecDepth 100000 in
set_option maxHeartbeats 4000000 in
theorem c_chk3n {l : Launch} {G : va_G} {ad : Nat → Nat → Nat} {U : List (Nat × Nat)} {D : Dt} {x n : Int32} {t : Nat} (hU : Uinj ad U) : MI l G ad U yJ3_checkIndex_8e157 cJ3_checkIndex_8e157 3 .int (k2_rm 0 0) [.int x, .int n, .null] D ((f_chk x n).bind (fun r => some (r, D))) := by
  refine mI_of (lv := [(0, .int x), (1, .int n), (2, .null)]) (by decide) hU rfl (Nat.le_of_ble_eq_true rfl) (fun A p e s m args below meth c C => ?_)
  have C : Cx G ad U A p s m meth c args cJ3_checkIndex_8e157 RJ3 3 (some .int) := C
  unfold f_chk
  refine im_iload_n C 1 0 dJ3_checkIndex_8e157_0 rfl rfl rfl ?_
  refine im_if_lt C 9 4 dJ3_checkIndex_8e157_1 rfl rfl ?_ ?_
  · exact im_none
  · refine im_iload_n C 5 0 dJ3_checkIndex_8e157_4 rfl rfl rfl ?_
    refine im_iload_n C 6 1 dJ3_checkIndex_8e157_5 rfl rfl rfl ?_
    refine im_ic_lt C 16 9 dJ3_checkIndex_8e157_6 rfl rfl ?_ ?_
    · refine im_iload_n C 17 0 dJ3_checkIndex_8e157_16 rfl rfl rfl ?_
      exact im_iret C rfl rfl dJ3_checkIndex_8e157_17
    · exact im_none
set_option maxRecDepth 100000 in
set_option maxHeartbeats 4000000 in
theorem c_chk3r {l : Launch} {G : va_G} {ad : Nat → Nat → Nat} {U : List (Nat × Nat)} {D : Dt} {x n : Int32} {t : Nat} (hU : Uinj ad U) : MI l G ad U yJ3_checkIndex_8e157 cJ3_checkIndex_8e157 3 .int (k2_rm 0 0) [.int x, .int n, .ref t] D ((f_chk x n).bind (fun r => some (r, D))) := by
  refine mI_of (lv := [(0, .int x), (1, .int n), (2, .ref t)]) (by decide) hU rfl (Nat.le_of_ble_eq_true rfl) (fun A p e s m args below meth c C => ?_)
  have C : Cx G ad U A p s m meth c args cJ3_checkIndex_8e157 RJ3 3 (some .int) := C
  unfold f_chk
  refine im_iload_n C 1 0 dJ3_checkIndex_8e157_0 rfl rfl rfl ?_
  refine im_if_lt C 9 4 dJ3_checkIndex_8e157_1 rfl rfl ?_ ?_
  · exact im_none
  · refine im_iload_n C 5 0 dJ3_checkIndex_8e157_4 rfl rfl rfl ?_
    refine im_iload_n C 6 1 dJ3_checkIndex_8e157_5 rfl rfl rfl ?_
    refine im_ic_lt C 16 9 dJ3_checkIndex_8e157_6 rfl rfl ?_ ?_
    · refine im_iload_n C 17 0 dJ3_checkIndex_8e157_16 rfl rfl rfl ?_
      exact im_iret C rfl rfl dJ3_checkIndex_8e157_17
    · exact im_none
set_option maxRecDepth 100000 in
set_option maxHeartbeats 4000000 in
theorem c_chk {l : Launch} {G : va_G} {ad : Nat → Nat → Nat} {U : List (Nat × Nat)} {D : Dt} {x n : Int32} (hU : Uinj ad U) : MV l G ad U yJ0_checkIndex_df160 cJ0_checkIndex_df160 2 (k2_rm 1 22) [.int x, .int n] D ((f_chk x n).bind (fun _ => some D)) := by
  refine mV_of0 (lv := [(0, .int x), (1, .int n)]) (by decide) hU rfl (Nat.le_of_ble_eq_true rfl) (fun A p e s m args below meth c C => ?_)
  have C : Cx G ad U A p s m meth c args cJ0_checkIndex_df160 RJ0 2 none := C
  refine im_iload_n C 1 0 dJ0_checkIndex_df160_0 rfl rfl rfl ?_
  refine im_iload_n C 2 1 dJ0_checkIndex_df160_1 rfl rfl rfl ?_
  refine im_sioobe C 5 dJ0_checkIndex_df160_2 rfl (fun v hv => ?_)
  rcases hv with rfl | ⟨t, rfl⟩
  · refine im_cSP C 8 sk_chk3 gw_428 (c_chk3n (t := 0) (x := x) (n := n) hU) (rle rfl) rfl (st := []) rfl (Nat.le_of_ble_eq_true rfl) dJ0_checkIndex_df160_5 rfl (fun o => ?_)
    refine im_pop C 9 dJ0_checkIndex_df160_8 rfl rfl ?_
    exact im_vret C rfl dJ0_checkIndex_df160_9
  · refine im_cSP C 8 sk_chk3 gw_428 (c_chk3r (t := t) (x := x) (n := n) hU) (rle rfl) rfl (st := []) rfl (Nat.le_of_ble_eq_true rfl) dJ0_checkIndex_df160_5 rfl (fun o => ?_)
    refine im_pop C 9 dJ0_checkIndex_df160_8 rfl rfl ?_
    exact im_vret C rfl dJ0_checkIndex_df160_9
theorem st_byte : ∀ i, i < 5 → ∀ j, j < lenS.getD i 0 → (((((bytS.getD i []).getD j 0) &&& (255 : Int32)).toUInt32 % 65536).toInt32) = (bytS.getD i []).getD j 0 ∧ lenS.getD i 0 < 2 ^ 31 := by decide
theorem st_chk {x : Int32} {N : Nat} (hN : N < 2 ^ 31) (h : inb x N = true) : f_chk x (nI N) = some x := by
  obtain ⟨j, hj, rfl⟩ := vp_in_of (inb_in h) hN
  rw [f_chk, if_neg (nI_pos (by omega)), if_pos (nI_lt hj hN)]
set_option maxRecDepth 100000 in
set_option maxHeartbeats 4000000 in
theorem c_latAt {l : Launch} {G : va_G} {ad : Nat → Nat → Nat} {U : List (Nat × Nat)} {D : Dt} {i : Nat} {x : Int32} (hU : Uinj ad U) (hi : i < 5) : MI l G ad U yJ1_charAt_3b067 cJ1_charAt_3b067 2 .char (k2_rm 2 43) [.ref (ad 102 i), .int x] D ((f_strchar i x).bind (fun r => some (r, D))) := by
  refine mI_of (lv := [(0, .ref (ad 102 i)), (1, .int x)]) (by decide) hU rfl (Nat.le_of_ble_eq_true rfl) (fun A p e s m args below meth c C => ?_)
  have C : Cx G ad U A p s m meth c args cJ1_charAt_3b067 RJ1 2 (some .char) := C
  unfold f_strchar
  refine im_gd (fun hg => ?_)
  have hN : lenS.getD i 0 < 2 ^ 31 := by
    rcases (show i = 0 ∨ i = 1 ∨ i = 2 ∨ i = 3 ∨ i = 4 by omega) with rfl | rfl | rfl | rfl | rfl <;> decide
  obtain ⟨j, hj, ej⟩ := vp_in_of (inb_in hg) hN
  have hcl : x.toNatClampNeg = j := by rw [ej]; exact nI_clamp (by omega)
  have hb := (st_byte i hi j hj).1
  have e9 : (some ((bytS.getD i []).getD x.toNatClampNeg 0) : Option Int32) = (f_chk x (nI (lenS.getD i 0))).bind (fun _ => some (((((bytS.getD i []).getD x.toNatClampNeg 0) &&& (255 : Int32)).toUInt32 % 65536).toInt32)) := by
    rw [st_chk hN hg, hcl]
    show some _ = some _
    rw [hb]
  rw [e9]
  refine im_iload_n C 1 1 dJ1_charAt_3b067_0 rfl rfl rfl ?_
  refine im_aload_n C 2 0 dJ1_charAt_3b067_1 rfl rfl rfl ?_
  refine im_tlen C 3 hi dJ1_charAt_3b067_2 rfl ?_
  refine im_cSW C 6 sk_chk gw_423 (c_chk (x := x) (n := nI (lenS.getD i 0)) hU) (rle rfl) rfl (st := []) rfl (Nat.le_of_ble_eq_true rfl) dJ1_charAt_3b067_3 rfl (fun _ => ?_)
  refine im_aload_n C 7 0 dJ1_charAt_3b067_6 rfl rfl rfl ?_
  refine im_iload_n C 8 1 dJ1_charAt_3b067_7 rfl rfl rfl ?_
  refine im_tbyte C 9 hi hg dJ1_charAt_3b067_8 rfl ?_
  refine im_sipush C 12 dJ1_charAt_3b067_9 rfl k_sp255 ?_
  refine im_iand C 13 dJ1_charAt_3b067_12 rfl ?_
  refine im_i2c C 14 dJ1_charAt_3b067_13 rfl rfl ?_
  exact im_iret C rfl (pk_nc _) dJ1_charAt_3b067_14
set_option maxRecDepth 100000 in
set_option maxHeartbeats 4000000 in
theorem c_charAt {l : Launch} {G : va_G} {ad : Nat → Nat → Nat} {U : List (Nat × Nat)} {D : Dt} {i : Nat} {x : Int32} (hU : Uinj ad U) (hi : i < 5) : MI l G ad U yJ0_charAt_5068e cJ0_charAt_5068e 2 .char (k2_rm 3 64) [.ref (ad 101 i), .int x] D ((f_strchar i x).bind (fun r => some (r, D))) := by
  refine mI_of (lv := [(0, .ref (ad 101 i)), (1, .int x)]) (by decide) hU rfl (Nat.le_of_ble_eq_true rfl) (fun A p e s m args below meth c C => ?_)
  have C : Cx G ad U A p s m meth c args cJ0_charAt_5068e RJ0 2 (some .char) := C
  have e9 : f_strchar i x = (if (1 : Int32) = 0 then none else (if (0 : Int32) = 0 then some (1 : Int32) else none)).bind (fun o => if o = 0 then none else (f_strchar i x).bind (fun r => gd (decide (narrow .char (.int r) = .int r)) (some r))) := by
    rw [if_neg (by decide), if_pos rfl]
    show _ = (if (1 : Int32) = 0 then none else _)
    rw [if_neg (by decide)]
    unfold f_strchar
    cases hg : inb x (lenS.getD i 0) with
    | false => rfl
    | true =>
      have hN : lenS.getD i 0 < 2 ^ 31 := by
        rcases (show i = 0 ∨ i = 1 ∨ i = 2 ∨ i = 3 ∨ i = 4 by omega) with rfl | rfl | rfl | rfl | rfl <;> decide
      obtain ⟨j, hj, ej⟩ := vp_in_of (inb_in hg) hN
      have hcl : x.toNatClampNeg = j := by rw [ej]; exact nI_clamp (by omega)
      have hb := (st_byte i hi j hj).1
      show some _ = gd (decide (narrow .char (.int ((bytS.getD i []).getD x.toNatClampNeg 0)) = .int ((bytS.getD i []).getD x.toNatClampNeg 0))) (some ((bytS.getD i []).getD x.toNatClampNeg 0))
      rw [show decide (narrow .char (.int ((bytS.getD i []).getD x.toNatClampNeg 0)) = .int ((bytS.getD i []).getD x.toNatClampNeg 0)) = true by rw [decide_eq_true_eq, hcl, ← hb]; exact pk_nc _]
      rfl
  rw [e9]
  refine im_aload_n C 1 0 dJ0_charAt_5068e_0 rfl rfl rfl ?_
  refine im_cVSP C 4 vk_isLatin1 rfl hi gw_416 (c_isLatin1 hU hi) (rle rfl) rfl (st := []) rfl (Nat.le_of_ble_eq_true rfl) dJ0_charAt_5068e_1 rfl (fun o => ?_)
  refine im_if_eq C 16 7 dJ0_charAt_5068e_4 rfl rfl ?_ ?_
  · exact im_none
  · refine im_aload_n C 8 0 dJ0_charAt_5068e_7 rfl rfl rfl ?_
    refine im_valuef C 11 hi dJ0_charAt_5068e_8 rfl ?_
    refine im_iload_n C 12 1 dJ0_charAt_5068e_11 rfl rfl rfl ?_
    refine im_cSP C 15 sk_latAt gw_420 (c_latAt (i := i) (x := x) hU hi) (rle rfl) rfl (st := []) rfl (Nat.le_of_ble_eq_true rfl) dJ0_charAt_5068e_12 rfl (fun r => ?_)
    refine im_gd (fun hr => ?_)
    exact im_iret C rfl (of_decide_eq_true hr) dJ0_charAt_5068e_15
section
variable {β β2 ρ : Type} {G : va_G} {ad : Nat → Nat → Nat} {U : List (Nat × Nat)} {A : Nat → Prop} {p : Program} {l : Launch} {e : Env} {R : Room} {s : State} {m : MethodId} {args : Array Value} {below : List Frame} {meth : Method} {c : Code} {nL : Nat} {Go : ρ → State → Prop} {cc : ByteArray} {own : String} {rt : Option FieldType} {pc : Nat} {lv : List (Nat × Value)} {st : List Value} {D : Dt} {B B1 B2 : Option β} {k : β → Option ρ}
theorem im_strlen (C : Cx G ad U A p s m meth c args cc own nL rt) (q : Nat) {index i : Nat} {B9 : Int32 → Option β} (hw : Cond.methodLink own index yJ0_length_8abf5 ∈ gt_T) (hi : i < 5) (hR : Rle 1 20 1 R) (hcat : (st.map fun v => v.category).sum ≤ 8) (hd : decode cc pc = .ok (.invokevirtual index, 3)) (hq : pc + 3 = q) (h : ∀ o, Im G ad U A p l e R s m args below meth c nL Go q lv (.int o :: st) D (B9 o) k) (hU : Uinj ad U := C.2.2.2.2.2.2.2.2.2.2.1) : Im G ad U A p l e R s m args below meth c nL Go pc lv (.ref (ad 101 i) :: st) D ((f_strlen i).bind B9) k := im_cVSP C q vk_length rfl hi hw (c_length hU hi) hR rfl rfl hcat hd hq h
theorem im_strchar (C : Cx G ad U A p s m meth c args cc own nL rt) (q : Nat) {index i : Nat} {x : Int32} {B9 : Int32 → Option β} (hw : Cond.methodLink own index yJ0_charAt_5068e ∈ gt_T) (hi : i < 5) (hR : Rle 3 64 2 R) (hcat : (st.map fun v => v.category).sum ≤ 8) (hd : decode cc pc = .ok (.invokevirtual index, 3)) (hq : pc + 3 = q) (h : ∀ o, Im G ad U A p l e R s m args below meth c nL Go q lv (.int o :: st) D (B9 o) k) (hU : Uinj ad U := C.2.2.2.2.2.2.2.2.2.2.1) : Im G ad U A p l e R s m args below meth c nL Go pc lv (.int x :: .ref (ad 101 i) :: st) D ((f_strchar i x).bind B9) k := im_cVSP C q vk_charAt rfl hi hw (c_charAt (x := x) hU hi) hR rfl rfl hcat hd hq h
end
