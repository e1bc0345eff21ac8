theorem sk_fill : Sok yJ7_fill_53178 cJ7_fill_53178 4 none 2 := ⟨gw_74, gw_5, gw_75, by decide, by decide, by decide +kernel⟩
def l_fill (kd b n : Nat) (x1 : Int32) (z : Int32 × Dt) : Option ((Int32 × Dt) ⊕ Dt) := if Int32.ofNat n ≤ z.1 then some (Sum.inr z.2) else wr z.2 kd b n z.1 x1 (fun D1 => some (Sum.inl (z.1 + (1 : Int32), D1)))
def f_fill (kd b n : Nat) (x1 : Int32) (D : Dt) : Option Dt := (lp (l_fill kd b n x1) FU ((0 : Int32), D)).bind (fun e => some e)
set_option maxRecDepth 100000 in
set_option maxHeartbeats 4000000 in
theorem c_fill {l : Launch} {G : va_G} {ad : Nat → Nat → Nat} {U : List (Nat × Nat)} {D : Dt} (kd n : Nat) {b : Nat} {x1 : Int32} (hU : Uinj ad U) (hm : (kd, b) ∈ U) (he : ∀ r, cel ad kd b r = .inl (ad 100 0, n, .inl r)) (hn : n < 2000) : MV l G ad U yJ7_fill_53178 cJ7_fill_53178 4 (k2_rm 0 0) [.ref (ad kd b), .int x1] D (f_fill kd b n x1 D) := by
  refine mV_of0 (by decide) hU rfl (Nat.le_of_ble_eq_true rfl) (fun A p e s m args below meth c C => ?_)
  have C : Cx G ad U A p s m meth c args cJ7_fill_53178 RJ7 4 none := C
  unfold f_fill
  refine im_iconst C 1 dJ7_fill_53178_0 rfl k_ic0 ?_
  refine im_istore_n C 2 [(2, .int (0 : Int32)), (0, .ref (ad kd b)), (1, .int x1)] dJ7_fill_53178_1 rfl (by decide) rfl rfl ?_
  refine im_aload_n C 3 1 dJ7_fill_53178_2 rfl rfl rfl ?_
  refine im_alen C 4 n hm (he _) dJ7_fill_53178_3 rfl ?_
  refine im_istore_n C 5 [(3, .int (Int32.ofNat n)), (2, .int (0 : Int32)), (0, .ref (ad kd b)), (1, .int x1)] dJ7_fill_53178_4 rfl (by decide) rfl rfl ?_
  refine im_sub [2, 3, 1, 0] [(0, .ref (ad kd b)), (1, .int x1), (2, .int (0 : Int32)), (3, .int (Int32.ofNat n))] rfl ?_
  refine im_lpB (l_fill kd b n x1) (fun z => [(0, .ref (ad kd b)), (1, .int x1), (2, .int z.1), (3, .int (Int32.ofNat n))]) (fun z => z.2) 20 (fun _ => []) (fun e => e) (fun e => ?_) (fun z X hX hE => ?_) FU ((0 : Int32), D)
  · exact im_vret C rfl dJ7_fill_53178_20
  · unfold l_fill
    refine im_iload_n C 6 2 dJ7_fill_53178_5 rfl rfl rfl ?_
    refine im_iload_n C 7 3 dJ7_fill_53178_6 rfl rfl rfl ?_
    refine im_ic_ge C 20 10 dJ7_fill_53178_7 rfl rfl ?_ ?_
    · exact im_sub [] [] rfl (hE z.2)
    · refine im_aload_n C 11 0 dJ7_fill_53178_10 rfl rfl rfl ?_
      refine im_iload_n C 12 2 dJ7_fill_53178_11 rfl rfl rfl ?_
      refine im_iload_n C 13 1 dJ7_fill_53178_12 rfl rfl rfl ?_
      refine im_wri C 14 n hm he dJ7_fill_53178_13 rfl (fun D1 => ?_)
      refine im_iinc C 17 2 [(2, .int (z.1 + (1 : Int32))), (0, .ref (ad kd b)), (1, .int x1), (3, .int (Int32.ofNat n))] dJ7_fill_53178_14 rfl k_inc1 (by decide) rfl rfl ?_
      refine im_goto C 5 dJ7_fill_53178_17 rfl ?_
      exact im_sub [1, 2, 0, 3] [(0, .ref (ad kd b)), (1, .int x1), (2, .int (z.1 + (1 : Int32))), (3, .int (Int32.ofNat n))] rfl (hX (z.1 + (1 : Int32), D1))
def cpyD (D : Dt) (kd b0 b1 n : Nat) : Dt := fun k b i => if k = kd ∧ b = b1 ∧ i < n then D kd b0 i else D k b i
theorem cpyD_same (D : Dt) (kd b0 b1 n : Nat) : cpyD D kd b0 b1 n kd b1 = va_cpy (D kd b0) (D kd b1) 0 0 n := by
  funext i
  simp [cpyD, va_cpy]
theorem cpyD_other (D : Dt) {kd b1 k b : Nat} (b0 n : Nat) (h : ¬ (k = kd ∧ b = b1)) : cpyD D kd b0 b1 n k b = D k b := by
  funext i
  simp only [cpyD]
  rw [if_neg]
  exact fun q => h ⟨q.1, q.2.1⟩
def f_X9_copyRow (kd n b0 b1 : Nat) (D : Dt) : Option Dt := some (cpyD D kd b0 b1 n)
theorem im_acopy {β ρ : Type} {G : va_G} {ad : Nat → Nat → Nat} {U : List (Nat × Nat)} {A : Nat → Prop} {p : Program} {l : Launch} {e : Env} {R : Room} {s : State} {m : MethodId} {args : Array Value} {below : List Frame} {meth : Method} {c : Code} {nL : Nat} {Go : ρ → State → Prop} {cc : ByteArray} {own : String} {rt : Option FieldType} {pc : Nat} {lv : List (Nat × Value)} {D : Dt} {B : Option β} {k : β → Option ρ} (C : Cx G ad U A p s m meth c args cc own nL rt) (q : Nat) {index kd n b0 b1 : Nat} (hw : Cond.methodLink own index arraycopyName ∈ gt_T) (hm0 : (kd, b0) ∈ U) (hm1 : (kd, b1) ∈ U) (he : ∀ b r, cel ad kd b r = .inl (ad 100 0, n, .inl r)) (hn : n < 2000) (hR : 1 ≤ R.frames ∧ 18 ≤ R.locals) (hd : decode cc pc = .ok (.invokestatic index, 3)) (hq : pc + 3 = q) (h : Im G ad U A p l e R s m args below meth c nL Go q lv [] (cpyD D kd b0 b1 n) B k) : Im G ad U A p l e R s m args below meth c nL Go pc lv [.int (Int32.ofNat n), .int 0, .ref (ad kd b1), .int 0, .ref (ad kd b0)] D B k := by
  subst hq
  intro o ho H locs ls hP hS hl
  obtain ⟨q0, -, h2⟩ := wl_at (ad := ad) (D := D) hm0
  obtain ⟨q1, h3, h4⟩ := wl_at (ad := ad) (D := D) hm1
  rw [he] at h2 h4
  have hc : (Int32.ofNat n).toNatClampNeg = n := nI_clamp (n := n) (by omega)
  refine va_copyi C.1 C.2.1 (C.2.2.1.trans hl.1.symm) C.2.2.2.1 (C.2.2.2.2.1 _ hw) (C.2.2.2.2.1 _ gw_600) (C.2.2.2.2.1 _ gw_599) (C.2.2.2.2.1 _ gw_18) C.2.2.2.2.2.2.2.1 hP (wl_D D C.2.2.2.2.2.2.2.2.2.2.1 C.2.2.2.2.2.2.2.2.2.2.2.1) hS q0 q1 0 0 h2 h4 rfl rfl rfl (by decide) (by decide) (nI_pos (n := n) (by omega)) (by rw [hc]; exact Nat.le_of_eq (Nat.zero_add n)) (by rw [hc]; exact Nat.le_of_eq (Nat.zero_add n)) (fun _ _ => rfl) hR.1 hR.2 hd (fun H1 locs1 hP1 _ hS1 => ?_)
  refine h o ho H1 locs1 ls ?_ hS1 hl
  rw [← wl_set (D' := cpyD D kd b0 b1 n) C.2.2.2.2.2.2.2.2.2.2.1 h3 (fun k' b' hn => cpyD_other D _ _ hn), cpyD_same, he]
  rw [hc] at hP1
  exact hP1
set_option maxRecDepth 100000 in
set_option maxHeartbeats 4000000 in
theorem c_X9_copyRow {l : Launch} {G : va_G} {ad : Nat → Nat → Nat} {U : List (Nat × Nat)} {D : Dt} (kd n : Nat) {b0 b1 : Nat} (hU : Uinj ad U) (hm0 : (kd, b0) ∈ U) (hm1 : (kd, b1) ∈ U) (he : ∀ b r, cel ad kd b r = .inl (ad 100 0, n, .inl r)) (hn : n < 2000) : MV l G ad U yX9_copyRow cX9_copyRow 2 (k2_rm 1 60) [.ref (ad kd b0), .ref (ad kd b1)] D (f_X9_copyRow kd n b0 b1 D) := by
  refine mV_of0 (by decide) hU rfl (Nat.le_of_ble_eq_true rfl) (fun A p e s m args below meth c C => ?_)
  have C : Cx G ad U A p s m meth c args cX9_copyRow RX9 2 none := C
  unfold f_X9_copyRow
  refine im_aload_n C 1 0 dX9_copyRow_0 rfl rfl rfl ?_
  refine im_iconst C 2 dX9_copyRow_1 rfl k_ic0 ?_
  refine im_aload_n C 3 1 dX9_copyRow_2 rfl rfl rfl ?_
  refine im_iconst C 4 dX9_copyRow_3 rfl k_ic0 ?_
  refine im_aload_n C 5 0 dX9_copyRow_4 rfl rfl rfl ?_
  refine im_alen C 6 n hm0 (he _ _) dX9_copyRow_5 rfl ?_
  refine im_aload_n C 7 1 dX9_copyRow_6 rfl rfl rfl ?_
  refine im_alen C 8 n hm1 (he _ _) dX9_copyRow_7 rfl ?_
  refine im_mmin C 11 gw_595 dX9_copyRow_8 rfl ⟨Nat.le_of_ble_eq_true rfl, Nat.le_of_ble_eq_true rfl⟩ ?_
  rw [ite_self]
  refine im_acopy C 14 gw_598 hm0 hm1 he hn ⟨Nat.le_of_ble_eq_true rfl, Nat.le_of_ble_eq_true rfl⟩ dX9_copyRow_11 rfl ?_
  exact im_vret C rfl dX9_copyRow_14
