section
variable {G : va_G} {cy : Nat → Nat → Nat} {A : Nat → Prop} {p : Program} {l : Launch} {e : Env} {R : Room} {s : State} {m : MethodId} {args : Array Value} {below : List Frame} {meth : Method} {c : Code} {nL : Nat} {Q : State → Prop} {cc : ByteArray} {own : String} {rt : Option FieldType} {pc : Nat} {lv : List (Nat × Value)} {st : List Value} {ws : va_W} {n k : Nat}
theorem ik_iadd (C : Cx G cy [] A p s m meth c args cc own nL rt) (q : Nat) {x y : Int32} (hd : decode cc pc = .ok (.iadd, 1)) (hq : pc + 1 = q) (h : Ik G A p l e R s m args below meth c nL Q q lv (.int (x + y) :: st) ws n k) : Ik G A p l e R s m args below meth c nL Q pc lv (.int y :: .int x :: st) ws n k := by
  subst hq
  exact fun H locs ls hP hD hS hl => lv_iadd C.1 C.2.1 hd (h H locs ls hP hD hS hl)
theorem ik_isub (C : Cx G cy [] A p s m meth c args cc own nL rt) (q : Nat) {x y : Int32} (hd : decode cc pc = .ok (.isub, 1)) (hq : pc + 1 = q) (h : Ik G A p l e R s m args below meth c nL Q q lv (.int (x - y) :: st) ws n k) : Ik G A p l e R s m args below meth c nL Q pc lv (.int y :: .int x :: st) ws n k := by
  subst hq
  exact fun H locs ls hP hD hS hl => lv_isub C.1 C.2.1 hd (h H locs ls hP hD hS hl)
theorem ik_iand (C : Cx G cy [] A p s m meth c args cc own nL rt) (q : Nat) {x y : Int32} (hd : decode cc pc = .ok (.iand, 1)) (hq : pc + 1 = q) (h : Ik G A p l e R s m args below meth c nL Q q lv (.int (x &&& y) :: st) ws n k) : Ik G A p l e R s m args below meth c nL Q pc lv (.int y :: .int x :: st) ws n k := by
  subst hq
  exact fun H locs ls hP hD hS hl => lv_iand C.1 C.2.1 hd (h H locs ls hP hD hS hl)
theorem ik_icgt (C : Cx G cy [] A p s m meth c args cc own nL rt) (t q : Nat) {off : Int} {x y : Int32} (hd : decode cc pc = .ok (.if_icmp .gt off, 3)) (ht : (pc : Int) + off = (t : Int)) (hq : pc + 3 = q) (h1 : y < x → Ik G A p l e R s m args below meth c nL Q t lv st ws n k) (h2 : ¬ y < x → Ik G A p l e R s m args below meth c nL Q q lv st ws n k) : Ik G A p l e R s m args below meth c nL Q pc lv (.int y :: .int x :: st) ws n k := by
  subst hq
  intro H locs ls hP hD hS hl
  exact lv_icmp_gt C.1 C.2.1 hd ht (fun hc => h1 hc H locs ls hP hD hS hl) (fun hc => h2 hc H locs ls hP hD hS hl)
theorem ik_iceq (C : Cx G cy [] A p s m meth c args cc own nL rt) (t : Nat) {off : Int} {x : Int32} (hd : decode cc pc = .ok (.if_icmp .eq off, 3)) (ht : (pc : Int) + off = (t : Int)) (h1 : Ik G A p l e R s m args below meth c nL Q t lv st ws n k) : Ik G A p l e R s m args below meth c nL Q pc lv (.int x :: .int x :: st) ws n k := by
  intro H locs ls hP hD hS hl
  exact lv_icmp_eq C.1 C.2.1 hd ht (fun _ => h1 H locs ls hP hD hS hl) (fun hc => absurd rfl hc)
theorem ik_tabIn (C : Cx G cy [] A p s m meth c args cc own nL rt) (t : Nat) {dflt lo hi : Int} {offs : Array Int} {len : Nat} {x y : Int32} {off : Int} (hxy : x = y) (hd : decode cc pc = .ok (.tableswitch dflt lo hi offs, len)) (h1 : ¬ y.toInt < lo) (h2 : ¬ hi < y.toInt) (ho : offs[(y.toInt - lo).toNat]? = some off) (ht : (pc : Int) + off = (t : Int)) (h : Ik G A p l e R s m args below meth c nL Q t lv st ws n k) : Ik G A p l e R s m args below meth c nL Q pc lv (.int x :: st) ws n k := by
  subst hxy
  exact fun H locs ls hP hD hS hl => lv_tableIn C.1 C.2.1 hd h1 h2 ho ht (h H locs ls hP hD hS hl)
theorem ik_tabOut (C : Cx G cy [] A p s m meth c args cc own nL rt) (t : Nat) {dflt lo hi : Int} {offs : Array Int} {len : Nat} {x : Int32} (hd : decode cc pc = .ok (.tableswitch dflt lo hi offs, len)) (h0 : x.toInt < lo ∨ hi < x.toInt) (ht : (pc : Int) + dflt = (t : Int)) (h : Ik G A p l e R s m args below meth c nL Q t lv st ws n k) : Ik G A p l e R s m args below meth c nL Q pc lv (.int x :: st) ws n k :=
  fun H locs ls hP hD hS hl => lv_tableOut C.1 C.2.1 hd h0 ht (h H locs ls hP hD hS hl)
theorem ik_sld (C : Cx G cy [] A p s m meth c args cc own nL rt) {b L : Nat} {xs : Nat → Int32} (hX : va_X b L xs s s.heap) (hbl : b < s.heap.size) (hbA : ¬ A b) (q j : Nat) {i : Int32} (hi : i = nI j) (hj : j < L) (hL : L ≤ 2048) (hd : decode cc pc = .ok (.iaload, 1)) (hq : pc + 1 = q) (h : Ik G A p l e R s m args below meth c nL Q q lv (.int (xs j) :: st) ws n k) : Ik G A p l e R s m args below meth c nL Q pc lv (.int i :: .ref b :: st) ws n k := by
  subst hq
  subst hi
  intro H locs ls hP hD hS hl
  refine va_sld C.1 C.2.1 hX hbl hbA hS (vp_in_nI hj (by omega)) hd ?_
  rw [nI_clamp (by omega)]
  exact h H locs ls hP hD hS hl
theorem ik_slen (C : Cx G cy [] A p s m meth c args cc own nL rt) {b L : Nat} {xs : Nat → Int32} (hX : va_X b L xs s s.heap) (hbl : b < s.heap.size) (hbA : ¬ A b) (q : Nat) (hd : decode cc pc = .ok (.arraylength, 1)) (hq : pc + 1 = q) (h : Ik G A p l e R s m args below meth c nL Q q lv (.int (nI L) :: st) ws n k) : Ik G A p l e R s m args below meth c nL Q pc lv (.ref b :: st) ws n k := by
  subst hq
  intro H locs ls hP hD hS hl
  exact va_slen C.1 C.2.1 hX hbl hbA hS hd (h H locs ls hP hD hS hl)
theorem ik_sub (ks : List Nat) (lv' : List (Nat × Value)) (hl0 : lv_pick lv ks = lv') (h : Ik G A p l e R s m args below meth c nL Q pc lv' st ws n k) : Ik G A p l e R s m args below meth c nL Q pc lv st ws n k :=
  fun H locs ls hP hD hS hl => h H locs ls hP hD hS (lv_sub hl ks hl0)
theorem ik_cI (C : Cx G cy [] A p s m meth c args cc own nL rt) (q : Nat) {ad : Nat → Nat → Nat} {U : List (Nat × Nat)} {D D1 : Dt} {r : Int32} {y : MethodName} {cb : ByteArray} {mx n9 fr lo index kd b ci : Nat} {rr : FieldType} {As fs : List Value} {T : u_T} {N : Nat} {st0 : List Value} {F : Option (Int32 × Dt)} (V : Vok y cb mx (some rr) n9) (hlink : Cond.methodLink own index y ∈ gt_T) (hM : Uinj ad U → MI l G ad U y cb mx rr (k2_rm fr lo) (.ref (ad kd b) :: As) D F) (hF : F = some (r, D1)) (h100 : tyL ad = tyL cy) (h101 : ad 101 = cy 101) (h102 : ad 102 = cy 102) (hm : (kd, b) ∈ U) (he : cel ad kd b (D kd b) = .inr (ci, fs)) (hc : vwCl[ci]? = some (y.cls, T, N)) (hR : Rle fr lo mx R) (hn : As.length = n9) (hst : st0 = As.reverse ++ .ref (ad kd b) :: st) (hcat : (st.map fun v => v.category).sum ≤ 8) (hf : n ≤ R.cells ∧ k ≤ R.slots) (hd : decode cc pc = .ok (.invokevirtual index, 3)) (hq : pc + 3 = q) (h : Ik G A p l e R s m args below meth c nL Q q lv (.int r :: st) (wl ad U D1) n k) : Ik G A p l e R s m args below meth c nL Q pc lv st0 (wl ad U D) n k := by
  subst hq
  intro H locs ls hP hD hS hl
  have hts := C.2.2.2.2.1
  have hFq : ∀ q : Nat, va_A (wl ad U D) H.size q → A q := by
    intro q h9
    rcases h9 with ⟨k9, e9, h9⟩ | h9
    · exact hD.2 k9 _ h9
    · exact C.2.2.2.2.2.2.2.2.2.2.2.2 q (Nat.le_trans hS.1 h9)
  obtain ⟨q0, -, h2⟩ := wl_at (ad := ad) (D := D) hm
  rw [he] at h2
  have hK := C.2.2.2.2.2.2.2.1
  have hpre : ∀ T : State, T.heap = H → s.WarmedH T.vm → va_Pc (.ref (ad kd b) :: As) (Wd G ad U D H.size) (Value.ref (ad kd b) :: As).toArray T := by
    intro T hT hW
    refine ⟨rfl, by rw [hT], by rw [hT]; exact hP, by rw [h100]; exact va_K.moved hW.alike hK, C.2.2.2.2.2.2.2.2.1.warm hW, ?_⟩
    rw [hT]
    exact sfix_to h101 h102 (((C.2.2.2.2.2.2.2.2.2.1.kept (fun a h1 h2 => hS.2.1 a h1 h2)).narrow hFq).warm hW)
  refine va_calli (va_runV (Ts := gt_T) (C := y.cls) (bytes := cb) (maxL := mx) (ret := some rr) (As := As) (rest := st) ⟨C.1, C.2.1, C.2.2.1, C.2.2.2.1, hts⟩ (hM (uinj_of hD) H.size (r, D1) hF) ⟨callB_of n9 hts (gi_ws V.2.2.2.1) rfl rfl rfl (hts _ V.2.2.1) (hts _ hlink) V.2.2.2.2 hR, hts _ V.1, hts _ V.2.1⟩ ⟨wd_blind, va_recv hK hP hc h2, hpre⟩ rfl hn hl.1 hst (lv_room hcat) hd hf) hS (fun q _ h => hFq q h) hFq (fun r1 u t H1 locs1 ht hvm hw hB hz hk hS1 => ?_)
  have hB : va_P G vwCl (wl ad U u) t.heap := hB
  have e1 : r1 = r := hw.1
  have e2 : u = D1 := hw.2
  rw [e2, ht] at hB
  rw [e1]
  exact h H1 locs1 ls hB (wl_Dt D1 hD) hS1 hl
end
def uF : List (Nat × Nat) := uR ++ [(32, 0), (33, 0), (34, 0), (35, 0), (36, 0), (37, 0), (38, 0), (39, 0)]
def adF (cy : Nat → Nat → Nat) (a a2 : Nat → Nat) : Nat → Nat → Nat := fun k b => if 100 ≤ k then cy k b else if 32 ≤ k then a2 (k - 32) else adR cy a k b
theorem uf_ToU_0 : ToU uF := (fun k h1 h2 => by rcases (show k = 22 ∨ k = 23 by omega) with rfl | rfl <;> decide)
theorem uf_SpU_0 : SpU uF 0 := (fun k h1 h2 => by rcases (show k = 1 ∨ k = 2 ∨ k = 3 ∨ k = 4 ∨ k = 5 ∨ k = 6 ∨ k = 7 ∨ k = 8 by omega) with rfl | rfl | rfl | rfl | rfl | rfl | rfl | rfl <;> decide)
theorem uf_HoU_0 : HoU uF 0 := (fun k h1 h2 => by rcases (show k = 9 ∨ k = 10 ∨ k = 11 ∨ k = 12 ∨ k = 13 ∨ k = 14 ∨ k = 15 by omega) with rfl | rfl | rfl | rfl | rfl | rfl | rfl <;> decide)
theorem uf_StU_0 : StU uF 0 := ⟨(fun k h1 h2 => by rcases (show k = 0 by omega) with rfl <;> decide), uf_SpU_0, uf_HoU_0⟩
theorem uf_SpU_1 : SpU uF 1 := (fun k h1 h2 => by rcases (show k = 1 ∨ k = 2 ∨ k = 3 ∨ k = 4 ∨ k = 5 ∨ k = 6 ∨ k = 7 ∨ k = 8 by omega) with rfl | rfl | rfl | rfl | rfl | rfl | rfl | rfl <;> decide)
theorem uf_HoU_1 : HoU uF 1 := (fun k h1 h2 => by rcases (show k = 9 ∨ k = 10 ∨ k = 11 ∨ k = 12 ∨ k = 13 ∨ k = 14 ∨ k = 15 by omega) with rfl | rfl | rfl | rfl | rfl | rfl | rfl <;> decide)
theorem uf_StU_1 : StU uF 1 := ⟨(fun k h1 h2 => by rcases (show k = 0 by omega) with rfl <;> decide), uf_SpU_1, uf_HoU_1⟩
theorem uf_SpU_2 : SpU uF 2 := (fun k h1 h2 => by rcases (show k = 1 ∨ k = 2 ∨ k = 3 ∨ k = 4 ∨ k = 5 ∨ k = 6 ∨ k = 7 ∨ k = 8 by omega) with rfl | rfl | rfl | rfl | rfl | rfl | rfl | rfl <;> decide)
theorem uf_HoU_2 : HoU uF 2 := (fun k h1 h2 => by rcases (show k = 9 ∨ k = 10 ∨ k = 11 ∨ k = 12 ∨ k = 13 ∨ k = 14 ∨ k = 15 by omega) with rfl | rfl | rfl | rfl | rfl | rfl | rfl <;> decide)
theorem uf_StU_2 : StU uF 2 := ⟨(fun k h1 h2 => by rcases (show k = 0 by omega) with rfl <;> decide), uf_SpU_2, uf_HoU_2⟩
theorem uf_SpU_3 : SpU uF 3 := (fun k h1 h2 => by rcases (show k = 1 ∨ k = 2 ∨ k = 3 ∨ k = 4 ∨ k = 5 ∨ k = 6 ∨ k = 7 ∨ k = 8 by omega) with rfl | rfl | rfl | rfl | rfl | rfl | rfl | rfl <;> decide)
theorem uf_HoU_3 : HoU uF 3 := (fun k h1 h2 => by rcases (show k = 9 ∨ k = 10 ∨ k = 11 ∨ k = 12 ∨ k = 13 ∨ k = 14 ∨ k = 15 by omega) with rfl | rfl | rfl | rfl | rfl | rfl | rfl <;> decide)
theorem uf_StU_3 : StU uF 3 := ⟨(fun k h1 h2 => by rcases (show k = 0 by omega) with rfl <;> decide), uf_SpU_3, uf_HoU_3⟩
theorem uf_SpU_4 : SpU uF 4 := (fun k h1 h2 => by rcases (show k = 1 ∨ k = 2 ∨ k = 3 ∨ k = 4 ∨ k = 5 ∨ k = 6 ∨ k = 7 ∨ k = 8 by omega) with rfl | rfl | rfl | rfl | rfl | rfl | rfl | rfl <;> decide)
theorem uf_HoU_4 : HoU uF 4 := (fun k h1 h2 => by rcases (show k = 9 ∨ k = 10 ∨ k = 11 ∨ k = 12 ∨ k = 13 ∨ k = 14 ∨ k = 15 by omega) with rfl | rfl | rfl | rfl | rfl | rfl | rfl <;> decide)
theorem uf_StU_4 : StU uF 4 := ⟨(fun k h1 h2 => by rcases (show k = 0 by omega) with rfl <;> decide), uf_SpU_4, uf_HoU_4⟩
theorem uf_SpU_5 : SpU uF 5 := (fun k h1 h2 => by rcases (show k = 1 ∨ k = 2 ∨ k = 3 ∨ k = 4 ∨ k = 5 ∨ k = 6 ∨ k = 7 ∨ k = 8 by omega) with rfl | rfl | rfl | rfl | rfl | rfl | rfl | rfl <;> decide)
theorem uf_HoU_5 : HoU uF 5 := (fun k h1 h2 => by rcases (show k = 9 ∨ k = 10 ∨ k = 11 ∨ k = 12 ∨ k = 13 ∨ k = 14 ∨ k = 15 by omega) with rfl | rfl | rfl | rfl | rfl | rfl | rfl <;> decide)
theorem uf_StU_5 : StU uF 5 := ⟨(fun k h1 h2 => by rcases (show k = 0 by omega) with rfl <;> decide), uf_SpU_5, uf_HoU_5⟩
theorem uf_SpU_6 : SpU uF 6 := (fun k h1 h2 => by rcases (show k = 1 ∨ k = 2 ∨ k = 3 ∨ k = 4 ∨ k = 5 ∨ k = 6 ∨ k = 7 ∨ k = 8 by omega) with rfl | rfl | rfl | rfl | rfl | rfl | rfl | rfl <;> decide)
theorem uf_HoU_6 : HoU uF 6 := (fun k h1 h2 => by rcases (show k = 9 ∨ k = 10 ∨ k = 11 ∨ k = 12 ∨ k = 13 ∨ k = 14 ∨ k = 15 by omega) with rfl | rfl | rfl | rfl | rfl | rfl | rfl <;> decide)
theorem uf_StU_6 : StU uF 6 := ⟨(fun k h1 h2 => by rcases (show k = 0 by omega) with rfl <;> decide), uf_SpU_6, uf_HoU_6⟩
theorem uf_SpU_7 : SpU uF 7 := (fun k h1 h2 => by rcases (show k = 1 ∨ k = 2 ∨ k = 3 ∨ k = 4 ∨ k = 5 ∨ k = 6 ∨ k = 7 ∨ k = 8 by omega) with rfl | rfl | rfl | rfl | rfl | rfl | rfl | rfl <;> decide)
theorem uf_HoU_7 : HoU uF 7 := (fun k h1 h2 => by rcases (show k = 9 ∨ k = 10 ∨ k = 11 ∨ k = 12 ∨ k = 13 ∨ k = 14 ∨ k = 15 by omega) with rfl | rfl | rfl | rfl | rfl | rfl | rfl <;> decide)
theorem uf_StU_7 : StU uF 7 := ⟨(fun k h1 h2 => by rcases (show k = 0 by omega) with rfl <;> decide), uf_SpU_7, uf_HoU_7⟩
theorem uf_HiU_0 : HiU uF := ⟨(fun k h1 h2 => by rcases (show k = 24 ∨ k = 25 by omega) with rfl | rfl <;> decide), (fun b h1 h2 => by rcases (show b = 2 ∨ b = 3 ∨ b = 4 ∨ b = 5 ∨ b = 6 ∨ b = 7 by omega) with rfl | rfl | rfl | rfl | rfl | rfl <;> first | exact uf_StU_2 | exact uf_StU_3 | exact uf_StU_4 | exact uf_StU_5 | exact uf_StU_6 | exact uf_StU_7)⟩
theorem uf_BlU_0 : BlU uF 0 := (fun k h1 h2 => by rcases (show k = 19 ∨ k = 20 ∨ k = 21 by omega) with rfl | rfl | rfl <;> decide)
theorem uf_SuU_0 : SuU uF 0 := ⟨(fun k h1 h2 => by rcases (show k = 16 ∨ k = 17 ∨ k = 18 by omega) with rfl | rfl | rfl <;> decide), uf_BlU_0⟩
theorem uf_BlU_3 : BlU uF 3 := (fun k h1 h2 => by rcases (show k = 19 ∨ k = 20 ∨ k = 21 by omega) with rfl | rfl | rfl <;> decide)
theorem uf_ReU_0 : ReU uF := ⟨(fun k h1 h2 => by rcases (show k = 26 by omega) with rfl <;> decide), uf_ToU_0, uf_StU_1, uf_SuU_0⟩
theorem uf_SpU_8 : SpU uF 8 := (fun k h1 h2 => by rcases (show k = 1 ∨ k = 2 ∨ k = 3 ∨ k = 4 ∨ k = 5 ∨ k = 6 ∨ k = 7 ∨ k = 8 by omega) with rfl | rfl | rfl | rfl | rfl | rfl | rfl | rfl <;> decide)
theorem uf_BlU_1 : BlU uF 1 := (fun k h1 h2 => by rcases (show k = 19 ∨ k = 20 ∨ k = 21 by omega) with rfl | rfl | rfl <;> decide)
theorem uf_SuU_1 : SuU uF 1 := ⟨(fun k h1 h2 => by rcases (show k = 16 ∨ k = 17 ∨ k = 18 by omega) with rfl | rfl | rfl <;> decide), uf_BlU_1⟩
theorem uf_BlU_2 : BlU uF 2 := (fun k h1 h2 => by rcases (show k = 19 ∨ k = 20 ∨ k = 21 by omega) with rfl | rfl | rfl <;> decide)
theorem uf_SuU_2 : SuU uF 2 := ⟨(fun k h1 h2 => by rcases (show k = 16 ∨ k = 17 ∨ k = 18 by omega) with rfl | rfl | rfl <;> decide), uf_BlU_2⟩
theorem uf_PlU_0 : PlU uF := ⟨(fun k h1 h2 => by rcases (show k = 27 ∨ k = 28 ∨ k = 29 ∨ k = 30 by omega) with rfl | rfl | rfl | rfl <;> decide), uf_SpU_8, uf_SuU_1, uf_SuU_2⟩
theorem uf_PrU_0 : PrU uF := ⟨(fun k h1 h2 => by rcases (show k = 31 by omega) with rfl <;> decide), uf_ToU_0, uf_StU_0, uf_StU_1, uf_HiU_0, uf_SuU_0, uf_BlU_3, uf_ReU_0, uf_PlU_0⟩
theorem uf_MoU_0 : MoU uF := (fun k h1 h2 => by rcases (show k = 32 ∨ k = 33 ∨ k = 34 ∨ k = 35 ∨ k = 36 ∨ k = 37 ∨ k = 38 ∨ k = 39 by omega) with rfl | rfl | rfl | rfl | rfl | rfl | rfl | rfl <;> decide)
/-- class and reference answer alike, call by call -/
def AllOK (Inv : Dt → Prop) : Prop :=
  (∀ (x1 : Int32) (D : Dt), Inv D → ∃ (r : Int32) (D1 D2 : Dt), f_X9_appendCharacter x1 D = some (r, D1) ∧ f_X10_appendCharacter x1 D1 = some (r, D2) ∧ Inv D2) ∧
  (∀ (_ : Unit) (D : Dt), Inv D → ∃ (r : Int32) (D1 D2 : Dt), f_X9_clearText D = some (r, D1) ∧ f_X10_clearText D1 = some (r, D2) ∧ Inv D2) ∧
  (∀ (_ : Unit) (D : Dt), Inv D → ∃ (r : Int32) (D1 D2 : Dt), f_X9_load D = some (r, D1) ∧ f_X10_load D1 = some (r, D2) ∧ Inv D2) ∧
  (∀ (x1 x2 : Int32) (D : Dt), Inv D → ∃ (r : Int32) (D1 D2 : Dt), f_X9_addPool x1 x2 D = some (r, D1) ∧ f_X10_addPool x1 x2 D1 = some (r, D2) ∧ Inv D2) ∧
  (∀ (x1 : Int32) (D : Dt), Inv D → ∃ (r : Int32) (D1 D2 : Dt), f_X9_removePool x1 D = some (r, D1) ∧ f_X10_removePool x1 D1 = some (r, D2) ∧ Inv D2) ∧
  (∀ (x1 : Int32) (D : Dt), Inv D → ∃ (r : Int32) (D1 D2 : Dt), f_X9_setPolicy x1 D = some (r, D1) ∧ f_X10_setPolicy x1 D1 = some (r, D2) ∧ Inv D2) ∧
  (∀ (x1 x2 : Int32) (D : Dt), Inv D → ∃ (r : Int32) (D1 D2 : Dt), f_X9_pool x1 x2 D = some (r, D1) ∧ f_X10_pool x1 x2 D1 = some (r, D2) ∧ Inv D2) ∧
  (∀ (x1 : Int32) (D : Dt), Inv D → ∃ (r : Int32) (D1 D2 : Dt), f_X9_freeBlocks x1 D = some (r, D1) ∧ f_X10_freeBlocks x1 D1 = some (r, D2) ∧ Inv D2) ∧
  (∀ (_ : Unit) (D : Dt), Inv D → ∃ (r : Int32) (D1 D2 : Dt), f_X9_largestFree D = some (r, D1) ∧ f_X10_largestFree D1 = some (r, D2) ∧ Inv D2) ∧
  (∀ (x1 : Int32) (D : Dt), Inv D → ∃ (r : Int32) (D1 D2 : Dt), f_X9_capacity x1 D = some (r, D1) ∧ f_X10_capacity x1 D1 = some (r, D2) ∧ Inv D2) ∧
  (∀ (_ : Unit) (D : Dt), Inv D → ∃ (r : Int32) (D1 D2 : Dt), f_X9_fragmentation D = some (r, D1) ∧ f_X10_fragmentation D1 = some (r, D2) ∧ Inv D2) ∧
  (∀ (x1 x2 : Int32) (D : Dt), Inv D → ∃ (r : Int32) (D1 D2 : Dt), f_X9_assign x1 x2 D = some (r, D1) ∧ f_X10_assign x1 x2 D1 = some (r, D2) ∧ Inv D2) ∧
  (∀ (x1 : Int32) (D : Dt), Inv D → ∃ (r : Int32) (D1 D2 : Dt), f_X9_release x1 D = some (r, D1) ∧ f_X10_release x1 D1 = some (r, D2) ∧ Inv D2) ∧
  (∀ (x1 x2 : Int32) (D : Dt), Inv D → ∃ (r : Int32) (D1 D2 : Dt), f_X9_resize x1 x2 D = some (r, D1) ∧ f_X10_resize x1 x2 D1 = some (r, D2) ∧ Inv D2) ∧
  (∀ (x1 x2 : Int32) (D : Dt), Inv D → ∃ (r : Int32) (D1 D2 : Dt), f_X9_renumber x1 x2 D = some (r, D1) ∧ f_X10_renumber x1 x2 D1 = some (r, D2) ∧ Inv D2) ∧
  (∀ (x1 : Int32) (D : Dt), Inv D → ∃ (r : Int32) (D1 D2 : Dt), f_X9_wave x1 D = some (r, D1) ∧ f_X10_wave x1 D1 = some (r, D2) ∧ Inv D2) ∧
  (∀ (x1 x2 : Int32) (D : Dt), Inv D → ∃ (r : Int32) (D1 D2 : Dt), (f_X9_network x1 x2 D).bind (fun r => some (r, D)) = some (r, D1) ∧ (f_X10_network x1 x2 D1).bind (fun r => some (r, D1)) = some (r, D2) ∧ Inv D2) ∧
  (∀ (x1 : Int32) (D : Dt), Inv D → ∃ (r : Int32) (D1 D2 : Dt), (f_X9_owner x1 D).bind (fun r => some (r, D)) = some (r, D1) ∧ (f_X10_owner x1 D1).bind (fun r => some (r, D1)) = some (r, D2) ∧ Inv D2) ∧
  (∀ (x1 x2 x3 : Int32) (D : Dt), Inv D → ∃ (r : Int32) (D1 D2 : Dt), f_X9_addHost x1 x2 x3 D = some (r, D1) ∧ f_X10_addHost x1 x2 x3 D1 = some (r, D2) ∧ Inv D2) ∧
  (∀ (x1 : Int32) (D : Dt), Inv D → ∃ (r : Int32) (D1 D2 : Dt), f_X9_removeHost x1 D = some (r, D1) ∧ f_X10_removeHost x1 D1 = some (r, D2) ∧ Inv D2) ∧
  (∀ (x1 : Int32) (D : Dt), Inv D → ∃ (r : Int32) (D1 D2 : Dt), f_X9_request x1 D = some (r, D1) ∧ f_X10_request x1 D1 = some (r, D2) ∧ Inv D2) ∧
  (∀ (x1 x2 : Int32) (D : Dt), Inv D → ∃ (r : Int32) (D1 D2 : Dt), (f_X9_host x1 x2 D).bind (fun r => some (r, D)) = some (r, D1) ∧ (f_X10_host x1 x2 D1).bind (fun r => some (r, D1)) = some (r, D2) ∧ Inv D2) ∧
  (∀ (x1 : Int32) (D : Dt), Inv D → ∃ (r : Int32) (D1 D2 : Dt), (f_X9_leaseOf x1 D).bind (fun r => some (r, D)) = some (r, D1) ∧ (f_X10_leaseOf x1 D1).bind (fun r => some (r, D1)) = some (r, D2) ∧ Inv D2) ∧
  (∀ (x1 : Int32) (D : Dt), Inv D → ∃ (r : Int32) (D1 D2 : Dt), f_X9_pass x1 D = some (r, D1) ∧ f_X10_pass x1 D1 = some (r, D2) ∧ Inv D2) ∧
  (∀ (x1 x2 : Int32) (D : Dt), Inv D → ∃ (r : Int32) (D1 D2 : Dt), f_X9_setTimes x1 x2 D = some (r, D1) ∧ f_X10_setTimes x1 x2 D1 = some (r, D2) ∧ Inv D2) ∧
  (∀ (_ : Unit) (D : Dt), Inv D → ∃ (r : Int32) (D1 D2 : Dt), (f_X9_nextEvent D).bind (fun r => some (r, D)) = some (r, D1) ∧ (f_X10_nextEvent D1).bind (fun r => some (r, D1)) = some (r, D2) ∧ Inv D2) ∧
  (∀ (x1 : Int32) (D : Dt), Inv D → ∃ (r : Int32) (D1 D2 : Dt), f_X9_count x1 D = some (r, D1) ∧ f_X10_count x1 D1 = some (r, D2) ∧ Inv D2) ∧
  (∀ (_ : Unit) (D : Dt), Inv D → ∃ (r : Int32) (D1 D2 : Dt), f_X9_routeCount D = some (r, D1) ∧ f_X10_routeCount D1 = some (r, D2) ∧ Inv D2) ∧
  (∀ (x1 x2 : Int32) (D : Dt), Inv D → ∃ (r : Int32) (D1 D2 : Dt), f_X9_route x1 x2 D = some (r, D1) ∧ f_X10_route x1 x2 D1 = some (r, D2) ∧ Inv D2) ∧
  (∀ (x1 : Int32) (D : Dt), Inv D → ∃ (r : Int32) (D1 D2 : Dt), f_X9_fragmentationAfter x1 D = some (r, D1) ∧ f_X10_fragmentationAfter x1 D1 = some (r, D2) ∧ Inv D2) ∧
  (∀ (_ : Unit) (D : Dt), Inv D → ∃ (r : Int32) (D1 D2 : Dt), f_X9_bestMove D = some (r, D1) ∧ f_X10_bestMove D1 = some (r, D2) ∧ Inv D2) ∧
  (∀ (x1 : Int32) (D : Dt), Inv D → ∃ (r : Int32) (D1 D2 : Dt), f_X9_makePlan x1 D = some (r, D1) ∧ f_X10_makePlan x1 D1 = some (r, D2) ∧ Inv D2) ∧
  (∀ (x1 x2 : Int32) (D : Dt), Inv D → ∃ (r : Int32) (D1 D2 : Dt), (f_X9_plan x1 x2 D).bind (fun r => some (r, D)) = some (r, D1) ∧ (f_X10_plan x1 x2 D1).bind (fun r => some (r, D1)) = some (r, D2) ∧ Inv D2) ∧
  (∀ (_ : Unit) (D : Dt), Inv D → ∃ (r : Int32) (D1 D2 : Dt), f_X9_undo D = some (r, D1) ∧ f_X10_undo D1 = some (r, D2) ∧ Inv D2)
theorem uf_Mo9 : (∀ k : Nat, 32 ≤ k → k ≤ 39 → (k, 0) ∈ uF) ∧ True := ⟨uf_MoU_0, trivial⟩
set_option maxRecDepth 100000 in
set_option maxHeartbeats 4000000 in
theorem law_case0 {Inv : Dt → Prop} (hAll : AllOK Inv) {G : va_G} {cy : Nat → Nat → Nat} {a a2 : Nat → Nat} {p : Program} {l : Launch} {e : Env} {s : State} {m : MethodId} {below : List Frame} {meth : Method} {c : Code} {b L : Nat} {xs : Nat → Int32} (hL : L ≤ 2048) (C0 : lw_At p s m meth c b L xs) (C : Cx G cy [] (fun q => s.heap.size ≤ q) p s m meth c #[Value.ref b] code RL 4 (some .boolean)) {i : Nat} (hi : i + 4 ≤ L) {D : Dt} (hD : Inv D) (h : ∀ D2, Inv D2 → Ik G (fun q => s.heap.size ≤ q) p l e room_1 s m #[Value.ref b] below meth c 4 (lw_Z below #[Value.ref b] s) 1006 [(0, .ref b), (1, .ref (adF cy a a2 31 0)), (2, .ref (adF cy a a2 32 0)), (3, .int (nI i))] [] (wl (adF cy a a2) uF D2) 175 7450) : Ik G (fun q => s.heap.size ≤ q) p l e room_1 s m #[Value.ref b] below meth c 4 (lw_Z below #[Value.ref b] s) 184 [(0, .ref b), (1, .ref (adF cy a a2 31 0)), (2, .ref (adF cy a a2 32 0)), (3, .int (nI i))] [] (wl (adF cy a a2) uF D) 175 7450 := by
  obtain ⟨-, -, -, -, -, -, hX, hbl, -, -⟩ := id C0
  have hbA : ¬ (fun q : Nat => s.heap.size ≤ q) b := Nat.not_le.mpr hbl
  obtain ⟨r, D1, D2, e1, e2, hI⟩ := hAll.1 (xs (i + 1)) D hD
  refine ik_aload_n C 185 1 dL_law_184 rfl rfl rfl ?_
  refine ik_aload_n C 186 0 dL_law_185 rfl rfl rfl ?_
  refine ik_iload_n C 187 3 dL_law_186 rfl rfl rfl ?_
  refine ik_iconst C 188 dL_law_187 rfl k_ic1 ?_
  refine ik_iadd C 189 dL_law_188 rfl ?_
  refine ik_sld C hX hbl hbA 190 (i + 1) (nI_add i 1) (by omega) hL dL_law_189 rfl ?_
  refine ik_cI C 193 (ad := adF cy a a2) (U := uF) (D := D) (D1 := D1) (r := r) (kd := 31) (b := 0) vk_X9_appendCharacter gw_353 (fun hU => c_X9_appendCharacter (x1 := (xs (i + 1))) hU uf_PrU_0) e1 rfl rfl rfl (uf_PrU_0.1 31 (by decide) (by decide)) rfl rfl (rle2 rfl) rfl (st := []) rfl (Nat.le_of_ble_eq_true rfl) ⟨Nat.le_of_ble_eq_true rfl, Nat.le_of_ble_eq_true rfl⟩ dL_law_190 rfl ?_
  refine ik_aload_n C 194 2 dL_law_193 rfl rfl rfl ?_
  refine ik_aload_n C 195 0 dL_law_194 rfl rfl rfl ?_
  refine ik_iload_n C 196 3 dL_law_195 rfl rfl rfl ?_
  refine ik_iconst C 197 dL_law_196 rfl k_ic1 ?_
  refine ik_iadd C 198 dL_law_197 rfl ?_
  refine ik_sld C hX hbl hbA 199 (i + 1) (nI_add i 1) (by omega) hL dL_law_198 rfl ?_
  refine ik_cI C 202 (ad := adF cy a a2) (U := uF) (D := D1) (D1 := D2) (r := r) (kd := 32) (b := 0) vk_X10_appendCharacter gw_1062 (fun hU => c_X10_appendCharacter (x1 := (xs (i + 1))) hU uf_MoU_0) e2 rfl rfl rfl (uf_Mo9.1 32 (by decide) (by decide)) rfl rfl (rle2 rfl) rfl (st := [.int r]) rfl (Nat.le_of_ble_eq_true rfl) ⟨Nat.le_of_ble_eq_true rfl, Nat.le_of_ble_eq_true rfl⟩ dL_law_199 rfl ?_
  refine ik_iceq C 1006 dL_law_202 rfl ?_
  exact h D2 hI
set_option maxRecDepth 100000 in
set_option maxHeartbeats 4000000 in
theorem law_case1 {Inv : Dt → Prop} (hAll : AllOK Inv) {G : va_G} {cy : Nat → Nat → Nat} {a a2 : Nat → Nat} {p : Program} {l : Launch} {e : Env} {s : State} {m : MethodId} {below : List Frame} {meth : Method} {c : Code} {b L : Nat} {xs : Nat → Int32} (hL : L ≤ 2048) (C0 : lw_At p s m meth c b L xs) (C : Cx G cy [] (fun q => s.heap.size ≤ q) p s m meth c #[Value.ref b] code RL 4 (some .boolean)) {i : Nat} (hi : i + 4 ≤ L) {D : Dt} (hD : Inv D) (h : ∀ D2, Inv D2 → Ik G (fun q => s.heap.size ≤ q) p l e room_1 s m #[Value.ref b] below meth c 4 (lw_Z below #[Value.ref b] s) 1006 [(0, .ref b), (1, .ref (adF cy a a2 31 0)), (2, .ref (adF cy a a2 32 0)), (3, .int (nI i))] [] (wl (adF cy a a2) uF D2) 175 7450) : Ik G (fun q => s.heap.size ≤ q) p l e room_1 s m #[Value.ref b] below meth c 4 (lw_Z below #[Value.ref b] s) 207 [(0, .ref b), (1, .ref (adF cy a a2 31 0)), (2, .ref (adF cy a a2 32 0)), (3, .int (nI i))] [] (wl (adF cy a a2) uF D) 175 7450 := by
  obtain ⟨-, -, -, -, -, -, hX, hbl, -, -⟩ := id C0
  have hbA : ¬ (fun q : Nat => s.heap.size ≤ q) b := Nat.not_le.mpr hbl
  obtain ⟨r, D1, D2, e1, e2, hI⟩ := hAll.2.1 () D hD
  refine ik_aload_n C 208 1 dL_law_207 rfl rfl rfl ?_
  refine ik_cI C 211 (ad := adF cy a a2) (U := uF) (D := D) (D1 := D1) (r := r) (kd := 31) (b := 0) vk_X9_clearText gw_364 (fun hU => c_X9_clearText hU uf_PrU_0) e1 rfl rfl rfl (uf_PrU_0.1 31 (by decide) (by decide)) rfl rfl (rle2 rfl) rfl (st := []) rfl (Nat.le_of_ble_eq_true rfl) ⟨Nat.le_of_ble_eq_true rfl, Nat.le_of_ble_eq_true rfl⟩ dL_law_208 rfl ?_
  refine ik_aload_n C 212 2 dL_law_211 rfl rfl rfl ?_
  refine ik_cI C 215 (ad := adF cy a a2) (U := uF) (D := D1) (D1 := D2) (r := r) (kd := 32) (b := 0) vk_X10_clearText gw_1069 (fun hU => c_X10_clearText hU uf_MoU_0) e2 rfl rfl rfl (uf_Mo9.1 32 (by decide) (by decide)) rfl rfl (rle2 rfl) rfl (st := [.int r]) rfl (Nat.le_of_ble_eq_true rfl) ⟨Nat.le_of_ble_eq_true rfl, Nat.le_of_ble_eq_true rfl⟩ dL_law_212 rfl ?_
  refine ik_iceq C 1006 dL_law_215 rfl ?_
  exact h D2 hI
set_option maxRecDepth 100000 in
set_option maxHeartbeats 4000000 in
theorem law_case2 {Inv : Dt → Prop} (hAll : AllOK Inv) {G : va_G} {cy : Nat → Nat → Nat} {a a2 : Nat → Nat} {p : Program} {l : Launch} {e : Env} {s : State} {m : MethodId} {below : List Frame} {meth : Method} {c : Code} {b L : Nat} {xs : Nat → Int32} (hL : L ≤ 2048) (C0 : lw_At p s m meth c b L xs) (C : Cx G cy [] (fun q => s.heap.size ≤ q) p s m meth c #[Value.ref b] code RL 4 (some .boolean)) {i : Nat} (hi : i + 4 ≤ L) {D : Dt} (hD : Inv D) (h : ∀ D2, Inv D2 → Ik G (fun q => s.heap.size ≤ q) p l e room_1 s m #[Value.ref b] below meth c 4 (lw_Z below #[Value.ref b] s) 1006 [(0, .ref b), (1, .ref (adF cy a a2 31 0)), (2, .ref (adF cy a a2 32 0)), (3, .int (nI i))] [] (wl (adF cy a a2) uF D2) 175 7450) : Ik G (fun q => s.heap.size ≤ q) p l e room_1 s m #[Value.ref b] below meth c 4 (lw_Z below #[Value.ref b] s) 220 [(0, .ref b), (1, .ref (adF cy a a2 31 0)), (2, .ref (adF cy a a2 32 0)), (3, .int (nI i))] [] (wl (adF cy a a2) uF D) 175 7450 := by
  obtain ⟨-, -, -, -, -, -, hX, hbl, -, -⟩ := id C0
  have hbA : ¬ (fun q : Nat => s.heap.size ≤ q) b := Nat.not_le.mpr hbl
  obtain ⟨r, D1, D2, e1, e2, hI⟩ := hAll.2.2.1 () D hD
  refine ik_aload_n C 221 1 dL_law_220 rfl rfl rfl ?_
  refine ik_cI C 224 (ad := adF cy a a2) (U := uF) (D := D) (D1 := D1) (r := r) (kd := 31) (b := 0) vk_X9_load gw_368 (fun hU => c_X9_load hU uf_PrU_0) e1 rfl rfl rfl (uf_PrU_0.1 31 (by decide) (by decide)) rfl rfl (rle2 rfl) rfl (st := []) rfl (Nat.le_of_ble_eq_true rfl) ⟨Nat.le_of_ble_eq_true rfl, Nat.le_of_ble_eq_true rfl⟩ dL_law_221 rfl ?_
  refine ik_aload_n C 225 2 dL_law_224 rfl rfl rfl ?_
  refine ik_cI C 228 (ad := adF cy a a2) (U := uF) (D := D1) (D1 := D2) (r := r) (kd := 32) (b := 0) vk_X10_load gw_1073 (fun hU => c_X10_load hU uf_MoU_0) e2 rfl rfl rfl (uf_Mo9.1 32 (by decide) (by decide)) rfl rfl (rle2 rfl) rfl (st := [.int r]) rfl (Nat.le_of_ble_eq_true rfl) ⟨Nat.le_of_ble_eq_true rfl, Nat.le_of_ble_eq_true rfl⟩ dL_law_225 rfl ?_
  refine ik_iceq C 1006 dL_law_228 rfl ?_
  exact h D2 hI
set_option maxRecDepth 100000 in
set_option maxHeartbeats 4000000 in
theorem law_case3 {Inv : Dt → Prop} (hAll : AllOK Inv) {G : va_G} {cy : Nat → Nat → Nat} {a a2 : Nat → Nat} {p : Program} {l : Launch} {e : Env} {s : State} {m : MethodId} {below : List Frame} {meth : Method} {c : Code} {b L : Nat} {xs : Nat → Int32} (hL : L ≤ 2048) (C0 : lw_At p s m meth c b L xs) (C : Cx G cy [] (fun q => s.heap.size ≤ q) p s m meth c #[Value.ref b] code RL 4 (some .boolean)) {i : Nat} (hi : i + 4 ≤ L) {D : Dt} (hD : Inv D) (h : ∀ D2, Inv D2 → Ik G (fun q => s.heap.size ≤ q) p l e room_1 s m #[Value.ref b] below meth c 4 (lw_Z below #[Value.ref b] s) 1006 [(0, .ref b), (1, .ref (adF cy a a2 31 0)), (2, .ref (adF cy a a2 32 0)), (3, .int (nI i))] [] (wl (adF cy a a2) uF D2) 175 7450) : Ik G (fun q => s.heap.size ≤ q) p l e room_1 s m #[Value.ref b] below meth c 4 (lw_Z below #[Value.ref b] s) 233 [(0, .ref b), (1, .ref (adF cy a a2 31 0)), (2, .ref (adF cy a a2 32 0)), (3, .int (nI i))] [] (wl (adF cy a a2) uF D) 175 7450 := by
  obtain ⟨-, -, -, -, -, -, hX, hbl, -, -⟩ := id C0
  have hbA : ¬ (fun q : Nat => s.heap.size ≤ q) b := Nat.not_le.mpr hbl
  obtain ⟨r, D1, D2, e1, e2, hI⟩ := hAll.2.2.2.1 (xs (i + 1)) (xs (i + 2)) D hD
  refine ik_aload_n C 234 1 dL_law_233 rfl rfl rfl ?_
  refine ik_aload_n C 235 0 dL_law_234 rfl rfl rfl ?_
  refine ik_iload_n C 236 3 dL_law_235 rfl rfl rfl ?_
  refine ik_iconst C 237 dL_law_236 rfl k_ic1 ?_
  refine ik_iadd C 238 dL_law_237 rfl ?_
  refine ik_sld C hX hbl hbA 239 (i + 1) (nI_add i 1) (by omega) hL dL_law_238 rfl ?_
  refine ik_aload_n C 240 0 dL_law_239 rfl rfl rfl ?_
  refine ik_iload_n C 241 3 dL_law_240 rfl rfl rfl ?_
  refine ik_iconst C 242 dL_law_241 rfl k_ic2 ?_
  refine ik_iadd C 243 dL_law_242 rfl ?_
  refine ik_sld C hX hbl hbA 244 (i + 2) (nI_add i 2) (by omega) hL dL_law_243 rfl ?_
  refine ik_cI C 247 (ad := adF cy a a2) (U := uF) (D := D) (D1 := D1) (r := r) (kd := 31) (b := 0) vk_X9_addPool gw_609 (fun hU => c_X9_addPool (x1 := (xs (i + 1))) (x2 := (xs (i + 2))) hU uf_PrU_0) e1 rfl rfl rfl (uf_PrU_0.1 31 (by decide) (by decide)) rfl rfl (rle2 rfl) rfl (st := []) rfl (Nat.le_of_ble_eq_true rfl) ⟨Nat.le_of_ble_eq_true rfl, Nat.le_of_ble_eq_true rfl⟩ dL_law_244 rfl ?_
  refine ik_aload_n C 248 2 dL_law_247 rfl rfl rfl ?_
  refine ik_aload_n C 249 0 dL_law_248 rfl rfl rfl ?_
  refine ik_iload_n C 250 3 dL_law_249 rfl rfl rfl ?_
  refine ik_iconst C 251 dL_law_250 rfl k_ic1 ?_
  refine ik_iadd C 252 dL_law_251 rfl ?_
  refine ik_sld C hX hbl hbA 253 (i + 1) (nI_add i 1) (by omega) hL dL_law_252 rfl ?_
  refine ik_aload_n C 254 0 dL_law_253 rfl rfl rfl ?_
  refine ik_iload_n C 255 3 dL_law_254 rfl rfl rfl ?_
  refine ik_iconst C 256 dL_law_255 rfl k_ic2 ?_
  refine ik_iadd C 257 dL_law_256 rfl ?_
  refine ik_sld C hX hbl hbA 258 (i + 2) (nI_add i 2) (by omega) hL dL_law_257 rfl ?_
  refine ik_cI C 261 (ad := adF cy a a2) (U := uF) (D := D1) (D1 := D2) (r := r) (kd := 32) (b := 0) vk_X10_addPool gw_1176 (fun hU => c_X10_addPool (x1 := (xs (i + 1))) (x2 := (xs (i + 2))) hU uf_MoU_0) e2 rfl rfl rfl (uf_Mo9.1 32 (by decide) (by decide)) rfl rfl (rle2 rfl) rfl (st := [.int r]) rfl (Nat.le_of_ble_eq_true rfl) ⟨Nat.le_of_ble_eq_true rfl, Nat.le_of_ble_eq_true rfl⟩ dL_law_258 rfl ?_
  refine ik_iceq C 1006 dL_law_261 rfl ?_
  exact h D2 hI
set_option maxRecDepth 100000 in
set_option maxHeartbeats 4000000 in
theorem law_case4 {Inv : Dt → Prop} (hAll : AllOK Inv) {G : va_G} {cy : Nat → Nat → Nat} {a a2 : Nat → Nat} {p : Program} {l : Launch} {e : Env} {s : State} {m : MethodId} {below : List Frame} {meth : Method} {c : Code} {b L : Nat} {xs : Nat → Int32} (hL : L ≤ 2048) (C0 : lw_At p s m meth c b L xs) (C : Cx G cy [] (fun q => s.heap.size ≤ q) p s m meth c #[Value.ref b] code RL 4 (some .boolean)) {i : Nat} (hi : i + 4 ≤ L) {D : Dt} (hD : Inv D) (h : ∀ D2, Inv D2 → Ik G (fun q => s.heap.size ≤ q) p l e room_1 s m #[Value.ref b] below meth c 4 (lw_Z below #[Value.ref b] s) 1006 [(0, .ref b), (1, .ref (adF cy a a2 31 0)), (2, .ref (adF cy a a2 32 0)), (3, .int (nI i))] [] (wl (adF cy a a2) uF D2) 175 7450) : Ik G (fun q => s.heap.size ≤ q) p l e room_1 s m #[Value.ref b] below meth c 4 (lw_Z below #[Value.ref b] s) 266 [(0, .ref b), (1, .ref (adF cy a a2 31 0)), (2, .ref (adF cy a a2 32 0)), (3, .int (nI i))] [] (wl (adF cy a a2) uF D) 175 7450 := by
  obtain ⟨-, -, -, -, -, -, hX, hbl, -, -⟩ := id C0
  have hbA : ¬ (fun q : Nat => s.heap.size ≤ q) b := Nat.not_le.mpr hbl
  obtain ⟨r, D1, D2, e1, e2, hI⟩ := hAll.2.2.2.2.1 (xs (i + 1)) D hD
  refine ik_aload_n C 267 1 dL_law_266 rfl rfl rfl ?_
  refine ik_aload_n C 268 0 dL_law_267 rfl rfl rfl ?_
  refine ik_iload_n C 269 3 dL_law_268 rfl rfl rfl ?_
  refine ik_iconst C 270 dL_law_269 rfl k_ic1 ?_
  refine ik_iadd C 271 dL_law_270 rfl ?_
  refine ik_sld C hX hbl hbA 272 (i + 1) (nI_add i 1) (by omega) hL dL_law_271 rfl ?_
  refine ik_cI C 275 (ad := adF cy a a2) (U := uF) (D := D) (D1 := D1) (r := r) (kd := 31) (b := 0) vk_X9_removePool gw_617 (fun hU => c_X9_removePool (x1 := (xs (i + 1))) hU uf_PrU_0) e1 rfl rfl rfl (uf_PrU_0.1 31 (by decide) (by decide)) rfl rfl (rle2 rfl) rfl (st := []) rfl (Nat.le_of_ble_eq_true rfl) ⟨Nat.le_of_ble_eq_true rfl, Nat.le_of_ble_eq_true rfl⟩ dL_law_272 rfl ?_
  refine ik_aload_n C 276 2 dL_law_275 rfl rfl rfl ?_
  refine ik_aload_n C 277 0 dL_law_276 rfl rfl rfl ?_
  refine ik_iload_n C 278 3 dL_law_277 rfl rfl rfl ?_
  refine ik_iconst C 279 dL_law_278 rfl k_ic1 ?_
  refine ik_iadd C 280 dL_law_279 rfl ?_
  refine ik_sld C hX hbl hbA 281 (i + 1) (nI_add i 1) (by omega) hL dL_law_280 rfl ?_
  refine ik_cI C 284 (ad := adF cy a a2) (U := uF) (D := D1) (D1 := D2) (r := r) (kd := 32) (b := 0) vk_X10_removePool gw_1180 (fun hU => c_X10_removePool (x1 := (xs (i + 1))) hU uf_MoU_0) e2 rfl rfl rfl (uf_Mo9.1 32 (by decide) (by decide)) rfl rfl (rle2 rfl) rfl (st := [.int r]) rfl (Nat.le_of_ble_eq_true rfl) ⟨Nat.le_of_ble_eq_true rfl, Nat.le_of_ble_eq_true rfl⟩ dL_law_281 rfl ?_
  refine ik_iceq C 1006 dL_law_284 rfl ?_
  exact h D2 hI
set_option maxRecDepth 100000 in
set_option maxHeartbeats 4000000 in
theorem law_case5 {Inv : Dt → Prop} (hAll : AllOK Inv) {G : va_G} {cy : Nat → Nat → Nat} {a a2 : Nat → Nat} {p : Program} {l : Launch} {e : Env} {s : State} {m : MethodId} {below : List Frame} {meth : Method} {c : Code} {b L : Nat} {xs : Nat → Int32} (hL : L ≤ 2048) (C0 : lw_At p s m meth c b L xs) (C : Cx G cy [] (fun q => s.heap.size ≤ q) p s m meth c #[Value.ref b] code RL 4 (some .boolean)) {i : Nat} (hi : i + 4 ≤ L) {D : Dt} (hD : Inv D) (h : ∀ D2, Inv D2 → Ik G (fun q => s.heap.size ≤ q) p l e room_1 s m #[Value.ref b] below meth c 4 (lw_Z below #[Value.ref b] s) 1006 [(0, .ref b), (1, .ref (adF cy a a2 31 0)), (2, .ref (adF cy a a2 32 0)), (3, .int (nI i))] [] (wl (adF cy a a2) uF D2) 175 7450) : Ik G (fun q => s.heap.size ≤ q) p l e room_1 s m #[Value.ref b] below meth c 4 (lw_Z below #[Value.ref b] s) 289 [(0, .ref b), (1, .ref (adF cy a a2 31 0)), (2, .ref (adF cy a a2 32 0)), (3, .int (nI i))] [] (wl (adF cy a a2) uF D) 175 7450 := by
  obtain ⟨-, -, -, -, -, -, hX, hbl, -, -⟩ := id C0
  have hbA : ¬ (fun q : Nat => s.heap.size ≤ q) b := Nat.not_le.mpr hbl
  obtain ⟨r, D1, D2, e1, e2, hI⟩ := hAll.2.2.2.2.2.1 (xs (i + 1)) D hD
  refine ik_aload_n C 290 1 dL_law_289 rfl rfl rfl ?_
  refine ik_aload_n C 291 0 dL_law_290 rfl rfl rfl ?_
  refine ik_iload_n C 292 3 dL_law_291 rfl rfl rfl ?_
  refine ik_iconst C 293 dL_law_292 rfl k_ic1 ?_
  refine ik_iadd C 294 dL_law_293 rfl ?_
  refine ik_sld C hX hbl hbA 295 (i + 1) (nI_add i 1) (by omega) hL dL_law_294 rfl ?_
  refine ik_cI C 298 (ad := adF cy a a2) (U := uF) (D := D) (D1 := D1) (r := r) (kd := 31) (b := 0) vk_X9_setPolicy gw_636 (fun hU => c_X9_setPolicy (x1 := (xs (i + 1))) hU uf_PrU_0) e1 rfl rfl rfl (uf_PrU_0.1 31 (by decide) (by decide)) rfl rfl (rle2 rfl) rfl (st := []) rfl (Nat.le_of_ble_eq_true rfl) ⟨Nat.le_of_ble_eq_true rfl, Nat.le_of_ble_eq_true rfl⟩ dL_law_295 rfl ?_
  refine ik_aload_n C 299 2 dL_law_298 rfl rfl rfl ?_
  refine ik_aload_n C 300 0 dL_law_299 rfl rfl rfl ?_
  refine ik_iload_n C 301 3 dL_law_300 rfl rfl rfl ?_
  refine ik_iconst C 302 dL_law_301 rfl k_ic1 ?_
  refine ik_iadd C 303 dL_law_302 rfl ?_
  refine ik_sld C hX hbl hbA 304 (i + 1) (nI_add i 1) (by omega) hL dL_law_303 rfl ?_
  refine ik_cI C 307 (ad := adF cy a a2) (U := uF) (D := D1) (D1 := D2) (r := r) (kd := 32) (b := 0) vk_X10_setPolicy gw_1188 (fun hU => c_X10_setPolicy (x1 := (xs (i + 1))) hU uf_MoU_0) e2 rfl rfl rfl (uf_Mo9.1 32 (by decide) (by decide)) rfl rfl (rle2 rfl) rfl (st := [.int r]) rfl (Nat.le_of_ble_eq_true rfl) ⟨Nat.le_of_ble_eq_true rfl, Nat.le_of_ble_eq_true rfl⟩ dL_law_304 rfl ?_
  refine ik_iceq C 1006 dL_law_307 rfl ?_
  exact h D2 hI
set_option maxRecDepth 100000 in
set_option maxHeartbeats 4000000 in
theorem law_case6 {Inv : Dt → Prop} (hAll : AllOK Inv) {G : va_G} {cy : Nat → Nat → Nat} {a a2 : Nat → Nat} {p : Program} {l : Launch} {e : Env} {s : State} {m : MethodId} {below : List Frame} {meth : Method} {c : Code} {b L : Nat} {xs : Nat → Int32} (hL : L ≤ 2048) (C0 : lw_At p s m meth c b L xs) (C : Cx G cy [] (fun q => s.heap.size ≤ q) p s m meth c #[Value.ref b] code RL 4 (some .boolean)) {i : Nat} (hi : i + 4 ≤ L) {D : Dt} (hD : Inv D) (h : ∀ D2, Inv D2 → Ik G (fun q => s.heap.size ≤ q) p l e room_1 s m #[Value.ref b] below meth c 4 (lw_Z below #[Value.ref b] s) 1006 [(0, .ref b), (1, .ref (adF cy a a2 31 0)), (2, .ref (adF cy a a2 32 0)), (3, .int (nI i))] [] (wl (adF cy a a2) uF D2) 175 7450) : Ik G (fun q => s.heap.size ≤ q) p l e room_1 s m #[Value.ref b] below meth c 4 (lw_Z below #[Value.ref b] s) 312 [(0, .ref b), (1, .ref (adF cy a a2 31 0)), (2, .ref (adF cy a a2 32 0)), (3, .int (nI i))] [] (wl (adF cy a a2) uF D) 175 7450 := by
  obtain ⟨-, -, -, -, -, -, hX, hbl, -, -⟩ := id C0
  have hbA : ¬ (fun q : Nat => s.heap.size ≤ q) b := Nat.not_le.mpr hbl
  obtain ⟨r, D1, D2, e1, e2, hI⟩ := hAll.2.2.2.2.2.2.1 (xs (i + 1)) (xs (i + 2)) D hD
  refine ik_aload_n C 313 1 dL_law_312 rfl rfl rfl ?_
  refine ik_aload_n C 314 0 dL_law_313 rfl rfl rfl ?_
  refine ik_iload_n C 315 3 dL_law_314 rfl rfl rfl ?_
  refine ik_iconst C 316 dL_law_315 rfl k_ic1 ?_
  refine ik_iadd C 317 dL_law_316 rfl ?_
  refine ik_sld C hX hbl hbA 318 (i + 1) (nI_add i 1) (by omega) hL dL_law_317 rfl ?_
  refine ik_aload_n C 319 0 dL_law_318 rfl rfl rfl ?_
  refine ik_iload_n C 320 3 dL_law_319 rfl rfl rfl ?_
  refine ik_iconst C 321 dL_law_320 rfl k_ic2 ?_
  refine ik_iadd C 322 dL_law_321 rfl ?_
  refine ik_sld C hX hbl hbA 323 (i + 2) (nI_add i 2) (by omega) hL dL_law_322 rfl ?_
  refine ik_cI C 326 (ad := adF cy a a2) (U := uF) (D := D) (D1 := D1) (r := r) (kd := 31) (b := 0) vk_X9_pool gw_640 (fun hU => c_X9_pool (x1 := (xs (i + 1))) (x2 := (xs (i + 2))) hU uf_PrU_0) e1 rfl rfl rfl (uf_PrU_0.1 31 (by decide) (by decide)) rfl rfl (rle2 rfl) rfl (st := []) rfl (Nat.le_of_ble_eq_true rfl) ⟨Nat.le_of_ble_eq_true rfl, Nat.le_of_ble_eq_true rfl⟩ dL_law_323 rfl ?_
  refine ik_aload_n C 327 2 dL_law_326 rfl rfl rfl ?_
  refine ik_aload_n C 328 0 dL_law_327 rfl rfl rfl ?_
  refine ik_iload_n C 329 3 dL_law_328 rfl rfl rfl ?_
  refine ik_iconst C 330 dL_law_329 rfl k_ic1 ?_
  refine ik_iadd C 331 dL_law_330 rfl ?_
  refine ik_sld C hX hbl hbA 332 (i + 1) (nI_add i 1) (by omega) hL dL_law_331 rfl ?_
  refine ik_aload_n C 333 0 dL_law_332 rfl rfl rfl ?_
  refine ik_iload_n C 334 3 dL_law_333 rfl rfl rfl ?_
  refine ik_iconst C 335 dL_law_334 rfl k_ic2 ?_
  refine ik_iadd C 336 dL_law_335 rfl ?_
  refine ik_sld C hX hbl hbA 337 (i + 2) (nI_add i 2) (by omega) hL dL_law_336 rfl ?_
  refine ik_cI C 340 (ad := adF cy a a2) (U := uF) (D := D1) (D1 := D2) (r := r) (kd := 32) (b := 0) vk_X10_pool gw_1192 (fun hU => c_X10_pool (x1 := (xs (i + 1))) (x2 := (xs (i + 2))) hU uf_MoU_0) e2 rfl rfl rfl (uf_Mo9.1 32 (by decide) (by decide)) rfl rfl (rle2 rfl) rfl (st := [.int r]) rfl (Nat.le_of_ble_eq_true rfl) ⟨Nat.le_of_ble_eq_true rfl, Nat.le_of_ble_eq_true rfl⟩ dL_law_337 rfl ?_
  refine ik_iceq C 1006 dL_law_340 rfl ?_
  exact h D2 hI
set_option maxRecDepth 100000 in
set_option maxHeartbeats 4000000 in
theorem law_case7 {Inv : Dt → Prop} (hAll : AllOK Inv) {G : va_G} {cy : Nat → Nat → Nat} {a a2 : Nat → Nat} {p : Program} {l : Launch} {e : Env} {s : State} {m : MethodId} {below : List Frame} {meth : Method} {c : Code} {b L : Nat} {xs : Nat → Int32} (hL : L ≤ 2048) (C0 : lw_At p s m meth c b L xs) (C : Cx G cy [] (fun q => s.heap.size ≤ q) p s m meth c #[Value.ref b] code RL 4 (some .boolean)) {i : Nat} (hi : i + 4 ≤ L) {D : Dt} (hD : Inv D) (h : ∀ D2, Inv D2 → Ik G (fun q => s.heap.size ≤ q) p l e room_1 s m #[Value.ref b] below meth c 4 (lw_Z below #[Value.ref b] s) 1006 [(0, .ref b), (1, .ref (adF cy a a2 31 0)), (2, .ref (adF cy a a2 32 0)), (3, .int (nI i))] [] (wl (adF cy a a2) uF D2) 175 7450) : Ik G (fun q => s.heap.size ≤ q) p l e room_1 s m #[Value.ref b] below meth c 4 (lw_Z below #[Value.ref b] s) 345 [(0, .ref b), (1, .ref (adF cy a a2 31 0)), (2, .ref (adF cy a a2 32 0)), (3, .int (nI i))] [] (wl (adF cy a a2) uF D) 175 7450 := by
  obtain ⟨-, -, -, -, -, -, hX, hbl, -, -⟩ := id C0
  have hbA : ¬ (fun q : Nat => s.heap.size ≤ q) b := Nat.not_le.mpr hbl
  obtain ⟨r, D1, D2, e1, e2, hI⟩ := hAll.2.2.2.2.2.2.2.1 (xs (i + 1)) D hD
  refine ik_aload_n C 346 1 dL_law_345 rfl rfl rfl ?_
  refine ik_aload_n C 347 0 dL_law_346 rfl rfl rfl ?_
  refine ik_iload_n C 348 3 dL_law_347 rfl rfl rfl ?_
  refine ik_iconst C 349 dL_law_348 rfl k_ic1 ?_
  refine ik_iadd C 350 dL_law_349 rfl ?_
  refine ik_sld C hX hbl hbA 351 (i + 1) (nI_add i 1) (by omega) hL dL_law_350 rfl ?_
  refine ik_cI C 354 (ad := adF cy a a2) (U := uF) (D := D) (D1 := D1) (r := r) (kd := 31) (b := 0) vk_X9_freeBlocks gw_648 (fun hU => c_X9_freeBlocks (x1 := (xs (i + 1))) hU uf_PrU_0) e1 rfl rfl rfl (uf_PrU_0.1 31 (by decide) (by decide)) rfl rfl (rle2 rfl) rfl (st := []) rfl (Nat.le_of_ble_eq_true rfl) ⟨Nat.le_of_ble_eq_true rfl, Nat.le_of_ble_eq_true rfl⟩ dL_law_351 rfl ?_
  refine ik_aload_n C 355 2 dL_law_354 rfl rfl rfl ?_
  refine ik_aload_n C 356 0 dL_law_355 rfl rfl rfl ?_
  refine ik_iload_n C 357 3 dL_law_356 rfl rfl rfl ?_
  refine ik_iconst C 358 dL_law_357 rfl k_ic1 ?_
  refine ik_iadd C 359 dL_law_358 rfl ?_
  refine ik_sld C hX hbl hbA 360 (i + 1) (nI_add i 1) (by omega) hL dL_law_359 rfl ?_
  refine ik_cI C 363 (ad := adF cy a a2) (U := uF) (D := D1) (D1 := D2) (r := r) (kd := 32) (b := 0) vk_X10_freeBlocks gw_1196 (fun hU => c_X10_freeBlocks (x1 := (xs (i + 1))) hU uf_MoU_0) e2 rfl rfl rfl (uf_Mo9.1 32 (by decide) (by decide)) rfl rfl (rle2 rfl) rfl (st := [.int r]) rfl (Nat.le_of_ble_eq_true rfl) ⟨Nat.le_of_ble_eq_true rfl, Nat.le_of_ble_eq_true rfl⟩ dL_law_360 rfl ?_
  refine ik_iceq C 1006 dL_law_363 rfl ?_
  exact h D2 hI
set_option maxRecDepth 100000 in
set_option maxHeartbeats 4000000 in
theorem law_case8 {Inv : Dt → Prop} (hAll : AllOK Inv) {G : va_G} {cy : Nat → Nat → Nat} {a a2 : Nat → Nat} {p : Program} {l : Launch} {e : Env} {s : State} {m : MethodId} {below : List Frame} {meth : Method} {c : Code} {b L : Nat} {xs : Nat → Int32} (hL : L ≤ 2048) (C0 : lw_At p s m meth c b L xs) (C : Cx G cy [] (fun q => s.heap.size ≤ q) p s m meth c #[Value.ref b] code RL 4 (some .boolean)) {i : Nat} (hi : i + 4 ≤ L) {D : Dt} (hD : Inv D) (h : ∀ D2, Inv D2 → Ik G (fun q => s.heap.size ≤ q) p l e room_1 s m #[Value.ref b] below meth c 4 (lw_Z below #[Value.ref b] s) 1006 [(0, .ref b), (1, .ref (adF cy a a2 31 0)), (2, .ref (adF cy a a2 32 0)), (3, .int (nI i))] [] (wl (adF cy a a2) uF D2) 175 7450) : Ik G (fun q => s.heap.size ≤ q) p l e room_1 s m #[Value.ref b] below meth c 4 (lw_Z below #[Value.ref b] s) 368 [(0, .ref b), (1, .ref (adF cy a a2 31 0)), (2, .ref (adF cy a a2 32 0)), (3, .int (nI i))] [] (wl (adF cy a a2) uF D) 175 7450 := by
  obtain ⟨-, -, -, -, -, -, hX, hbl, -, -⟩ := id C0
  have hbA : ¬ (fun q : Nat => s.heap.size ≤ q) b := Nat.not_le.mpr hbl
  obtain ⟨r, D1, D2, e1, e2, hI⟩ := hAll.2.2.2.2.2.2.2.2.1 () D hD
  refine ik_aload_n C 369 1 dL_law_368 rfl rfl rfl ?_
  refine ik_cI C 372 (ad := adF cy a a2) (U := uF) (D := D) (D1 := D1) (r := r) (kd := 31) (b := 0) vk_X9_largestFree gw_656 (fun hU => c_X9_largestFree hU uf_PrU_0) e1 rfl rfl rfl (uf_PrU_0.1 31 (by decide) (by decide)) rfl rfl (rle2 rfl) rfl (st := []) rfl (Nat.le_of_ble_eq_true rfl) ⟨Nat.le_of_ble_eq_true rfl, Nat.le_of_ble_eq_true rfl⟩ dL_law_369 rfl ?_
  refine ik_aload_n C 373 2 dL_law_372 rfl rfl rfl ?_
  refine ik_cI C 376 (ad := adF cy a a2) (U := uF) (D := D1) (D1 := D2) (r := r) (kd := 32) (b := 0) vk_X10_largestFree gw_1200 (fun hU => c_X10_largestFree hU uf_MoU_0) e2 rfl rfl rfl (uf_Mo9.1 32 (by decide) (by decide)) rfl rfl (rle2 rfl) rfl (st := [.int r]) rfl (Nat.le_of_ble_eq_true rfl) ⟨Nat.le_of_ble_eq_true rfl, Nat.le_of_ble_eq_true rfl⟩ dL_law_373 rfl ?_
  refine ik_iceq C 1006 dL_law_376 rfl ?_
  exact h D2 hI
set_option maxRecDepth 100000 in
set_option maxHeartbeats 4000000 in
theorem law_case9 {Inv : Dt → Prop} (hAll : AllOK Inv) {G : va_G} {cy : Nat → Nat → Nat} {a a2 : Nat → Nat} {p : Program} {l : Launch} {e : Env} {s : State} {m : MethodId} {below : List Frame} {meth : Method} {c : Code} {b L : Nat} {xs : Nat → Int32} (hL : L ≤ 2048) (C0 : lw_At p s m meth c b L xs) (C : Cx G cy [] (fun q => s.heap.size ≤ q) p s m meth c #[Value.ref b] code RL 4 (some .boolean)) {i : Nat} (hi : i + 4 ≤ L) {D : Dt} (hD : Inv D) (h : ∀ D2, Inv D2 → Ik G (fun q => s.heap.size ≤ q) p l e room_1 s m #[Value.ref b] below meth c 4 (lw_Z below #[Value.ref b] s) 1006 [(0, .ref b), (1, .ref (adF cy a a2 31 0)), (2, .ref (adF cy a a2 32 0)), (3, .int (nI i))] [] (wl (adF cy a a2) uF D2) 175 7450) : Ik G (fun q => s.heap.size ≤ q) p l e room_1 s m #[Value.ref b] below meth c 4 (lw_Z below #[Value.ref b] s) 381 [(0, .ref b), (1, .ref (adF cy a a2 31 0)), (2, .ref (adF cy a a2 32 0)), (3, .int (nI i))] [] (wl (adF cy a a2) uF D) 175 7450 := by
  obtain ⟨-, -, -, -, -, -, hX, hbl, -, -⟩ := id C0
  have hbA : ¬ (fun q : Nat => s.heap.size ≤ q) b := Nat.not_le.mpr hbl
  obtain ⟨r, D1, D2, e1, e2, hI⟩ := hAll.2.2.2.2.2.2.2.2.2.1 (xs (i + 1)) D hD
  refine ik_aload_n C 382 1 dL_law_381 rfl rfl rfl ?_
  refine ik_aload_n C 383 0 dL_law_382 rfl rfl rfl ?_
  refine ik_iload_n C 384 3 dL_law_383 rfl rfl rfl ?_
  refine ik_iconst C 385 dL_law_384 rfl k_ic1 ?_
  refine ik_iadd C 386 dL_law_385 rfl ?_
  refine ik_sld C hX hbl hbA 387 (i + 1) (nI_add i 1) (by omega) hL dL_law_386 rfl ?_
  refine ik_cI C 390 (ad := adF cy a a2) (U := uF) (D := D) (D1 := D1) (r := r) (kd := 31) (b := 0) vk_X9_capacity gw_664 (fun hU => c_X9_capacity (x1 := (xs (i + 1))) hU uf_PrU_0) e1 rfl rfl rfl (uf_PrU_0.1 31 (by decide) (by decide)) rfl rfl (rle2 rfl) rfl (st := []) rfl (Nat.le_of_ble_eq_true rfl) ⟨Nat.le_of_ble_eq_true rfl, Nat.le_of_ble_eq_true rfl⟩ dL_law_387 rfl ?_
  refine ik_aload_n C 391 2 dL_law_390 rfl rfl rfl ?_
  refine ik_aload_n C 392 0 dL_law_391 rfl rfl rfl ?_
  refine ik_iload_n C 393 3 dL_law_392 rfl rfl rfl ?_
  refine ik_iconst C 394 dL_law_393 rfl k_ic1 ?_
  refine ik_iadd C 395 dL_law_394 rfl ?_
  refine ik_sld C hX hbl hbA 396 (i + 1) (nI_add i 1) (by omega) hL dL_law_395 rfl ?_
  refine ik_cI C 399 (ad := adF cy a a2) (U := uF) (D := D1) (D1 := D2) (r := r) (kd := 32) (b := 0) vk_X10_capacity gw_1208 (fun hU => c_X10_capacity (x1 := (xs (i + 1))) hU uf_MoU_0) e2 rfl rfl rfl (uf_Mo9.1 32 (by decide) (by decide)) rfl rfl (rle2 rfl) rfl (st := [.int r]) rfl (Nat.le_of_ble_eq_true rfl) ⟨Nat.le_of_ble_eq_true rfl, Nat.le_of_ble_eq_true rfl⟩ dL_law_396 rfl ?_
  refine ik_iceq C 1006 dL_law_399 rfl ?_
  exact h D2 hI
set_option maxRecDepth 100000 in
set_option maxHeartbeats 4000000 in
theorem law_case10 {Inv : Dt → Prop} (hAll : AllOK Inv) {G : va_G} {cy : Nat → Nat → Nat} {a a2 : Nat → Nat} {p : Program} {l : Launch} {e : Env} {s : State} {m : MethodId} {below : List Frame} {meth : Method} {c : Code} {b L : Nat} {xs : Nat → Int32} (hL : L ≤ 2048) (C0 : lw_At p s m meth c b L xs) (C : Cx G cy [] (fun q => s.heap.size ≤ q) p s m meth c #[Value.ref b] code RL 4 (some .boolean)) {i : Nat} (hi : i + 4 ≤ L) {D : Dt} (hD : Inv D) (h : ∀ D2, Inv D2 → Ik G (fun q => s.heap.size ≤ q) p l e room_1 s m #[Value.ref b] below meth c 4 (lw_Z below #[Value.ref b] s) 1006 [(0, .ref b), (1, .ref (adF cy a a2 31 0)), (2, .ref (adF cy a a2 32 0)), (3, .int (nI i))] [] (wl (adF cy a a2) uF D2) 175 7450) : Ik G (fun q => s.heap.size ≤ q) p l e room_1 s m #[Value.ref b] below meth c 4 (lw_Z below #[Value.ref b] s) 404 [(0, .ref b), (1, .ref (adF cy a a2 31 0)), (2, .ref (adF cy a a2 32 0)), (3, .int (nI i))] [] (wl (adF cy a a2) uF D) 175 7450 := by
  obtain ⟨-, -, -, -, -, -, hX, hbl, -, -⟩ := id C0
  have hbA : ¬ (fun q : Nat => s.heap.size ≤ q) b := Nat.not_le.mpr hbl
  obtain ⟨r, D1, D2, e1, e2, hI⟩ := hAll.2.2.2.2.2.2.2.2.2.2.1 () D hD
  refine ik_aload_n C 405 1 dL_law_404 rfl rfl rfl ?_
  refine ik_cI C 408 (ad := adF cy a a2) (U := uF) (D := D) (D1 := D1) (r := r) (kd := 31) (b := 0) vk_X9_fragmentation gw_672 (fun hU => c_X9_fragmentation hU uf_PrU_0) e1 rfl rfl rfl (uf_PrU_0.1 31 (by decide) (by decide)) rfl rfl (rle2 rfl) rfl (st := []) rfl (Nat.le_of_ble_eq_true rfl) ⟨Nat.le_of_ble_eq_true rfl, Nat.le_of_ble_eq_true rfl⟩ dL_law_405 rfl ?_
  refine ik_aload_n C 409 2 dL_law_408 rfl rfl rfl ?_
  refine ik_cI C 412 (ad := adF cy a a2) (U := uF) (D := D1) (D1 := D2) (r := r) (kd := 32) (b := 0) vk_X10_fragmentation gw_1212 (fun hU => c_X10_fragmentation hU uf_MoU_0) e2 rfl rfl rfl (uf_Mo9.1 32 (by decide) (by decide)) rfl rfl (rle2 rfl) rfl (st := [.int r]) rfl (Nat.le_of_ble_eq_true rfl) ⟨Nat.le_of_ble_eq_true rfl, Nat.le_of_ble_eq_true rfl⟩ dL_law_409 rfl ?_
  refine ik_iceq C 1006 dL_law_412 rfl ?_
  exact h D2 hI
set_option maxRecDepth 100000 in
set_option maxHeartbeats 4000000 in
theorem law_case11 {Inv : Dt → Prop} (hAll : AllOK Inv) {G : va_G} {cy : Nat → Nat → Nat} {a a2 : Nat → Nat} {p : Program} {l : Launch} {e : Env} {s : State} {m : MethodId} {below : List Frame} {meth : Method} {c : Code} {b L : Nat} {xs : Nat → Int32} (hL : L ≤ 2048) (C0 : lw_At p s m meth c b L xs) (C : Cx G cy [] (fun q => s.heap.size ≤ q) p s m meth c #[Value.ref b] code RL 4 (some .boolean)) {i : Nat} (hi : i + 4 ≤ L) {D : Dt} (hD : Inv D) (h : ∀ D2, Inv D2 → Ik G (fun q => s.heap.size ≤ q) p l e room_1 s m #[Value.ref b] below meth c 4 (lw_Z below #[Value.ref b] s) 1006 [(0, .ref b), (1, .ref (adF cy a a2 31 0)), (2, .ref (adF cy a a2 32 0)), (3, .int (nI i))] [] (wl (adF cy a a2) uF D2) 175 7450) : Ik G (fun q => s.heap.size ≤ q) p l e room_1 s m #[Value.ref b] below meth c 4 (lw_Z below #[Value.ref b] s) 417 [(0, .ref b), (1, .ref (adF cy a a2 31 0)), (2, .ref (adF cy a a2 32 0)), (3, .int (nI i))] [] (wl (adF cy a a2) uF D) 175 7450 := by
  obtain ⟨-, -, -, -, -, -, hX, hbl, -, -⟩ := id C0
  have hbA : ¬ (fun q : Nat => s.heap.size ≤ q) b := Nat.not_le.mpr hbl
  obtain ⟨r, D1, D2, e1, e2, hI⟩ := hAll.2.2.2.2.2.2.2.2.2.2.2.1 (xs (i + 1)) (xs (i + 2)) D hD
  refine ik_aload_n C 418 1 dL_law_417 rfl rfl rfl ?_
  refine ik_aload_n C 419 0 dL_law_418 rfl rfl rfl ?_
  refine ik_iload_n C 420 3 dL_law_419 rfl rfl rfl ?_
  refine ik_iconst C 421 dL_law_420 rfl k_ic1 ?_
  refine ik_iadd C 422 dL_law_421 rfl ?_
  refine ik_sld C hX hbl hbA 423 (i + 1) (nI_add i 1) (by omega) hL dL_law_422 rfl ?_
  refine ik_aload_n C 424 0 dL_law_423 rfl rfl rfl ?_
  refine ik_iload_n C 425 3 dL_law_424 rfl rfl rfl ?_
  refine ik_iconst C 426 dL_law_425 rfl k_ic2 ?_
  refine ik_iadd C 427 dL_law_426 rfl ?_
  refine ik_sld C hX hbl hbA 428 (i + 2) (nI_add i 2) (by omega) hL dL_law_427 rfl ?_
  refine ik_cI C 431 (ad := adF cy a a2) (U := uF) (D := D) (D1 := D1) (r := r) (kd := 31) (b := 0) vk_X9_assign gw_685 (fun hU => c_X9_assign (x1 := (xs (i + 1))) (x2 := (xs (i + 2))) hU uf_PrU_0) e1 rfl rfl rfl (uf_PrU_0.1 31 (by decide) (by decide)) rfl rfl (rle2 rfl) rfl (st := []) rfl (Nat.le_of_ble_eq_true rfl) ⟨Nat.le_of_ble_eq_true rfl, Nat.le_of_ble_eq_true rfl⟩ dL_law_428 rfl ?_
  refine ik_aload_n C 432 2 dL_law_431 rfl rfl rfl ?_
  refine ik_aload_n C 433 0 dL_law_432 rfl rfl rfl ?_
  refine ik_iload_n C 434 3 dL_law_433 rfl rfl rfl ?_
  refine ik_iconst C 435 dL_law_434 rfl k_ic1 ?_
  refine ik_iadd C 436 dL_law_435 rfl ?_
  refine ik_sld C hX hbl hbA 437 (i + 1) (nI_add i 1) (by omega) hL dL_law_436 rfl ?_
  refine ik_aload_n C 438 0 dL_law_437 rfl rfl rfl ?_
  refine ik_iload_n C 439 3 dL_law_438 rfl rfl rfl ?_
  refine ik_iconst C 440 dL_law_439 rfl k_ic2 ?_
  refine ik_iadd C 441 dL_law_440 rfl ?_
  refine ik_sld C hX hbl hbA 442 (i + 2) (nI_add i 2) (by omega) hL dL_law_441 rfl ?_
  refine ik_cI C 445 (ad := adF cy a a2) (U := uF) (D := D1) (D1 := D2) (r := r) (kd := 32) (b := 0) vk_X10_assign gw_1220 (fun hU => c_X10_assign (x1 := (xs (i + 1))) (x2 := (xs (i + 2))) hU uf_MoU_0) e2 rfl rfl rfl (uf_Mo9.1 32 (by decide) (by decide)) rfl rfl (rle2 rfl) rfl (st := [.int r]) rfl (Nat.le_of_ble_eq_true rfl) ⟨Nat.le_of_ble_eq_true rfl, Nat.le_of_ble_eq_true rfl⟩ dL_law_442 rfl ?_
  refine ik_iceq C 1006 dL_law_445 rfl ?_
  exact h D2 hI
set_option maxRecDepth 100000 in
set_option maxHeartbeats 4000000 in
theorem law_case12 {Inv : Dt → Prop} (hAll : AllOK Inv) {G : va_G} {cy : Nat → Nat → Nat} {a a2 : Nat → Nat} {p : Program} {l : Launch} {e : Env} {s : State} {m : MethodId} {below : List Frame} {meth : Method} {c : Code} {b L : Nat} {xs : Nat → Int32} (hL : L ≤ 2048) (C0 : lw_At p s m meth c b L xs) (C : Cx G cy [] (fun q => s.heap.size ≤ q) p s m meth c #[Value.ref b] code RL 4 (some .boolean)) {i : Nat} (hi : i + 4 ≤ L) {D : Dt} (hD : Inv D) (h : ∀ D2, Inv D2 → Ik G (fun q => s.heap.size ≤ q) p l e room_1 s m #[Value.ref b] below meth c 4 (lw_Z below #[Value.ref b] s) 1006 [(0, .ref b), (1, .ref (adF cy a a2 31 0)), (2, .ref (adF cy a a2 32 0)), (3, .int (nI i))] [] (wl (adF cy a a2) uF D2) 175 7450) : Ik G (fun q => s.heap.size ≤ q) p l e room_1 s m #[Value.ref b] below meth c 4 (lw_Z below #[Value.ref b] s) 450 [(0, .ref b), (1, .ref (adF cy a a2 31 0)), (2, .ref (adF cy a a2 32 0)), (3, .int (nI i))] [] (wl (adF cy a a2) uF D) 175 7450 := by
  obtain ⟨-, -, -, -, -, -, hX, hbl, -, -⟩ := id C0
  have hbA : ¬ (fun q : Nat => s.heap.size ≤ q) b := Nat.not_le.mpr hbl
  obtain ⟨r, D1, D2, e1, e2, hI⟩ := hAll.2.2.2.2.2.2.2.2.2.2.2.2.1 (xs (i + 1)) D hD
  refine ik_aload_n C 451 1 dL_law_450 rfl rfl rfl ?_
  refine ik_aload_n C 452 0 dL_law_451 rfl rfl rfl ?_
  refine ik_iload_n C 453 3 dL_law_452 rfl rfl rfl ?_
  refine ik_iconst C 454 dL_law_453 rfl k_ic1 ?_
  refine ik_iadd C 455 dL_law_454 rfl ?_
  refine ik_sld C hX hbl hbA 456 (i + 1) (nI_add i 1) (by omega) hL dL_law_455 rfl ?_
  refine ik_cI C 459 (ad := adF cy a a2) (U := uF) (D := D) (D1 := D1) (r := r) (kd := 31) (b := 0) vk_X9_release gw_693 (fun hU => c_X9_release (x1 := (xs (i + 1))) hU uf_PrU_0) e1 rfl rfl rfl (uf_PrU_0.1 31 (by decide) (by decide)) rfl rfl (rle2 rfl) rfl (st := []) rfl (Nat.le_of_ble_eq_true rfl) ⟨Nat.le_of_ble_eq_true rfl, Nat.le_of_ble_eq_true rfl⟩ dL_law_456 rfl ?_
  refine ik_aload_n C 460 2 dL_law_459 rfl rfl rfl ?_
  refine ik_aload_n C 461 0 dL_law_460 rfl rfl rfl ?_
  refine ik_iload_n C 462 3 dL_law_461 rfl rfl rfl ?_
  refine ik_iconst C 463 dL_law_462 rfl k_ic1 ?_
  refine ik_iadd C 464 dL_law_463 rfl ?_
  refine ik_sld C hX hbl hbA 465 (i + 1) (nI_add i 1) (by omega) hL dL_law_464 rfl ?_
  refine ik_cI C 468 (ad := adF cy a a2) (U := uF) (D := D1) (D1 := D2) (r := r) (kd := 32) (b := 0) vk_X10_release gw_1231 (fun hU => c_X10_release (x1 := (xs (i + 1))) hU uf_MoU_0) e2 rfl rfl rfl (uf_Mo9.1 32 (by decide) (by decide)) rfl rfl (rle2 rfl) rfl (st := [.int r]) rfl (Nat.le_of_ble_eq_true rfl) ⟨Nat.le_of_ble_eq_true rfl, Nat.le_of_ble_eq_true rfl⟩ dL_law_465 rfl ?_
  refine ik_iceq C 1006 dL_law_468 rfl ?_
  exact h D2 hI
set_option maxRecDepth 100000 in
set_option maxHeartbeats 4000000 in
theorem law_case13 {Inv : Dt → Prop} (hAll : AllOK Inv) {G : va_G} {cy : Nat → Nat → Nat} {a a2 : Nat → Nat} {p : Program} {l : Launch} {e : Env} {s : State} {m : MethodId} {below : List Frame} {meth : Method} {c : Code} {b L : Nat} {xs : Nat → Int32} (hL : L ≤ 2048) (C0 : lw_At p s m meth c b L xs) (C : Cx G cy [] (fun q => s.heap.size ≤ q) p s m meth c #[Value.ref b] code RL 4 (some .boolean)) {i : Nat} (hi : i + 4 ≤ L) {D : Dt} (hD : Inv D) (h : ∀ D2, Inv D2 → Ik G (fun q => s.heap.size ≤ q) p l e room_1 s m #[Value.ref b] below meth c 4 (lw_Z below #[Value.ref b] s) 1006 [(0, .ref b), (1, .ref (adF cy a a2 31 0)), (2, .ref (adF cy a a2 32 0)), (3, .int (nI i))] [] (wl (adF cy a a2) uF D2) 175 7450) : Ik G (fun q => s.heap.size ≤ q) p l e room_1 s m #[Value.ref b] below meth c 4 (lw_Z below #[Value.ref b] s) 473 [(0, .ref b), (1, .ref (adF cy a a2 31 0)), (2, .ref (adF cy a a2 32 0)), (3, .int (nI i))] [] (wl (adF cy a a2) uF D) 175 7450 := by
  obtain ⟨-, -, -, -, -, -, hX, hbl, -, -⟩ := id C0
  have hbA : ¬ (fun q : Nat => s.heap.size ≤ q) b := Nat.not_le.mpr hbl
  obtain ⟨r, D1, D2, e1, e2, hI⟩ := hAll.2.2.2.2.2.2.2.2.2.2.2.2.2.1 (xs (i + 1)) (xs (i + 2)) D hD
  refine ik_aload_n C 474 1 dL_law_473 rfl rfl rfl ?_
  refine ik_aload_n C 475 0 dL_law_474 rfl rfl rfl ?_
  refine ik_iload_n C 476 3 dL_law_475 rfl rfl rfl ?_
  refine ik_iconst C 477 dL_law_476 rfl k_ic1 ?_
  refine ik_iadd C 478 dL_law_477 rfl ?_
  refine ik_sld C hX hbl hbA 479 (i + 1) (nI_add i 1) (by omega) hL dL_law_478 rfl ?_
  refine ik_aload_n C 480 0 dL_law_479 rfl rfl rfl ?_
  refine ik_iload_n C 481 3 dL_law_480 rfl rfl rfl ?_
  refine ik_iconst C 482 dL_law_481 rfl k_ic2 ?_
  refine ik_iadd C 483 dL_law_482 rfl ?_
  refine ik_sld C hX hbl hbA 484 (i + 2) (nI_add i 2) (by omega) hL dL_law_483 rfl ?_
  refine ik_cI C 487 (ad := adF cy a a2) (U := uF) (D := D) (D1 := D1) (r := r) (kd := 31) (b := 0) vk_X9_resize gw_717 (fun hU => c_X9_resize (x1 := (xs (i + 1))) (x2 := (xs (i + 2))) hU uf_PrU_0) e1 rfl rfl rfl (uf_PrU_0.1 31 (by decide) (by decide)) rfl rfl (rle2 rfl) rfl (st := []) rfl (Nat.le_of_ble_eq_true rfl) ⟨Nat.le_of_ble_eq_true rfl, Nat.le_of_ble_eq_true rfl⟩ dL_law_484 rfl ?_
  refine ik_aload_n C 488 2 dL_law_487 rfl rfl rfl ?_
  refine ik_aload_n C 489 0 dL_law_488 rfl rfl rfl ?_
  refine ik_iload_n C 490 3 dL_law_489 rfl rfl rfl ?_
  refine ik_iconst C 491 dL_law_490 rfl k_ic1 ?_
  refine ik_iadd C 492 dL_law_491 rfl ?_
  refine ik_sld C hX hbl hbA 493 (i + 1) (nI_add i 1) (by omega) hL dL_law_492 rfl ?_
  refine ik_aload_n C 494 0 dL_law_493 rfl rfl rfl ?_
  refine ik_iload_n C 495 3 dL_law_494 rfl rfl rfl ?_
  refine ik_iconst C 496 dL_law_495 rfl k_ic2 ?_
  refine ik_iadd C 497 dL_law_496 rfl ?_
  refine ik_sld C hX hbl hbA 498 (i + 2) (nI_add i 2) (by omega) hL dL_law_497 rfl ?_
  refine ik_cI C 501 (ad := adF cy a a2) (U := uF) (D := D1) (D1 := D2) (r := r) (kd := 32) (b := 0) vk_X10_resize gw_1239 (fun hU => c_X10_resize (x1 := (xs (i + 1))) (x2 := (xs (i + 2))) hU uf_MoU_0) e2 rfl rfl rfl (uf_Mo9.1 32 (by decide) (by decide)) rfl rfl (rle2 rfl) rfl (st := [.int r]) rfl (Nat.le_of_ble_eq_true rfl) ⟨Nat.le_of_ble_eq_true rfl, Nat.le_of_ble_eq_true rfl⟩ dL_law_498 rfl ?_
  refine ik_iceq C 1006 dL_law_501 rfl ?_
  exact h D2 hI
set_option maxRecDepth 100000 in
set_option maxHeartbeats 4000000 in
theorem law_case14 {Inv : Dt → Prop} (hAll : AllOK Inv) {G : va_G} {cy : Nat → Nat → Nat} {a a2 : Nat → Nat} {p : Program} {l : Launch} {e : Env} {s : State} {m : MethodId} {below : List Frame} {meth : Method} {c : Code} {b L : Nat} {xs : Nat → Int32} (hL : L ≤ 2048) (C0 : lw_At p s m meth c b L xs) (C : Cx G cy [] (fun q => s.heap.size ≤ q) p s m meth c #[Value.ref b] code RL 4 (some .boolean)) {i : Nat} (hi : i + 4 ≤ L) {D : Dt} (hD : Inv D) (h : ∀ D2, Inv D2 → Ik G (fun q => s.heap.size ≤ q) p l e room_1 s m #[Value.ref b] below meth c 4 (lw_Z below #[Value.ref b] s) 1006 [(0, .ref b), (1, .ref (adF cy a a2 31 0)), (2, .ref (adF cy a a2 32 0)), (3, .int (nI i))] [] (wl (adF cy a a2) uF D2) 175 7450) : Ik G (fun q => s.heap.size ≤ q) p l e room_1 s m #[Value.ref b] below meth c 4 (lw_Z below #[Value.ref b] s) 506 [(0, .ref b), (1, .ref (adF cy a a2 31 0)), (2, .ref (adF cy a a2 32 0)), (3, .int (nI i))] [] (wl (adF cy a a2) uF D) 175 7450 := by
  obtain ⟨-, -, -, -, -, -, hX, hbl, -, -⟩ := id C0
  have hbA : ¬ (fun q : Nat => s.heap.size ≤ q) b := Nat.not_le.mpr hbl
  obtain ⟨r, D1, D2, e1, e2, hI⟩ := hAll.2.2.2.2.2.2.2.2.2.2.2.2.2.2.1 (xs (i + 1)) (xs (i + 2)) D hD
  refine ik_aload_n C 507 1 dL_law_506 rfl rfl rfl ?_
  refine ik_aload_n C 508 0 dL_law_507 rfl rfl rfl ?_
  refine ik_iload_n C 509 3 dL_law_508 rfl rfl rfl ?_
  refine ik_iconst C 510 dL_law_509 rfl k_ic1 ?_
  refine ik_iadd C 511 dL_law_510 rfl ?_
  refine ik_sld C hX hbl hbA 512 (i + 1) (nI_add i 1) (by omega) hL dL_law_511 rfl ?_
  refine ik_aload_n C 513 0 dL_law_512 rfl rfl rfl ?_
  refine ik_iload_n C 514 3 dL_law_513 rfl rfl rfl ?_
  refine ik_iconst C 515 dL_law_514 rfl k_ic2 ?_
  refine ik_iadd C 516 dL_law_515 rfl ?_
  refine ik_sld C hX hbl hbA 517 (i + 2) (nI_add i 2) (by omega) hL dL_law_516 rfl ?_
  refine ik_cI C 520 (ad := adF cy a a2) (U := uF) (D := D) (D1 := D1) (r := r) (kd := 31) (b := 0) vk_X9_renumber gw_735 (fun hU => c_X9_renumber (x1 := (xs (i + 1))) (x2 := (xs (i + 2))) hU uf_PrU_0) e1 rfl rfl rfl (uf_PrU_0.1 31 (by decide) (by decide)) rfl rfl (rle2 rfl) rfl (st := []) rfl (Nat.le_of_ble_eq_true rfl) ⟨Nat.le_of_ble_eq_true rfl, Nat.le_of_ble_eq_true rfl⟩ dL_law_517 rfl ?_
  refine ik_aload_n C 521 2 dL_law_520 rfl rfl rfl ?_
  refine ik_aload_n C 522 0 dL_law_521 rfl rfl rfl ?_
  refine ik_iload_n C 523 3 dL_law_522 rfl rfl rfl ?_
  refine ik_iconst C 524 dL_law_523 rfl k_ic1 ?_
  refine ik_iadd C 525 dL_law_524 rfl ?_
  refine ik_sld C hX hbl hbA 526 (i + 1) (nI_add i 1) (by omega) hL dL_law_525 rfl ?_
  refine ik_aload_n C 527 0 dL_law_526 rfl rfl rfl ?_
  refine ik_iload_n C 528 3 dL_law_527 rfl rfl rfl ?_
  refine ik_iconst C 529 dL_law_528 rfl k_ic2 ?_
  refine ik_iadd C 530 dL_law_529 rfl ?_
  refine ik_sld C hX hbl hbA 531 (i + 2) (nI_add i 2) (by omega) hL dL_law_530 rfl ?_
  refine ik_cI C 534 (ad := adF cy a a2) (U := uF) (D := D1) (D1 := D2) (r := r) (kd := 32) (b := 0) vk_X10_renumber gw_1250 (fun hU => c_X10_renumber (x1 := (xs (i + 1))) (x2 := (xs (i + 2))) hU uf_MoU_0) e2 rfl rfl rfl (uf_Mo9.1 32 (by decide) (by decide)) rfl rfl (rle2 rfl) rfl (st := [.int r]) rfl (Nat.le_of_ble_eq_true rfl) ⟨Nat.le_of_ble_eq_true rfl, Nat.le_of_ble_eq_true rfl⟩ dL_law_531 rfl ?_
  refine ik_iceq C 1006 dL_law_534 rfl ?_
  exact h D2 hI
set_option maxRecDepth 100000 in
set_option maxHeartbeats 4000000 in
theorem law_case15 {Inv : Dt → Prop} (hAll : AllOK Inv) {G : va_G} {cy : Nat → Nat → Nat} {a a2 : Nat → Nat} {p : Program} {l : Launch} {e : Env} {s : State} {m : MethodId} {below : List Frame} {meth : Method} {c : Code} {b L : Nat} {xs : Nat → Int32} (hL : L ≤ 2048) (C0 : lw_At p s m meth c b L xs) (C : Cx G cy [] (fun q => s.heap.size ≤ q) p s m meth c #[Value.ref b] code RL 4 (some .boolean)) {i : Nat} (hi : i + 4 ≤ L) {D : Dt} (hD : Inv D) (h : ∀ D2, Inv D2 → Ik G (fun q => s.heap.size ≤ q) p l e room_1 s m #[Value.ref b] below meth c 4 (lw_Z below #[Value.ref b] s) 1006 [(0, .ref b), (1, .ref (adF cy a a2 31 0)), (2, .ref (adF cy a a2 32 0)), (3, .int (nI i))] [] (wl (adF cy a a2) uF D2) 175 7450) : Ik G (fun q => s.heap.size ≤ q) p l e room_1 s m #[Value.ref b] below meth c 4 (lw_Z below #[Value.ref b] s) 539 [(0, .ref b), (1, .ref (adF cy a a2 31 0)), (2, .ref (adF cy a a2 32 0)), (3, .int (nI i))] [] (wl (adF cy a a2) uF D) 175 7450 := by
  obtain ⟨-, -, -, -, -, -, hX, hbl, -, -⟩ := id C0
  have hbA : ¬ (fun q : Nat => s.heap.size ≤ q) b := Nat.not_le.mpr hbl
  obtain ⟨r, D1, D2, e1, e2, hI⟩ := hAll.2.2.2.2.2.2.2.2.2.2.2.2.2.2.2.1 (xs (i + 1)) D hD
  refine ik_aload_n C 540 1 dL_law_539 rfl rfl rfl ?_
  refine ik_aload_n C 541 0 dL_law_540 rfl rfl rfl ?_
  refine ik_iload_n C 542 3 dL_law_541 rfl rfl rfl ?_
  refine ik_iconst C 543 dL_law_542 rfl k_ic1 ?_
  refine ik_iadd C 544 dL_law_543 rfl ?_
  refine ik_sld C hX hbl hbA 545 (i + 1) (nI_add i 1) (by omega) hL dL_law_544 rfl ?_
  refine ik_cI C 548 (ad := adF cy a a2) (U := uF) (D := D) (D1 := D1) (r := r) (kd := 31) (b := 0) vk_X9_wave gw_765 (fun hU => c_X9_wave (x1 := (xs (i + 1))) hU uf_PrU_0) e1 rfl rfl rfl (uf_PrU_0.1 31 (by decide) (by decide)) rfl rfl (rle2 rfl) rfl (st := []) rfl (Nat.le_of_ble_eq_true rfl) ⟨Nat.le_of_ble_eq_true rfl, Nat.le_of_ble_eq_true rfl⟩ dL_law_545 rfl ?_
  refine ik_aload_n C 549 2 dL_law_548 rfl rfl rfl ?_
  refine ik_aload_n C 550 0 dL_law_549 rfl rfl rfl ?_
  refine ik_iload_n C 551 3 dL_law_550 rfl rfl rfl ?_
  refine ik_iconst C 552 dL_law_551 rfl k_ic1 ?_
  refine ik_iadd C 553 dL_law_552 rfl ?_
  refine ik_sld C hX hbl hbA 554 (i + 1) (nI_add i 1) (by omega) hL dL_law_553 rfl ?_
  refine ik_cI C 557 (ad := adF cy a a2) (U := uF) (D := D1) (D1 := D2) (r := r) (kd := 32) (b := 0) vk_X10_wave gw_1266 (fun hU => c_X10_wave (x1 := (xs (i + 1))) hU uf_MoU_0) e2 rfl rfl rfl (uf_Mo9.1 32 (by decide) (by decide)) rfl rfl (rle2 rfl) rfl (st := [.int r]) rfl (Nat.le_of_ble_eq_true rfl) ⟨Nat.le_of_ble_eq_true rfl, Nat.le_of_ble_eq_true rfl⟩ dL_law_554 rfl ?_
  refine ik_iceq C 1006 dL_law_557 rfl ?_
  exact h D2 hI
set_option maxRecDepth 100000 in
set_option maxHeartbeats 4000000 in
theorem law_case16 {Inv : Dt → Prop} (hAll : AllOK Inv) {G : va_G} {cy : Nat → Nat → Nat} {a a2 : Nat → Nat} {p : Program} {l : Launch} {e : Env} {s : State} {m : MethodId} {below : List Frame} {meth : Method} {c : Code} {b L : Nat} {xs : Nat → Int32} (hL : L ≤ 2048) (C0 : lw_At p s m meth c b L xs) (C : Cx G cy [] (fun q => s.heap.size ≤ q) p s m meth c #[Value.ref b] code RL 4 (some .boolean)) {i : Nat} (hi : i + 4 ≤ L) {D : Dt} (hD : Inv D) (h : ∀ D2, Inv D2 → Ik G (fun q => s.heap.size ≤ q) p l e room_1 s m #[Value.ref b] below meth c 4 (lw_Z below #[Value.ref b] s) 1006 [(0, .ref b), (1, .ref (adF cy a a2 31 0)), (2, .ref (adF cy a a2 32 0)), (3, .int (nI i))] [] (wl (adF cy a a2) uF D2) 175 7450) : Ik G (fun q => s.heap.size ≤ q) p l e room_1 s m #[Value.ref b] below meth c 4 (lw_Z below #[Value.ref b] s) 562 [(0, .ref b), (1, .ref (adF cy a a2 31 0)), (2, .ref (adF cy a a2 32 0)), (3, .int (nI i))] [] (wl (adF cy a a2) uF D) 175 7450 := by
  obtain ⟨-, -, -, -, -, -, hX, hbl, -, -⟩ := id C0
  have hbA : ¬ (fun q : Nat => s.heap.size ≤ q) b := Nat.not_le.mpr hbl
  obtain ⟨r, D1, D2, e1, e2, hI⟩ := hAll.2.2.2.2.2.2.2.2.2.2.2.2.2.2.2.2.1 (xs (i + 1)) (xs (i + 2)) D hD
  refine ik_aload_n C 563 1 dL_law_562 rfl rfl rfl ?_
  refine ik_aload_n C 564 0 dL_law_563 rfl rfl rfl ?_
  refine ik_iload_n C 565 3 dL_law_564 rfl rfl rfl ?_
  refine ik_iconst C 566 dL_law_565 rfl k_ic1 ?_
  refine ik_iadd C 567 dL_law_566 rfl ?_
  refine ik_sld C hX hbl hbA 568 (i + 1) (nI_add i 1) (by omega) hL dL_law_567 rfl ?_
  refine ik_aload_n C 569 0 dL_law_568 rfl rfl rfl ?_
  refine ik_iload_n C 570 3 dL_law_569 rfl rfl rfl ?_
  refine ik_iconst C 571 dL_law_570 rfl k_ic2 ?_
  refine ik_iadd C 572 dL_law_571 rfl ?_
  refine ik_sld C hX hbl hbA 573 (i + 2) (nI_add i 2) (by omega) hL dL_law_572 rfl ?_
  refine ik_cI C 576 (ad := adF cy a a2) (U := uF) (D := D) (D1 := D1) (r := r) (kd := 31) (b := 0) vk_X9_network gw_775 (fun hU => c_X9_network (x1 := (xs (i + 1))) (x2 := (xs (i + 2))) hU uf_PrU_0) e1 rfl rfl rfl (uf_PrU_0.1 31 (by decide) (by decide)) rfl rfl (rle2 rfl) rfl (st := []) rfl (Nat.le_of_ble_eq_true rfl) ⟨Nat.le_of_ble_eq_true rfl, Nat.le_of_ble_eq_true rfl⟩ dL_law_573 rfl ?_
  refine ik_aload_n C 577 2 dL_law_576 rfl rfl rfl ?_
  refine ik_aload_n C 578 0 dL_law_577 rfl rfl rfl ?_
  refine ik_iload_n C 579 3 dL_law_578 rfl rfl rfl ?_
  refine ik_iconst C 580 dL_law_579 rfl k_ic1 ?_
  refine ik_iadd C 581 dL_law_580 rfl ?_
  refine ik_sld C hX hbl hbA 582 (i + 1) (nI_add i 1) (by omega) hL dL_law_581 rfl ?_
  refine ik_aload_n C 583 0 dL_law_582 rfl rfl rfl ?_
  refine ik_iload_n C 584 3 dL_law_583 rfl rfl rfl ?_
  refine ik_iconst C 585 dL_law_584 rfl k_ic2 ?_
  refine ik_iadd C 586 dL_law_585 rfl ?_
  refine ik_sld C hX hbl hbA 587 (i + 2) (nI_add i 2) (by omega) hL dL_law_586 rfl ?_
  refine ik_cI C 590 (ad := adF cy a a2) (U := uF) (D := D1) (D1 := D2) (r := r) (kd := 32) (b := 0) vk_X10_network gw_1275 (fun hU => c_X10_network (x1 := (xs (i + 1))) (x2 := (xs (i + 2))) hU uf_MoU_0) e2 rfl rfl rfl (uf_Mo9.1 32 (by decide) (by decide)) rfl rfl (rle2 rfl) rfl (st := [.int r]) rfl (Nat.le_of_ble_eq_true rfl) ⟨Nat.le_of_ble_eq_true rfl, Nat.le_of_ble_eq_true rfl⟩ dL_law_587 rfl ?_
  refine ik_iceq C 1006 dL_law_590 rfl ?_
  exact h D2 hI
set_option maxRecDepth 100000 in
set_option maxHeartbeats 4000000 in
theorem law_case17 {Inv : Dt → Prop} (hAll : AllOK Inv) {G : va_G} {cy : Nat → Nat → Nat} {a a2 : Nat → Nat} {p : Program} {l : Launch} {e : Env} {s : State} {m : MethodId} {below : List Frame} {meth : Method} {c : Code} {b L : Nat} {xs : Nat → Int32} (hL : L ≤ 2048) (C0 : lw_At p s m meth c b L xs) (C : Cx G cy [] (fun q => s.heap.size ≤ q) p s m meth c #[Value.ref b] code RL 4 (some .boolean)) {i : Nat} (hi : i + 4 ≤ L) {D : Dt} (hD : Inv D) (h : ∀ D2, Inv D2 → Ik G (fun q => s.heap.size ≤ q) p l e room_1 s m #[Value.ref b] below meth c 4 (lw_Z below #[Value.ref b] s) 1006 [(0, .ref b), (1, .ref (adF cy a a2 31 0)), (2, .ref (adF cy a a2 32 0)), (3, .int (nI i))] [] (wl (adF cy a a2) uF D2) 175 7450) : Ik G (fun q => s.heap.size ≤ q) p l e room_1 s m #[Value.ref b] below meth c 4 (lw_Z below #[Value.ref b] s) 595 [(0, .ref b), (1, .ref (adF cy a a2 31 0)), (2, .ref (adF cy a a2 32 0)), (3, .int (nI i))] [] (wl (adF cy a a2) uF D) 175 7450 := by
  obtain ⟨-, -, -, -, -, -, hX, hbl, -, -⟩ := id C0
  have hbA : ¬ (fun q : Nat => s.heap.size ≤ q) b := Nat.not_le.mpr hbl
  obtain ⟨r, D1, D2, e1, e2, hI⟩ := hAll.2.2.2.2.2.2.2.2.2.2.2.2.2.2.2.2.2.1 (xs (i + 1)) D hD
  refine ik_aload_n C 596 1 dL_law_595 rfl rfl rfl ?_
  refine ik_aload_n C 597 0 dL_law_596 rfl rfl rfl ?_
  refine ik_iload_n C 598 3 dL_law_597 rfl rfl rfl ?_
  refine ik_iconst C 599 dL_law_598 rfl k_ic1 ?_
  refine ik_iadd C 600 dL_law_599 rfl ?_
  refine ik_sld C hX hbl hbA 601 (i + 1) (nI_add i 1) (by omega) hL dL_law_600 rfl ?_
  refine ik_cI C 604 (ad := adF cy a a2) (U := uF) (D := D) (D1 := D1) (r := r) (kd := 31) (b := 0) vk_X9_owner gw_788 (fun hU => c_X9_owner (x1 := (xs (i + 1))) hU uf_PrU_0) e1 rfl rfl rfl (uf_PrU_0.1 31 (by decide) (by decide)) rfl rfl (rle2 rfl) rfl (st := []) rfl (Nat.le_of_ble_eq_true rfl) ⟨Nat.le_of_ble_eq_true rfl, Nat.le_of_ble_eq_true rfl⟩ dL_law_601 rfl ?_
  refine ik_aload_n C 605 2 dL_law_604 rfl rfl rfl ?_
  refine ik_aload_n C 606 0 dL_law_605 rfl rfl rfl ?_
  refine ik_iload_n C 607 3 dL_law_606 rfl rfl rfl ?_
  refine ik_iconst C 608 dL_law_607 rfl k_ic1 ?_
  refine ik_iadd C 609 dL_law_608 rfl ?_
  refine ik_sld C hX hbl hbA 610 (i + 1) (nI_add i 1) (by omega) hL dL_law_609 rfl ?_
  refine ik_cI C 613 (ad := adF cy a a2) (U := uF) (D := D1) (D1 := D2) (r := r) (kd := 32) (b := 0) vk_X10_owner gw_1279 (fun hU => c_X10_owner (x1 := (xs (i + 1))) hU uf_MoU_0) e2 rfl rfl rfl (uf_Mo9.1 32 (by decide) (by decide)) rfl rfl (rle2 rfl) rfl (st := [.int r]) rfl (Nat.le_of_ble_eq_true rfl) ⟨Nat.le_of_ble_eq_true rfl, Nat.le_of_ble_eq_true rfl⟩ dL_law_610 rfl ?_
  refine ik_iceq C 1006 dL_law_613 rfl ?_
  exact h D2 hI
set_option maxRecDepth 100000 in
set_option maxHeartbeats 4000000 in
theorem law_case18 {Inv : Dt → Prop} (hAll : AllOK Inv) {G : va_G} {cy : Nat → Nat → Nat} {a a2 : Nat → Nat} {p : Program} {l : Launch} {e : Env} {s : State} {m : MethodId} {below : List Frame} {meth : Method} {c : Code} {b L : Nat} {xs : Nat → Int32} (hL : L ≤ 2048) (C0 : lw_At p s m meth c b L xs) (C : Cx G cy [] (fun q => s.heap.size ≤ q) p s m meth c #[Value.ref b] code RL 4 (some .boolean)) {i : Nat} (hi : i + 4 ≤ L) {D : Dt} (hD : Inv D) (h : ∀ D2, Inv D2 → Ik G (fun q => s.heap.size ≤ q) p l e room_1 s m #[Value.ref b] below meth c 4 (lw_Z below #[Value.ref b] s) 1006 [(0, .ref b), (1, .ref (adF cy a a2 31 0)), (2, .ref (adF cy a a2 32 0)), (3, .int (nI i))] [] (wl (adF cy a a2) uF D2) 175 7450) : Ik G (fun q => s.heap.size ≤ q) p l e room_1 s m #[Value.ref b] below meth c 4 (lw_Z below #[Value.ref b] s) 618 [(0, .ref b), (1, .ref (adF cy a a2 31 0)), (2, .ref (adF cy a a2 32 0)), (3, .int (nI i))] [] (wl (adF cy a a2) uF D) 175 7450 := by
  obtain ⟨-, -, -, -, -, -, hX, hbl, -, -⟩ := id C0
  have hbA : ¬ (fun q : Nat => s.heap.size ≤ q) b := Nat.not_le.mpr hbl
  obtain ⟨r, D1, D2, e1, e2, hI⟩ := hAll.2.2.2.2.2.2.2.2.2.2.2.2.2.2.2.2.2.2.1 (xs (i + 1)) (xs (i + 2)) (xs (i + 3)) D hD
  refine ik_aload_n C 619 1 dL_law_618 rfl rfl rfl ?_
  refine ik_aload_n C 620 0 dL_law_619 rfl rfl rfl ?_
  refine ik_iload_n C 621 3 dL_law_620 rfl rfl rfl ?_
  refine ik_iconst C 622 dL_law_621 rfl k_ic1 ?_
  refine ik_iadd C 623 dL_law_622 rfl ?_
  refine ik_sld C hX hbl hbA 624 (i + 1) (nI_add i 1) (by omega) hL dL_law_623 rfl ?_
  refine ik_aload_n C 625 0 dL_law_624 rfl rfl rfl ?_
  refine ik_iload_n C 626 3 dL_law_625 rfl rfl rfl ?_
  refine ik_iconst C 627 dL_law_626 rfl k_ic2 ?_
  refine ik_iadd C 628 dL_law_627 rfl ?_
  refine ik_sld C hX hbl hbA 629 (i + 2) (nI_add i 2) (by omega) hL dL_law_628 rfl ?_
  refine ik_aload_n C 630 0 dL_law_629 rfl rfl rfl ?_
  refine ik_iload_n C 631 3 dL_law_630 rfl rfl rfl ?_
  refine ik_iconst C 632 dL_law_631 rfl k_ic3 ?_
  refine ik_iadd C 633 dL_law_632 rfl ?_
  refine ik_sld C hX hbl hbA 634 (i + 3) (nI_add i 3) (by omega) hL dL_law_633 rfl ?_
  refine ik_cI C 637 (ad := adF cy a a2) (U := uF) (D := D) (D1 := D1) (r := r) (kd := 31) (b := 0) vk_X9_addHost gw_796 (fun hU => c_X9_addHost (x1 := (xs (i + 1))) (x2 := (xs (i + 2))) (x3 := (xs (i + 3))) hU uf_PrU_0) e1 rfl rfl rfl (uf_PrU_0.1 31 (by decide) (by decide)) rfl rfl (rle2 rfl) rfl (st := []) rfl (Nat.le_of_ble_eq_true rfl) ⟨Nat.le_of_ble_eq_true rfl, Nat.le_of_ble_eq_true rfl⟩ dL_law_634 rfl ?_
  refine ik_aload_n C 638 2 dL_law_637 rfl rfl rfl ?_
  refine ik_aload_n C 639 0 dL_law_638 rfl rfl rfl ?_
  refine ik_iload_n C 640 3 dL_law_639 rfl rfl rfl ?_
  refine ik_iconst C 641 dL_law_640 rfl k_ic1 ?_
  refine ik_iadd C 642 dL_law_641 rfl ?_
  refine ik_sld C hX hbl hbA 643 (i + 1) (nI_add i 1) (by omega) hL dL_law_642 rfl ?_
  refine ik_aload_n C 644 0 dL_law_643 rfl rfl rfl ?_
  refine ik_iload_n C 645 3 dL_law_644 rfl rfl rfl ?_
  refine ik_iconst C 646 dL_law_645 rfl k_ic2 ?_
  refine ik_iadd C 647 dL_law_646 rfl ?_
  refine ik_sld C hX hbl hbA 648 (i + 2) (nI_add i 2) (by omega) hL dL_law_647 rfl ?_
  refine ik_aload_n C 649 0 dL_law_648 rfl rfl rfl ?_
  refine ik_iload_n C 650 3 dL_law_649 rfl rfl rfl ?_
  refine ik_iconst C 651 dL_law_650 rfl k_ic3 ?_
  refine ik_iadd C 652 dL_law_651 rfl ?_
  refine ik_sld C hX hbl hbA 653 (i + 3) (nI_add i 3) (by omega) hL dL_law_652 rfl ?_
  refine ik_cI C 656 (ad := adF cy a a2) (U := uF) (D := D1) (D1 := D2) (r := r) (kd := 32) (b := 0) vk_X10_addHost gw_1283 (fun hU => c_X10_addHost (x1 := (xs (i + 1))) (x2 := (xs (i + 2))) (x3 := (xs (i + 3))) hU uf_MoU_0) e2 rfl rfl rfl (uf_Mo9.1 32 (by decide) (by decide)) rfl rfl (rle2 rfl) rfl (st := [.int r]) rfl (Nat.le_of_ble_eq_true rfl) ⟨Nat.le_of_ble_eq_true rfl, Nat.le_of_ble_eq_true rfl⟩ dL_law_653 rfl ?_
  refine ik_iceq C 1006 dL_law_656 rfl ?_
  exact h D2 hI
set_option maxRecDepth 100000 in
set_option maxHeartbeats 4000000 in
theorem law_case19 {Inv : Dt → Prop} (hAll : AllOK Inv) {G : va_G} {cy : Nat → Nat → Nat} {a a2 : Nat → Nat} {p : Program} {l : Launch} {e : Env} {s : State} {m : MethodId} {below : List Frame} {meth : Method} {c : Code} {b L : Nat} {xs : Nat → Int32} (hL : L ≤ 2048) (C0 : lw_At p s m meth c b L xs) (C : Cx G cy [] (fun q => s.heap.size ≤ q) p s m meth c #[Value.ref b] code RL 4 (some .boolean)) {i : Nat} (hi : i + 4 ≤ L) {D : Dt} (hD : Inv D) (h : ∀ D2, Inv D2 → Ik G (fun q => s.heap.size ≤ q) p l e room_1 s m #[Value.ref b] below meth c 4 (lw_Z below #[Value.ref b] s) 1006 [(0, .ref b), (1, .ref (adF cy a a2 31 0)), (2, .ref (adF cy a a2 32 0)), (3, .int (nI i))] [] (wl (adF cy a a2) uF D2) 175 7450) : Ik G (fun q => s.heap.size ≤ q) p l e room_1 s m #[Value.ref b] below meth c 4 (lw_Z below #[Value.ref b] s) 661 [(0, .ref b), (1, .ref (adF cy a a2 31 0)), (2, .ref (adF cy a a2 32 0)), (3, .int (nI i))] [] (wl (adF cy a a2) uF D) 175 7450 := by
  obtain ⟨-, -, -, -, -, -, hX, hbl, -, -⟩ := id C0
  have hbA : ¬ (fun q : Nat => s.heap.size ≤ q) b := Nat.not_le.mpr hbl
  obtain ⟨r, D1, D2, e1, e2, hI⟩ := hAll.2.2.2.2.2.2.2.2.2.2.2.2.2.2.2.2.2.2.2.1 (xs (i + 1)) D hD
  refine ik_aload_n C 662 1 dL_law_661 rfl rfl rfl ?_
  refine ik_aload_n C 663 0 dL_law_662 rfl rfl rfl ?_
  refine ik_iload_n C 664 3 dL_law_663 rfl rfl rfl ?_
  refine ik_iconst C 665 dL_law_664 rfl k_ic1 ?_
  refine ik_iadd C 666 dL_law_665 rfl ?_
  refine ik_sld C hX hbl hbA 667 (i + 1) (nI_add i 1) (by omega) hL dL_law_666 rfl ?_
  refine ik_cI C 670 (ad := adF cy a a2) (U := uF) (D := D) (D1 := D1) (r := r) (kd := 31) (b := 0) vk_X9_removeHost gw_805 (fun hU => c_X9_removeHost (x1 := (xs (i + 1))) hU uf_PrU_0) e1 rfl rfl rfl (uf_PrU_0.1 31 (by decide) (by decide)) rfl rfl (rle2 rfl) rfl (st := []) rfl (Nat.le_of_ble_eq_true rfl) ⟨Nat.le_of_ble_eq_true rfl, Nat.le_of_ble_eq_true rfl⟩ dL_law_667 rfl ?_
  refine ik_aload_n C 671 2 dL_law_670 rfl rfl rfl ?_
  refine ik_aload_n C 672 0 dL_law_671 rfl rfl rfl ?_
  refine ik_iload_n C 673 3 dL_law_672 rfl rfl rfl ?_
  refine ik_iconst C 674 dL_law_673 rfl k_ic1 ?_
  refine ik_iadd C 675 dL_law_674 rfl ?_
  refine ik_sld C hX hbl hbA 676 (i + 1) (nI_add i 1) (by omega) hL dL_law_675 rfl ?_
  refine ik_cI C 679 (ad := adF cy a a2) (U := uF) (D := D1) (D1 := D2) (r := r) (kd := 32) (b := 0) vk_X10_removeHost gw_1290 (fun hU => c_X10_removeHost (x1 := (xs (i + 1))) hU uf_MoU_0) e2 rfl rfl rfl (uf_Mo9.1 32 (by decide) (by decide)) rfl rfl (rle2 rfl) rfl (st := [.int r]) rfl (Nat.le_of_ble_eq_true rfl) ⟨Nat.le_of_ble_eq_true rfl, Nat.le_of_ble_eq_true rfl⟩ dL_law_676 rfl ?_
  refine ik_iceq C 1006 dL_law_679 rfl ?_
  exact h D2 hI
set_option maxRecDepth 100000 in
set_option maxHeartbeats 4000000 in
theorem law_case20 {Inv : Dt → Prop} (hAll : AllOK Inv) {G : va_G} {cy : Nat → Nat → Nat} {a a2 : Nat → Nat} {p : Program} {l : Launch} {e : Env} {s : State} {m : MethodId} {below : List Frame} {meth : Method} {c : Code} {b L : Nat} {xs : Nat → Int32} (hL : L ≤ 2048) (C0 : lw_At p s m meth c b L xs) (C : Cx G cy [] (fun q => s.heap.size ≤ q) p s m meth c #[Value.ref b] code RL 4 (some .boolean)) {i : Nat} (hi : i + 4 ≤ L) {D : Dt} (hD : Inv D) (h : ∀ D2, Inv D2 → Ik G (fun q => s.heap.size ≤ q) p l e room_1 s m #[Value.ref b] below meth c 4 (lw_Z below #[Value.ref b] s) 1006 [(0, .ref b), (1, .ref (adF cy a a2 31 0)), (2, .ref (adF cy a a2 32 0)), (3, .int (nI i))] [] (wl (adF cy a a2) uF D2) 175 7450) : Ik G (fun q => s.heap.size ≤ q) p l e room_1 s m #[Value.ref b] below meth c 4 (lw_Z below #[Value.ref b] s) 684 [(0, .ref b), (1, .ref (adF cy a a2 31 0)), (2, .ref (adF cy a a2 32 0)), (3, .int (nI i))] [] (wl (adF cy a a2) uF D) 175 7450 := by
  obtain ⟨-, -, -, -, -, -, hX, hbl, -, -⟩ := id C0
  have hbA : ¬ (fun q : Nat => s.heap.size ≤ q) b := Nat.not_le.mpr hbl
  obtain ⟨r, D1, D2, e1, e2, hI⟩ := hAll.2.2.2.2.2.2.2.2.2.2.2.2.2.2.2.2.2.2.2.2.1 (xs (i + 1)) D hD
  refine ik_aload_n C 685 1 dL_law_684 rfl rfl rfl ?_
  refine ik_aload_n C 686 0 dL_law_685 rfl rfl rfl ?_
  refine ik_iload_n C 687 3 dL_law_686 rfl rfl rfl ?_
  refine ik_iconst C 688 dL_law_687 rfl k_ic1 ?_
  refine ik_iadd C 689 dL_law_688 rfl ?_
  refine ik_sld C hX hbl hbA 690 (i + 1) (nI_add i 1) (by omega) hL dL_law_689 rfl ?_
  refine ik_cI C 693 (ad := adF cy a a2) (U := uF) (D := D) (D1 := D1) (r := r) (kd := 31) (b := 0) vk_X9_request gw_811 (fun hU => c_X9_request (x1 := (xs (i + 1))) hU uf_PrU_0) e1 rfl rfl rfl (uf_PrU_0.1 31 (by decide) (by decide)) rfl rfl (rle2 rfl) rfl (st := []) rfl (Nat.le_of_ble_eq_true rfl) ⟨Nat.le_of_ble_eq_true rfl, Nat.le_of_ble_eq_true rfl⟩ dL_law_690 rfl ?_
  refine ik_aload_n C 694 2 dL_law_693 rfl rfl rfl ?_
  refine ik_aload_n C 695 0 dL_law_694 rfl rfl rfl ?_
  refine ik_iload_n C 696 3 dL_law_695 rfl rfl rfl ?_
  refine ik_iconst C 697 dL_law_696 rfl k_ic1 ?_
  refine ik_iadd C 698 dL_law_697 rfl ?_
  refine ik_sld C hX hbl hbA 699 (i + 1) (nI_add i 1) (by omega) hL dL_law_698 rfl ?_
  refine ik_cI C 702 (ad := adF cy a a2) (U := uF) (D := D1) (D1 := D2) (r := r) (kd := 32) (b := 0) vk_X10_request gw_1294 (fun hU => c_X10_request (x1 := (xs (i + 1))) hU uf_MoU_0) e2 rfl rfl rfl (uf_Mo9.1 32 (by decide) (by decide)) rfl rfl (rle2 rfl) rfl (st := [.int r]) rfl (Nat.le_of_ble_eq_true rfl) ⟨Nat.le_of_ble_eq_true rfl, Nat.le_of_ble_eq_true rfl⟩ dL_law_699 rfl ?_
  refine ik_iceq C 1006 dL_law_702 rfl ?_
  exact h D2 hI
set_option maxRecDepth 100000 in
set_option maxHeartbeats 4000000 in
theorem law_case21 {Inv : Dt → Prop} (hAll : AllOK Inv) {G : va_G} {cy : Nat → Nat → Nat} {a a2 : Nat → Nat} {p : Program} {l : Launch} {e : Env} {s : State} {m : MethodId} {below : List Frame} {meth : Method} {c : Code} {b L : Nat} {xs : Nat → Int32} (hL : L ≤ 2048) (C0 : lw_At p s m meth c b L xs) (C : Cx G cy [] (fun q => s.heap.size ≤ q) p s m meth c #[Value.ref b] code RL 4 (some .boolean)) {i : Nat} (hi : i + 4 ≤ L) {D : Dt} (hD : Inv D) (h : ∀ D2, Inv D2 → Ik G (fun q => s.heap.size ≤ q) p l e room_1 s m #[Value.ref b] below meth c 4 (lw_Z below #[Value.ref b] s) 1006 [(0, .ref b), (1, .ref (adF cy a a2 31 0)), (2, .ref (adF cy a a2 32 0)), (3, .int (nI i))] [] (wl (adF cy a a2) uF D2) 175 7450) : Ik G (fun q => s.heap.size ≤ q) p l e room_1 s m #[Value.ref b] below meth c 4 (lw_Z below #[Value.ref b] s) 707 [(0, .ref b), (1, .ref (adF cy a a2 31 0)), (2, .ref (adF cy a a2 32 0)), (3, .int (nI i))] [] (wl (adF cy a a2) uF D) 175 7450 := by
  obtain ⟨-, -, -, -, -, -, hX, hbl, -, -⟩ := id C0
  have hbA : ¬ (fun q : Nat => s.heap.size ≤ q) b := Nat.not_le.mpr hbl
  obtain ⟨r, D1, D2, e1, e2, hI⟩ := hAll.2.2.2.2.2.2.2.2.2.2.2.2.2.2.2.2.2.2.2.2.2.1 (xs (i + 1)) (xs (i + 2)) D hD
  refine ik_aload_n C 708 1 dL_law_707 rfl rfl rfl ?_
  refine ik_aload_n C 709 0 dL_law_708 rfl rfl rfl ?_
  refine ik_iload_n C 710 3 dL_law_709 rfl rfl rfl ?_
  refine ik_iconst C 711 dL_law_710 rfl k_ic1 ?_
  refine ik_iadd C 712 dL_law_711 rfl ?_
  refine ik_sld C hX hbl hbA 713 (i + 1) (nI_add i 1) (by omega) hL dL_law_712 rfl ?_
  refine ik_aload_n C 714 0 dL_law_713 rfl rfl rfl ?_
  refine ik_iload_n C 715 3 dL_law_714 rfl rfl rfl ?_
  refine ik_iconst C 716 dL_law_715 rfl k_ic2 ?_
  refine ik_iadd C 717 dL_law_716 rfl ?_
  refine ik_sld C hX hbl hbA 718 (i + 2) (nI_add i 2) (by omega) hL dL_law_717 rfl ?_
  refine ik_cI C 721 (ad := adF cy a a2) (U := uF) (D := D) (D1 := D1) (r := r) (kd := 31) (b := 0) vk_X9_host gw_845 (fun hU => c_X9_host (x1 := (xs (i + 1))) (x2 := (xs (i + 2))) hU uf_PrU_0) e1 rfl rfl rfl (uf_PrU_0.1 31 (by decide) (by decide)) rfl rfl (rle2 rfl) rfl (st := []) rfl (Nat.le_of_ble_eq_true rfl) ⟨Nat.le_of_ble_eq_true rfl, Nat.le_of_ble_eq_true rfl⟩ dL_law_718 rfl ?_
  refine ik_aload_n C 722 2 dL_law_721 rfl rfl rfl ?_
  refine ik_aload_n C 723 0 dL_law_722 rfl rfl rfl ?_
  refine ik_iload_n C 724 3 dL_law_723 rfl rfl rfl ?_
  refine ik_iconst C 725 dL_law_724 rfl k_ic1 ?_
  refine ik_iadd C 726 dL_law_725 rfl ?_
  refine ik_sld C hX hbl hbA 727 (i + 1) (nI_add i 1) (by omega) hL dL_law_726 rfl ?_
  refine ik_aload_n C 728 0 dL_law_727 rfl rfl rfl ?_
  refine ik_iload_n C 729 3 dL_law_728 rfl rfl rfl ?_
  refine ik_iconst C 730 dL_law_729 rfl k_ic2 ?_
  refine ik_iadd C 731 dL_law_730 rfl ?_
  refine ik_sld C hX hbl hbA 732 (i + 2) (nI_add i 2) (by omega) hL dL_law_731 rfl ?_
  refine ik_cI C 735 (ad := adF cy a a2) (U := uF) (D := D1) (D1 := D2) (r := r) (kd := 32) (b := 0) vk_X10_host gw_1306 (fun hU => c_X10_host (x1 := (xs (i + 1))) (x2 := (xs (i + 2))) hU uf_MoU_0) e2 rfl rfl rfl (uf_Mo9.1 32 (by decide) (by decide)) rfl rfl (rle2 rfl) rfl (st := [.int r]) rfl (Nat.le_of_ble_eq_true rfl) ⟨Nat.le_of_ble_eq_true rfl, Nat.le_of_ble_eq_true rfl⟩ dL_law_732 rfl ?_
  refine ik_iceq C 1006 dL_law_735 rfl ?_
  exact h D2 hI
set_option maxRecDepth 100000 in
set_option maxHeartbeats 4000000 in
theorem law_case22 {Inv : Dt → Prop} (hAll : AllOK Inv) {G : va_G} {cy : Nat → Nat → Nat} {a a2 : Nat → Nat} {p : Program} {l : Launch} {e : Env} {s : State} {m : MethodId} {below : List Frame} {meth : Method} {c : Code} {b L : Nat} {xs : Nat → Int32} (hL : L ≤ 2048) (C0 : lw_At p s m meth c b L xs) (C : Cx G cy [] (fun q => s.heap.size ≤ q) p s m meth c #[Value.ref b] code RL 4 (some .boolean)) {i : Nat} (hi : i + 4 ≤ L) {D : Dt} (hD : Inv D) (h : ∀ D2, Inv D2 → Ik G (fun q => s.heap.size ≤ q) p l e room_1 s m #[Value.ref b] below meth c 4 (lw_Z below #[Value.ref b] s) 1006 [(0, .ref b), (1, .ref (adF cy a a2 31 0)), (2, .ref (adF cy a a2 32 0)), (3, .int (nI i))] [] (wl (adF cy a a2) uF D2) 175 7450) : Ik G (fun q => s.heap.size ≤ q) p l e room_1 s m #[Value.ref b] below meth c 4 (lw_Z below #[Value.ref b] s) 740 [(0, .ref b), (1, .ref (adF cy a a2 31 0)), (2, .ref (adF cy a a2 32 0)), (3, .int (nI i))] [] (wl (adF cy a a2) uF D) 175 7450 := by
  obtain ⟨-, -, -, -, -, -, hX, hbl, -, -⟩ := id C0
  have hbA : ¬ (fun q : Nat => s.heap.size ≤ q) b := Nat.not_le.mpr hbl
  obtain ⟨r, D1, D2, e1, e2, hI⟩ := hAll.2.2.2.2.2.2.2.2.2.2.2.2.2.2.2.2.2.2.2.2.2.2.1 (xs (i + 1)) D hD
  refine ik_aload_n C 741 1 dL_law_740 rfl rfl rfl ?_
  refine ik_aload_n C 742 0 dL_law_741 rfl rfl rfl ?_
  refine ik_iload_n C 743 3 dL_law_742 rfl rfl rfl ?_
  refine ik_iconst C 744 dL_law_743 rfl k_ic1 ?_
  refine ik_iadd C 745 dL_law_744 rfl ?_
  refine ik_sld C hX hbl hbA 746 (i + 1) (nI_add i 1) (by omega) hL dL_law_745 rfl ?_
  refine ik_cI C 749 (ad := adF cy a a2) (U := uF) (D := D) (D1 := D1) (r := r) (kd := 31) (b := 0) vk_X9_leaseOf gw_853 (fun hU => c_X9_leaseOf (x1 := (xs (i + 1))) hU uf_PrU_0) e1 rfl rfl rfl (uf_PrU_0.1 31 (by decide) (by decide)) rfl rfl (rle2 rfl) rfl (st := []) rfl (Nat.le_of_ble_eq_true rfl) ⟨Nat.le_of_ble_eq_true rfl, Nat.le_of_ble_eq_true rfl⟩ dL_law_746 rfl ?_
  refine ik_aload_n C 750 2 dL_law_749 rfl rfl rfl ?_
  refine ik_aload_n C 751 0 dL_law_750 rfl rfl rfl ?_
  refine ik_iload_n C 752 3 dL_law_751 rfl rfl rfl ?_
  refine ik_iconst C 753 dL_law_752 rfl k_ic1 ?_
  refine ik_iadd C 754 dL_law_753 rfl ?_
  refine ik_sld C hX hbl hbA 755 (i + 1) (nI_add i 1) (by omega) hL dL_law_754 rfl ?_
  refine ik_cI C 758 (ad := adF cy a a2) (U := uF) (D := D1) (D1 := D2) (r := r) (kd := 32) (b := 0) vk_X10_leaseOf gw_1310 (fun hU => c_X10_leaseOf (x1 := (xs (i + 1))) hU uf_MoU_0) e2 rfl rfl rfl (uf_Mo9.1 32 (by decide) (by decide)) rfl rfl (rle2 rfl) rfl (st := [.int r]) rfl (Nat.le_of_ble_eq_true rfl) ⟨Nat.le_of_ble_eq_true rfl, Nat.le_of_ble_eq_true rfl⟩ dL_law_755 rfl ?_
  refine ik_iceq C 1006 dL_law_758 rfl ?_
  exact h D2 hI
set_option maxRecDepth 100000 in
set_option maxHeartbeats 4000000 in
theorem law_case23 {Inv : Dt → Prop} (hAll : AllOK Inv) {G : va_G} {cy : Nat → Nat → Nat} {a a2 : Nat → Nat} {p : Program} {l : Launch} {e : Env} {s : State} {m : MethodId} {below : List Frame} {meth : Method} {c : Code} {b L : Nat} {xs : Nat → Int32} (hL : L ≤ 2048) (C0 : lw_At p s m meth c b L xs) (C : Cx G cy [] (fun q => s.heap.size ≤ q) p s m meth c #[Value.ref b] code RL 4 (some .boolean)) {i : Nat} (hi : i + 4 ≤ L) {D : Dt} (hD : Inv D) (h : ∀ D2, Inv D2 → Ik G (fun q => s.heap.size ≤ q) p l e room_1 s m #[Value.ref b] below meth c 4 (lw_Z below #[Value.ref b] s) 1006 [(0, .ref b), (1, .ref (adF cy a a2 31 0)), (2, .ref (adF cy a a2 32 0)), (3, .int (nI i))] [] (wl (adF cy a a2) uF D2) 175 7450) : Ik G (fun q => s.heap.size ≤ q) p l e room_1 s m #[Value.ref b] below meth c 4 (lw_Z below #[Value.ref b] s) 763 [(0, .ref b), (1, .ref (adF cy a a2 31 0)), (2, .ref (adF cy a a2 32 0)), (3, .int (nI i))] [] (wl (adF cy a a2) uF D) 175 7450 := by
  obtain ⟨-, -, -, -, -, -, hX, hbl, -, -⟩ := id C0
  have hbA : ¬ (fun q : Nat => s.heap.size ≤ q) b := Nat.not_le.mpr hbl
  obtain ⟨r, D1, D2, e1, e2, hI⟩ := hAll.2.2.2.2.2.2.2.2.2.2.2.2.2.2.2.2.2.2.2.2.2.2.2.1 (xs (i + 1)) D hD
  refine ik_aload_n C 764 1 dL_law_763 rfl rfl rfl ?_
  refine ik_aload_n C 765 0 dL_law_764 rfl rfl rfl ?_
  refine ik_iload_n C 766 3 dL_law_765 rfl rfl rfl ?_
  refine ik_iconst C 767 dL_law_766 rfl k_ic1 ?_
  refine ik_iadd C 768 dL_law_767 rfl ?_
  refine ik_sld C hX hbl hbA 769 (i + 1) (nI_add i 1) (by omega) hL dL_law_768 rfl ?_
  refine ik_cI C 772 (ad := adF cy a a2) (U := uF) (D := D) (D1 := D1) (r := r) (kd := 31) (b := 0) vk_X9_pass gw_858 (fun hU => c_X9_pass (x1 := (xs (i + 1))) hU uf_PrU_0) e1 rfl rfl rfl (uf_PrU_0.1 31 (by decide) (by decide)) rfl rfl (rle2 rfl) rfl (st := []) rfl (Nat.le_of_ble_eq_true rfl) ⟨Nat.le_of_ble_eq_true rfl, Nat.le_of_ble_eq_true rfl⟩ dL_law_769 rfl ?_
  refine ik_aload_n C 773 2 dL_law_772 rfl rfl rfl ?_
  refine ik_aload_n C 774 0 dL_law_773 rfl rfl rfl ?_
  refine ik_iload_n C 775 3 dL_law_774 rfl rfl rfl ?_
  refine ik_iconst C 776 dL_law_775 rfl k_ic1 ?_
  refine ik_iadd C 777 dL_law_776 rfl ?_
  refine ik_sld C hX hbl hbA 778 (i + 1) (nI_add i 1) (by omega) hL dL_law_777 rfl ?_
  refine ik_cI C 781 (ad := adF cy a a2) (U := uF) (D := D1) (D1 := D2) (r := r) (kd := 32) (b := 0) vk_X10_pass gw_1314 (fun hU => c_X10_pass (x1 := (xs (i + 1))) hU uf_MoU_0) e2 rfl rfl rfl (uf_Mo9.1 32 (by decide) (by decide)) rfl rfl (rle2 rfl) rfl (st := [.int r]) rfl (Nat.le_of_ble_eq_true rfl) ⟨Nat.le_of_ble_eq_true rfl, Nat.le_of_ble_eq_true rfl⟩ dL_law_778 rfl ?_
  refine ik_iceq C 1006 dL_law_781 rfl ?_
  exact h D2 hI
set_option maxRecDepth 100000 in
set_option maxHeartbeats 4000000 in
theorem law_case24 {Inv : Dt → Prop} (hAll : AllOK Inv) {G : va_G} {cy : Nat → Nat → Nat} {a a2 : Nat → Nat} {p : Program} {l : Launch} {e : Env} {s : State} {m : MethodId} {below : List Frame} {meth : Method} {c : Code} {b L : Nat} {xs : Nat → Int32} (hL : L ≤ 2048) (C0 : lw_At p s m meth c b L xs) (C : Cx G cy [] (fun q => s.heap.size ≤ q) p s m meth c #[Value.ref b] code RL 4 (some .boolean)) {i : Nat} (hi : i + 4 ≤ L) {D : Dt} (hD : Inv D) (h : ∀ D2, Inv D2 → Ik G (fun q => s.heap.size ≤ q) p l e room_1 s m #[Value.ref b] below meth c 4 (lw_Z below #[Value.ref b] s) 1006 [(0, .ref b), (1, .ref (adF cy a a2 31 0)), (2, .ref (adF cy a a2 32 0)), (3, .int (nI i))] [] (wl (adF cy a a2) uF D2) 175 7450) : Ik G (fun q => s.heap.size ≤ q) p l e room_1 s m #[Value.ref b] below meth c 4 (lw_Z below #[Value.ref b] s) 786 [(0, .ref b), (1, .ref (adF cy a a2 31 0)), (2, .ref (adF cy a a2 32 0)), (3, .int (nI i))] [] (wl (adF cy a a2) uF D) 175 7450 := by
  obtain ⟨-, -, -, -, -, -, hX, hbl, -, -⟩ := id C0
  have hbA : ¬ (fun q : Nat => s.heap.size ≤ q) b := Nat.not_le.mpr hbl
  obtain ⟨r, D1, D2, e1, e2, hI⟩ := hAll.2.2.2.2.2.2.2.2.2.2.2.2.2.2.2.2.2.2.2.2.2.2.2.2.1 (xs (i + 1)) (xs (i + 2)) D hD
  refine ik_aload_n C 787 1 dL_law_786 rfl rfl rfl ?_
  refine ik_aload_n C 788 0 dL_law_787 rfl rfl rfl ?_
  refine ik_iload_n C 789 3 dL_law_788 rfl rfl rfl ?_
  refine ik_iconst C 790 dL_law_789 rfl k_ic1 ?_
  refine ik_iadd C 791 dL_law_790 rfl ?_
  refine ik_sld C hX hbl hbA 792 (i + 1) (nI_add i 1) (by omega) hL dL_law_791 rfl ?_
  refine ik_aload_n C 793 0 dL_law_792 rfl rfl rfl ?_
  refine ik_iload_n C 794 3 dL_law_793 rfl rfl rfl ?_
  refine ik_iconst C 795 dL_law_794 rfl k_ic2 ?_
  refine ik_iadd C 796 dL_law_795 rfl ?_
  refine ik_sld C hX hbl hbA 797 (i + 2) (nI_add i 2) (by omega) hL dL_law_796 rfl ?_
  refine ik_cI C 800 (ad := adF cy a a2) (U := uF) (D := D) (D1 := D1) (r := r) (kd := 31) (b := 0) vk_X9_setTimes gw_870 (fun hU => c_X9_setTimes (x1 := (xs (i + 1))) (x2 := (xs (i + 2))) hU uf_PrU_0) e1 rfl rfl rfl (uf_PrU_0.1 31 (by decide) (by decide)) rfl rfl (rle2 rfl) rfl (st := []) rfl (Nat.le_of_ble_eq_true rfl) ⟨Nat.le_of_ble_eq_true rfl, Nat.le_of_ble_eq_true rfl⟩ dL_law_797 rfl ?_
  refine ik_aload_n C 801 2 dL_law_800 rfl rfl rfl ?_
  refine ik_aload_n C 802 0 dL_law_801 rfl rfl rfl ?_
  refine ik_iload_n C 803 3 dL_law_802 rfl rfl rfl ?_
  refine ik_iconst C 804 dL_law_803 rfl k_ic1 ?_
  refine ik_iadd C 805 dL_law_804 rfl ?_
  refine ik_sld C hX hbl hbA 806 (i + 1) (nI_add i 1) (by omega) hL dL_law_805 rfl ?_
  refine ik_aload_n C 807 0 dL_law_806 rfl rfl rfl ?_
  refine ik_iload_n C 808 3 dL_law_807 rfl rfl rfl ?_
  refine ik_iconst C 809 dL_law_808 rfl k_ic2 ?_
  refine ik_iadd C 810 dL_law_809 rfl ?_
  refine ik_sld C hX hbl hbA 811 (i + 2) (nI_add i 2) (by omega) hL dL_law_810 rfl ?_
  refine ik_cI C 814 (ad := adF cy a a2) (U := uF) (D := D1) (D1 := D2) (r := r) (kd := 32) (b := 0) vk_X10_setTimes gw_1318 (fun hU => c_X10_setTimes (x1 := (xs (i + 1))) (x2 := (xs (i + 2))) hU uf_MoU_0) e2 rfl rfl rfl (uf_Mo9.1 32 (by decide) (by decide)) rfl rfl (rle2 rfl) rfl (st := [.int r]) rfl (Nat.le_of_ble_eq_true rfl) ⟨Nat.le_of_ble_eq_true rfl, Nat.le_of_ble_eq_true rfl⟩ dL_law_811 rfl ?_
  refine ik_iceq C 1006 dL_law_814 rfl ?_
  exact h D2 hI
set_option maxRecDepth 100000 in
set_option maxHeartbeats 4000000 in
theorem law_case25 {Inv : Dt → Prop} (hAll : AllOK Inv) {G : va_G} {cy : Nat → Nat → Nat} {a a2 : Nat → Nat} {p : Program} {l : Launch} {e : Env} {s : State} {m : MethodId} {below : List Frame} {meth : Method} {c : Code} {b L : Nat} {xs : Nat → Int32} (hL : L ≤ 2048) (C0 : lw_At p s m meth c b L xs) (C : Cx G cy [] (fun q => s.heap.size ≤ q) p s m meth c #[Value.ref b] code RL 4 (some .boolean)) {i : Nat} (hi : i + 4 ≤ L) {D : Dt} (hD : Inv D) (h : ∀ D2, Inv D2 → Ik G (fun q => s.heap.size ≤ q) p l e room_1 s m #[Value.ref b] below meth c 4 (lw_Z below #[Value.ref b] s) 1006 [(0, .ref b), (1, .ref (adF cy a a2 31 0)), (2, .ref (adF cy a a2 32 0)), (3, .int (nI i))] [] (wl (adF cy a a2) uF D2) 175 7450) : Ik G (fun q => s.heap.size ≤ q) p l e room_1 s m #[Value.ref b] below meth c 4 (lw_Z below #[Value.ref b] s) 819 [(0, .ref b), (1, .ref (adF cy a a2 31 0)), (2, .ref (adF cy a a2 32 0)), (3, .int (nI i))] [] (wl (adF cy a a2) uF D) 175 7450 := by
  obtain ⟨-, -, -, -, -, -, hX, hbl, -, -⟩ := id C0
  have hbA : ¬ (fun q : Nat => s.heap.size ≤ q) b := Nat.not_le.mpr hbl
  obtain ⟨r, D1, D2, e1, e2, hI⟩ := hAll.2.2.2.2.2.2.2.2.2.2.2.2.2.2.2.2.2.2.2.2.2.2.2.2.2.1 () D hD
  refine ik_aload_n C 820 1 dL_law_819 rfl rfl rfl ?_
  refine ik_cI C 823 (ad := adF cy a a2) (U := uF) (D := D) (D1 := D1) (r := r) (kd := 31) (b := 0) vk_X9_nextEvent gw_874 (fun hU => c_X9_nextEvent hU uf_PrU_0) e1 rfl rfl rfl (uf_PrU_0.1 31 (by decide) (by decide)) rfl rfl (rle2 rfl) rfl (st := []) rfl (Nat.le_of_ble_eq_true rfl) ⟨Nat.le_of_ble_eq_true rfl, Nat.le_of_ble_eq_true rfl⟩ dL_law_820 rfl ?_
  refine ik_aload_n C 824 2 dL_law_823 rfl rfl rfl ?_
  refine ik_cI C 827 (ad := adF cy a a2) (U := uF) (D := D1) (D1 := D2) (r := r) (kd := 32) (b := 0) vk_X10_nextEvent gw_1322 (fun hU => c_X10_nextEvent hU uf_MoU_0) e2 rfl rfl rfl (uf_Mo9.1 32 (by decide) (by decide)) rfl rfl (rle2 rfl) rfl (st := [.int r]) rfl (Nat.le_of_ble_eq_true rfl) ⟨Nat.le_of_ble_eq_true rfl, Nat.le_of_ble_eq_true rfl⟩ dL_law_824 rfl ?_
  refine ik_iceq C 1006 dL_law_827 rfl ?_
  exact h D2 hI
set_option maxRecDepth 100000 in
set_option maxHeartbeats 4000000 in
theorem law_case26 {Inv : Dt → Prop} (hAll : AllOK Inv) {G : va_G} {cy : Nat → Nat → Nat} {a a2 : Nat → Nat} {p : Program} {l : Launch} {e : Env} {s : State} {m : MethodId} {below : List Frame} {meth : Method} {c : Code} {b L : Nat} {xs : Nat → Int32} (hL : L ≤ 2048) (C0 : lw_At p s m meth c b L xs) (C : Cx G cy [] (fun q => s.heap.size ≤ q) p s m meth c #[Value.ref b] code RL 4 (some .boolean)) {i : Nat} (hi : i + 4 ≤ L) {D : Dt} (hD : Inv D) (h : ∀ D2, Inv D2 → Ik G (fun q => s.heap.size ≤ q) p l e room_1 s m #[Value.ref b] below meth c 4 (lw_Z below #[Value.ref b] s) 1006 [(0, .ref b), (1, .ref (adF cy a a2 31 0)), (2, .ref (adF cy a a2 32 0)), (3, .int (nI i))] [] (wl (adF cy a a2) uF D2) 175 7450) : Ik G (fun q => s.heap.size ≤ q) p l e room_1 s m #[Value.ref b] below meth c 4 (lw_Z below #[Value.ref b] s) 832 [(0, .ref b), (1, .ref (adF cy a a2 31 0)), (2, .ref (adF cy a a2 32 0)), (3, .int (nI i))] [] (wl (adF cy a a2) uF D) 175 7450 := by
  obtain ⟨-, -, -, -, -, -, hX, hbl, -, -⟩ := id C0
  have hbA : ¬ (fun q : Nat => s.heap.size ≤ q) b := Nat.not_le.mpr hbl
  obtain ⟨r, D1, D2, e1, e2, hI⟩ := hAll.2.2.2.2.2.2.2.2.2.2.2.2.2.2.2.2.2.2.2.2.2.2.2.2.2.2.1 (xs (i + 1)) D hD
  refine ik_aload_n C 833 1 dL_law_832 rfl rfl rfl ?_
  refine ik_aload_n C 834 0 dL_law_833 rfl rfl rfl ?_
  refine ik_iload_n C 835 3 dL_law_834 rfl rfl rfl ?_
  refine ik_iconst C 836 dL_law_835 rfl k_ic1 ?_
  refine ik_iadd C 837 dL_law_836 rfl ?_
  refine ik_sld C hX hbl hbA 838 (i + 1) (nI_add i 1) (by omega) hL dL_law_837 rfl ?_
  refine ik_cI C 841 (ad := adF cy a a2) (U := uF) (D := D) (D1 := D1) (r := r) (kd := 31) (b := 0) vk_X9_count gw_888 (fun hU => c_X9_count (x1 := (xs (i + 1))) hU uf_PrU_0) e1 rfl rfl rfl (uf_PrU_0.1 31 (by decide) (by decide)) rfl rfl (rle2 rfl) rfl (st := []) rfl (Nat.le_of_ble_eq_true rfl) ⟨Nat.le_of_ble_eq_true rfl, Nat.le_of_ble_eq_true rfl⟩ dL_law_838 rfl ?_
  refine ik_aload_n C 842 2 dL_law_841 rfl rfl rfl ?_
  refine ik_aload_n C 843 0 dL_law_842 rfl rfl rfl ?_
  refine ik_iload_n C 844 3 dL_law_843 rfl rfl rfl ?_
  refine ik_iconst C 845 dL_law_844 rfl k_ic1 ?_
  refine ik_iadd C 846 dL_law_845 rfl ?_
  refine ik_sld C hX hbl hbA 847 (i + 1) (nI_add i 1) (by omega) hL dL_law_846 rfl ?_
  refine ik_cI C 850 (ad := adF cy a a2) (U := uF) (D := D1) (D1 := D2) (r := r) (kd := 32) (b := 0) vk_X10_count gw_1326 (fun hU => c_X10_count (x1 := (xs (i + 1))) hU uf_MoU_0) e2 rfl rfl rfl (uf_Mo9.1 32 (by decide) (by decide)) rfl rfl (rle2 rfl) rfl (st := [.int r]) rfl (Nat.le_of_ble_eq_true rfl) ⟨Nat.le_of_ble_eq_true rfl, Nat.le_of_ble_eq_true rfl⟩ dL_law_847 rfl ?_
  refine ik_iceq C 1006 dL_law_850 rfl ?_
  exact h D2 hI
set_option maxRecDepth 100000 in
set_option maxHeartbeats 4000000 in
theorem law_case27 {Inv : Dt → Prop} (hAll : AllOK Inv) {G : va_G} {cy : Nat → Nat → Nat} {a a2 : Nat → Nat} {p : Program} {l : Launch} {e : Env} {s : State} {m : MethodId} {below : List Frame} {meth : Method} {c : Code} {b L : Nat} {xs : Nat → Int32} (hL : L ≤ 2048) (C0 : lw_At p s m meth c b L xs) (C : Cx G cy [] (fun q => s.heap.size ≤ q) p s m meth c #[Value.ref b] code RL 4 (some .boolean)) {i : Nat} (hi : i + 4 ≤ L) {D : Dt} (hD : Inv D) (h : ∀ D2, Inv D2 → Ik G (fun q => s.heap.size ≤ q) p l e room_1 s m #[Value.ref b] below meth c 4 (lw_Z below #[Value.ref b] s) 1006 [(0, .ref b), (1, .ref (adF cy a a2 31 0)), (2, .ref (adF cy a a2 32 0)), (3, .int (nI i))] [] (wl (adF cy a a2) uF D2) 175 7450) : Ik G (fun q => s.heap.size ≤ q) p l e room_1 s m #[Value.ref b] below meth c 4 (lw_Z below #[Value.ref b] s) 855 [(0, .ref b), (1, .ref (adF cy a a2 31 0)), (2, .ref (adF cy a a2 32 0)), (3, .int (nI i))] [] (wl (adF cy a a2) uF D) 175 7450 := by
  obtain ⟨-, -, -, -, -, -, hX, hbl, -, -⟩ := id C0
  have hbA : ¬ (fun q : Nat => s.heap.size ≤ q) b := Nat.not_le.mpr hbl
  obtain ⟨r, D1, D2, e1, e2, hI⟩ := hAll.2.2.2.2.2.2.2.2.2.2.2.2.2.2.2.2.2.2.2.2.2.2.2.2.2.2.2.1 () D hD
  refine ik_aload_n C 856 1 dL_law_855 rfl rfl rfl ?_
  refine ik_cI C 859 (ad := adF cy a a2) (U := uF) (D := D) (D1 := D1) (r := r) (kd := 31) (b := 0) vk_X9_routeCount gw_910 (fun hU => c_X9_routeCount hU uf_PrU_0) e1 rfl rfl rfl (uf_PrU_0.1 31 (by decide) (by decide)) rfl rfl (rle2 rfl) rfl (st := []) rfl (Nat.le_of_ble_eq_true rfl) ⟨Nat.le_of_ble_eq_true rfl, Nat.le_of_ble_eq_true rfl⟩ dL_law_856 rfl ?_
  refine ik_aload_n C 860 2 dL_law_859 rfl rfl rfl ?_
  refine ik_cI C 863 (ad := adF cy a a2) (U := uF) (D := D1) (D1 := D2) (r := r) (kd := 32) (b := 0) vk_X10_routeCount gw_1338 (fun hU => c_X10_routeCount hU uf_MoU_0) e2 rfl rfl rfl (uf_Mo9.1 32 (by decide) (by decide)) rfl rfl (rle2 rfl) rfl (st := [.int r]) rfl (Nat.le_of_ble_eq_true rfl) ⟨Nat.le_of_ble_eq_true rfl, Nat.le_of_ble_eq_true rfl⟩ dL_law_860 rfl ?_
  refine ik_iceq C 1006 dL_law_863 rfl ?_
  exact h D2 hI
set_option maxRecDepth 100000 in
set_option maxHeartbeats 4000000 in
theorem law_case28 {Inv : Dt → Prop} (hAll : AllOK Inv) {G : va_G} {cy : Nat → Nat → Nat} {a a2 : Nat → Nat} {p : Program} {l : Launch} {e : Env} {s : State} {m : MethodId} {below : List Frame} {meth : Method} {c : Code} {b L : Nat} {xs : Nat → Int32} (hL : L ≤ 2048) (C0 : lw_At p s m meth c b L xs) (C : Cx G cy [] (fun q => s.heap.size ≤ q) p s m meth c #[Value.ref b] code RL 4 (some .boolean)) {i : Nat} (hi : i + 4 ≤ L) {D : Dt} (hD : Inv D) (h : ∀ D2, Inv D2 → Ik G (fun q => s.heap.size ≤ q) p l e room_1 s m #[Value.ref b] below meth c 4 (lw_Z below #[Value.ref b] s) 1006 [(0, .ref b), (1, .ref (adF cy a a2 31 0)), (2, .ref (adF cy a a2 32 0)), (3, .int (nI i))] [] (wl (adF cy a a2) uF D2) 175 7450) : Ik G (fun q => s.heap.size ≤ q) p l e room_1 s m #[Value.ref b] below meth c 4 (lw_Z below #[Value.ref b] s) 868 [(0, .ref b), (1, .ref (adF cy a a2 31 0)), (2, .ref (adF cy a a2 32 0)), (3, .int (nI i))] [] (wl (adF cy a a2) uF D) 175 7450 := by
  obtain ⟨-, -, -, -, -, -, hX, hbl, -, -⟩ := id C0
  have hbA : ¬ (fun q : Nat => s.heap.size ≤ q) b := Nat.not_le.mpr hbl
  obtain ⟨r, D1, D2, e1, e2, hI⟩ := hAll.2.2.2.2.2.2.2.2.2.2.2.2.2.2.2.2.2.2.2.2.2.2.2.2.2.2.2.2.1 (xs (i + 1)) (xs (i + 2)) D hD
  refine ik_aload_n C 869 1 dL_law_868 rfl rfl rfl ?_
  refine ik_aload_n C 870 0 dL_law_869 rfl rfl rfl ?_
  refine ik_iload_n C 871 3 dL_law_870 rfl rfl rfl ?_
  refine ik_iconst C 872 dL_law_871 rfl k_ic1 ?_
  refine ik_iadd C 873 dL_law_872 rfl ?_
  refine ik_sld C hX hbl hbA 874 (i + 1) (nI_add i 1) (by omega) hL dL_law_873 rfl ?_
  refine ik_aload_n C 875 0 dL_law_874 rfl rfl rfl ?_
  refine ik_iload_n C 876 3 dL_law_875 rfl rfl rfl ?_
  refine ik_iconst C 877 dL_law_876 rfl k_ic2 ?_
  refine ik_iadd C 878 dL_law_877 rfl ?_
  refine ik_sld C hX hbl hbA 879 (i + 2) (nI_add i 2) (by omega) hL dL_law_878 rfl ?_
  refine ik_cI C 882 (ad := adF cy a a2) (U := uF) (D := D) (D1 := D1) (r := r) (kd := 31) (b := 0) vk_X9_route gw_918 (fun hU => c_X9_route (x1 := (xs (i + 1))) (x2 := (xs (i + 2))) hU uf_PrU_0) e1 rfl rfl rfl (uf_PrU_0.1 31 (by decide) (by decide)) rfl rfl (rle2 rfl) rfl (st := []) rfl (Nat.le_of_ble_eq_true rfl) ⟨Nat.le_of_ble_eq_true rfl, Nat.le_of_ble_eq_true rfl⟩ dL_law_879 rfl ?_
  refine ik_aload_n C 883 2 dL_law_882 rfl rfl rfl ?_
  refine ik_aload_n C 884 0 dL_law_883 rfl rfl rfl ?_
  refine ik_iload_n C 885 3 dL_law_884 rfl rfl rfl ?_
  refine ik_iconst C 886 dL_law_885 rfl k_ic1 ?_
  refine ik_iadd C 887 dL_law_886 rfl ?_
  refine ik_sld C hX hbl hbA 888 (i + 1) (nI_add i 1) (by omega) hL dL_law_887 rfl ?_
  refine ik_aload_n C 889 0 dL_law_888 rfl rfl rfl ?_
  refine ik_iload_n C 890 3 dL_law_889 rfl rfl rfl ?_
  refine ik_iconst C 891 dL_law_890 rfl k_ic2 ?_
  refine ik_iadd C 892 dL_law_891 rfl ?_
  refine ik_sld C hX hbl hbA 893 (i + 2) (nI_add i 2) (by omega) hL dL_law_892 rfl ?_
  refine ik_cI C 896 (ad := adF cy a a2) (U := uF) (D := D1) (D1 := D2) (r := r) (kd := 32) (b := 0) vk_X10_route gw_1350 (fun hU => c_X10_route (x1 := (xs (i + 1))) (x2 := (xs (i + 2))) hU uf_MoU_0) e2 rfl rfl rfl (uf_Mo9.1 32 (by decide) (by decide)) rfl rfl (rle2 rfl) rfl (st := [.int r]) rfl (Nat.le_of_ble_eq_true rfl) ⟨Nat.le_of_ble_eq_true rfl, Nat.le_of_ble_eq_true rfl⟩ dL_law_893 rfl ?_
  refine ik_iceq C 1006 dL_law_896 rfl ?_
  exact h D2 hI
set_option maxRecDepth 100000 in
set_option maxHeartbeats 4000000 in
theorem law_case29 {Inv : Dt → Prop} (hAll : AllOK Inv) {G : va_G} {cy : Nat → Nat → Nat} {a a2 : Nat → Nat} {p : Program} {l : Launch} {e : Env} {s : State} {m : MethodId} {below : List Frame} {meth : Method} {c : Code} {b L : Nat} {xs : Nat → Int32} (hL : L ≤ 2048) (C0 : lw_At p s m meth c b L xs) (C : Cx G cy [] (fun q => s.heap.size ≤ q) p s m meth c #[Value.ref b] code RL 4 (some .boolean)) {i : Nat} (hi : i + 4 ≤ L) {D : Dt} (hD : Inv D) (h : ∀ D2, Inv D2 → Ik G (fun q => s.heap.size ≤ q) p l e room_1 s m #[Value.ref b] below meth c 4 (lw_Z below #[Value.ref b] s) 1006 [(0, .ref b), (1, .ref (adF cy a a2 31 0)), (2, .ref (adF cy a a2 32 0)), (3, .int (nI i))] [] (wl (adF cy a a2) uF D2) 175 7450) : Ik G (fun q => s.heap.size ≤ q) p l e room_1 s m #[Value.ref b] below meth c 4 (lw_Z below #[Value.ref b] s) 901 [(0, .ref b), (1, .ref (adF cy a a2 31 0)), (2, .ref (adF cy a a2 32 0)), (3, .int (nI i))] [] (wl (adF cy a a2) uF D) 175 7450 := by
  obtain ⟨-, -, -, -, -, -, hX, hbl, -, -⟩ := id C0
  have hbA : ¬ (fun q : Nat => s.heap.size ≤ q) b := Nat.not_le.mpr hbl
  obtain ⟨r, D1, D2, e1, e2, hI⟩ := hAll.2.2.2.2.2.2.2.2.2.2.2.2.2.2.2.2.2.2.2.2.2.2.2.2.2.2.2.2.2.1 (xs (i + 1)) D hD
  refine ik_aload_n C 902 1 dL_law_901 rfl rfl rfl ?_
  refine ik_aload_n C 903 0 dL_law_902 rfl rfl rfl ?_
  refine ik_iload_n C 904 3 dL_law_903 rfl rfl rfl ?_
  refine ik_iconst C 905 dL_law_904 rfl k_ic1 ?_
  refine ik_iadd C 906 dL_law_905 rfl ?_
  refine ik_sld C hX hbl hbA 907 (i + 1) (nI_add i 1) (by omega) hL dL_law_906 rfl ?_
  refine ik_cI C 910 (ad := adF cy a a2) (U := uF) (D := D) (D1 := D1) (r := r) (kd := 31) (b := 0) vk_X9_fragmentationAfter gw_923 (fun hU => c_X9_fragmentationAfter (x1 := (xs (i + 1))) hU uf_PrU_0) e1 rfl rfl rfl (uf_PrU_0.1 31 (by decide) (by decide)) rfl rfl (rle2 rfl) rfl (st := []) rfl (Nat.le_of_ble_eq_true rfl) ⟨Nat.le_of_ble_eq_true rfl, Nat.le_of_ble_eq_true rfl⟩ dL_law_907 rfl ?_
  refine ik_aload_n C 911 2 dL_law_910 rfl rfl rfl ?_
  refine ik_aload_n C 912 0 dL_law_911 rfl rfl rfl ?_
  refine ik_iload_n C 913 3 dL_law_912 rfl rfl rfl ?_
  refine ik_iconst C 914 dL_law_913 rfl k_ic1 ?_
  refine ik_iadd C 915 dL_law_914 rfl ?_
  refine ik_sld C hX hbl hbA 916 (i + 1) (nI_add i 1) (by omega) hL dL_law_915 rfl ?_
  refine ik_cI C 919 (ad := adF cy a a2) (U := uF) (D := D1) (D1 := D2) (r := r) (kd := 32) (b := 0) vk_X10_fragmentationAfter gw_1354 (fun hU => c_X10_fragmentationAfter (x1 := (xs (i + 1))) hU uf_MoU_0) e2 rfl rfl rfl (uf_Mo9.1 32 (by decide) (by decide)) rfl rfl (rle2 rfl) rfl (st := [.int r]) rfl (Nat.le_of_ble_eq_true rfl) ⟨Nat.le_of_ble_eq_true rfl, Nat.le_of_ble_eq_true rfl⟩ dL_law_916 rfl ?_
  refine ik_iceq C 1006 dL_law_919 rfl ?_
  exact h D2 hI
set_option maxRecDepth 100000 in
set_option maxHeartbeats 4000000 in
theorem law_case30 {Inv : Dt → Prop} (hAll : AllOK Inv) {G : va_G} {cy : Nat → Nat → Nat} {a a2 : Nat → Nat} {p : Program} {l : Launch} {e : Env} {s : State} {m : MethodId} {below : List Frame} {meth : Method} {c : Code} {b L : Nat} {xs : Nat → Int32} (hL : L ≤ 2048) (C0 : lw_At p s m meth c b L xs) (C : Cx G cy [] (fun q => s.heap.size ≤ q) p s m meth c #[Value.ref b] code RL 4 (some .boolean)) {i : Nat} (hi : i + 4 ≤ L) {D : Dt} (hD : Inv D) (h : ∀ D2, Inv D2 → Ik G (fun q => s.heap.size ≤ q) p l e room_1 s m #[Value.ref b] below meth c 4 (lw_Z below #[Value.ref b] s) 1006 [(0, .ref b), (1, .ref (adF cy a a2 31 0)), (2, .ref (adF cy a a2 32 0)), (3, .int (nI i))] [] (wl (adF cy a a2) uF D2) 175 7450) : Ik G (fun q => s.heap.size ≤ q) p l e room_1 s m #[Value.ref b] below meth c 4 (lw_Z below #[Value.ref b] s) 924 [(0, .ref b), (1, .ref (adF cy a a2 31 0)), (2, .ref (adF cy a a2 32 0)), (3, .int (nI i))] [] (wl (adF cy a a2) uF D) 175 7450 := by
  obtain ⟨-, -, -, -, -, -, hX, hbl, -, -⟩ := id C0
  have hbA : ¬ (fun q : Nat => s.heap.size ≤ q) b := Nat.not_le.mpr hbl
  obtain ⟨r, D1, D2, e1, e2, hI⟩ := hAll.2.2.2.2.2.2.2.2.2.2.2.2.2.2.2.2.2.2.2.2.2.2.2.2.2.2.2.2.2.2.1 () D hD
  refine ik_aload_n C 925 1 dL_law_924 rfl rfl rfl ?_
  refine ik_cI C 928 (ad := adF cy a a2) (U := uF) (D := D) (D1 := D1) (r := r) (kd := 31) (b := 0) vk_X9_bestMove gw_939 (fun hU => c_X9_bestMove hU uf_PrU_0) e1 rfl rfl rfl (uf_PrU_0.1 31 (by decide) (by decide)) rfl rfl (rle2 rfl) rfl (st := []) rfl (Nat.le_of_ble_eq_true rfl) ⟨Nat.le_of_ble_eq_true rfl, Nat.le_of_ble_eq_true rfl⟩ dL_law_925 rfl ?_
  refine ik_aload_n C 929 2 dL_law_928 rfl rfl rfl ?_
  refine ik_cI C 932 (ad := adF cy a a2) (U := uF) (D := D1) (D1 := D2) (r := r) (kd := 32) (b := 0) vk_X10_bestMove gw_1362 (fun hU => c_X10_bestMove hU uf_MoU_0) e2 rfl rfl rfl (uf_Mo9.1 32 (by decide) (by decide)) rfl rfl (rle2 rfl) rfl (st := [.int r]) rfl (Nat.le_of_ble_eq_true rfl) ⟨Nat.le_of_ble_eq_true rfl, Nat.le_of_ble_eq_true rfl⟩ dL_law_929 rfl ?_
  refine ik_iceq C 1006 dL_law_932 rfl ?_
  exact h D2 hI
set_option maxRecDepth 100000 in
set_option maxHeartbeats 4000000 in
theorem law_case31 {Inv : Dt → Prop} (hAll : AllOK Inv) {G : va_G} {cy : Nat → Nat → Nat} {a a2 : Nat → Nat} {p : Program} {l : Launch} {e : Env} {s : State} {m : MethodId} {below : List Frame} {meth : Method} {c : Code} {b L : Nat} {xs : Nat → Int32} (hL : L ≤ 2048) (C0 : lw_At p s m meth c b L xs) (C : Cx G cy [] (fun q => s.heap.size ≤ q) p s m meth c #[Value.ref b] code RL 4 (some .boolean)) {i : Nat} (hi : i + 4 ≤ L) {D : Dt} (hD : Inv D) (h : ∀ D2, Inv D2 → Ik G (fun q => s.heap.size ≤ q) p l e room_1 s m #[Value.ref b] below meth c 4 (lw_Z below #[Value.ref b] s) 1006 [(0, .ref b), (1, .ref (adF cy a a2 31 0)), (2, .ref (adF cy a a2 32 0)), (3, .int (nI i))] [] (wl (adF cy a a2) uF D2) 175 7450) : Ik G (fun q => s.heap.size ≤ q) p l e room_1 s m #[Value.ref b] below meth c 4 (lw_Z below #[Value.ref b] s) 937 [(0, .ref b), (1, .ref (adF cy a a2 31 0)), (2, .ref (adF cy a a2 32 0)), (3, .int (nI i))] [] (wl (adF cy a a2) uF D) 175 7450 := by
  obtain ⟨-, -, -, -, -, -, hX, hbl, -, -⟩ := id C0
  have hbA : ¬ (fun q : Nat => s.heap.size ≤ q) b := Nat.not_le.mpr hbl
  obtain ⟨r, D1, D2, e1, e2, hI⟩ := hAll.2.2.2.2.2.2.2.2.2.2.2.2.2.2.2.2.2.2.2.2.2.2.2.2.2.2.2.2.2.2.2.1 (xs (i + 1)) D hD
  refine ik_aload_n C 938 1 dL_law_937 rfl rfl rfl ?_
  refine ik_aload_n C 939 0 dL_law_938 rfl rfl rfl ?_
  refine ik_iload_n C 940 3 dL_law_939 rfl rfl rfl ?_
  refine ik_iconst C 941 dL_law_940 rfl k_ic1 ?_
  refine ik_iadd C 942 dL_law_941 rfl ?_
  refine ik_sld C hX hbl hbA 943 (i + 1) (nI_add i 1) (by omega) hL dL_law_942 rfl ?_
  refine ik_cI C 946 (ad := adF cy a a2) (U := uF) (D := D) (D1 := D1) (r := r) (kd := 31) (b := 0) vk_X9_makePlan gw_949 (fun hU => c_X9_makePlan (x1 := (xs (i + 1))) hU uf_PrU_0) e1 rfl rfl rfl (uf_PrU_0.1 31 (by decide) (by decide)) rfl rfl (rle2 rfl) rfl (st := []) rfl (Nat.le_of_ble_eq_true rfl) ⟨Nat.le_of_ble_eq_true rfl, Nat.le_of_ble_eq_true rfl⟩ dL_law_943 rfl ?_
  refine ik_aload_n C 947 2 dL_law_946 rfl rfl rfl ?_
  refine ik_aload_n C 948 0 dL_law_947 rfl rfl rfl ?_
  refine ik_iload_n C 949 3 dL_law_948 rfl rfl rfl ?_
  refine ik_iconst C 950 dL_law_949 rfl k_ic1 ?_
  refine ik_iadd C 951 dL_law_950 rfl ?_
  refine ik_sld C hX hbl hbA 952 (i + 1) (nI_add i 1) (by omega) hL dL_law_951 rfl ?_
  refine ik_cI C 955 (ad := adF cy a a2) (U := uF) (D := D1) (D1 := D2) (r := r) (kd := 32) (b := 0) vk_X10_makePlan gw_1370 (fun hU => c_X10_makePlan (x1 := (xs (i + 1))) hU uf_MoU_0) e2 rfl rfl rfl (uf_Mo9.1 32 (by decide) (by decide)) rfl rfl (rle2 rfl) rfl (st := [.int r]) rfl (Nat.le_of_ble_eq_true rfl) ⟨Nat.le_of_ble_eq_true rfl, Nat.le_of_ble_eq_true rfl⟩ dL_law_952 rfl ?_
  refine ik_iceq C 1006 dL_law_955 rfl ?_
  exact h D2 hI
set_option maxRecDepth 100000 in
set_option maxHeartbeats 4000000 in
theorem law_case32 {Inv : Dt → Prop} (hAll : AllOK Inv) {G : va_G} {cy : Nat → Nat → Nat} {a a2 : Nat → Nat} {p : Program} {l : Launch} {e : Env} {s : State} {m : MethodId} {below : List Frame} {meth : Method} {c : Code} {b L : Nat} {xs : Nat → Int32} (hL : L ≤ 2048) (C0 : lw_At p s m meth c b L xs) (C : Cx G cy [] (fun q => s.heap.size ≤ q) p s m meth c #[Value.ref b] code RL 4 (some .boolean)) {i : Nat} (hi : i + 4 ≤ L) {D : Dt} (hD : Inv D) (h : ∀ D2, Inv D2 → Ik G (fun q => s.heap.size ≤ q) p l e room_1 s m #[Value.ref b] below meth c 4 (lw_Z below #[Value.ref b] s) 1006 [(0, .ref b), (1, .ref (adF cy a a2 31 0)), (2, .ref (adF cy a a2 32 0)), (3, .int (nI i))] [] (wl (adF cy a a2) uF D2) 175 7450) : Ik G (fun q => s.heap.size ≤ q) p l e room_1 s m #[Value.ref b] below meth c 4 (lw_Z below #[Value.ref b] s) 960 [(0, .ref b), (1, .ref (adF cy a a2 31 0)), (2, .ref (adF cy a a2 32 0)), (3, .int (nI i))] [] (wl (adF cy a a2) uF D) 175 7450 := by
  obtain ⟨-, -, -, -, -, -, hX, hbl, -, -⟩ := id C0
  have hbA : ¬ (fun q : Nat => s.heap.size ≤ q) b := Nat.not_le.mpr hbl
  obtain ⟨r, D1, D2, e1, e2, hI⟩ := hAll.2.2.2.2.2.2.2.2.2.2.2.2.2.2.2.2.2.2.2.2.2.2.2.2.2.2.2.2.2.2.2.2.1 (xs (i + 1)) (xs (i + 2)) D hD
  refine ik_aload_n C 961 1 dL_law_960 rfl rfl rfl ?_
  refine ik_aload_n C 962 0 dL_law_961 rfl rfl rfl ?_
  refine ik_iload_n C 963 3 dL_law_962 rfl rfl rfl ?_
  refine ik_iconst C 964 dL_law_963 rfl k_ic1 ?_
  refine ik_iadd C 965 dL_law_964 rfl ?_
  refine ik_sld C hX hbl hbA 966 (i + 1) (nI_add i 1) (by omega) hL dL_law_965 rfl ?_
  refine ik_aload_n C 967 0 dL_law_966 rfl rfl rfl ?_
  refine ik_iload_n C 968 3 dL_law_967 rfl rfl rfl ?_
  refine ik_iconst C 969 dL_law_968 rfl k_ic2 ?_
  refine ik_iadd C 970 dL_law_969 rfl ?_
  refine ik_sld C hX hbl hbA 971 (i + 2) (nI_add i 2) (by omega) hL dL_law_970 rfl ?_
  refine ik_cI C 974 (ad := adF cy a a2) (U := uF) (D := D) (D1 := D1) (r := r) (kd := 31) (b := 0) vk_X9_plan gw_960 (fun hU => c_X9_plan (x1 := (xs (i + 1))) (x2 := (xs (i + 2))) hU uf_PrU_0) e1 rfl rfl rfl (uf_PrU_0.1 31 (by decide) (by decide)) rfl rfl (rle2 rfl) rfl (st := []) rfl (Nat.le_of_ble_eq_true rfl) ⟨Nat.le_of_ble_eq_true rfl, Nat.le_of_ble_eq_true rfl⟩ dL_law_971 rfl ?_
  refine ik_aload_n C 975 2 dL_law_974 rfl rfl rfl ?_
  refine ik_aload_n C 976 0 dL_law_975 rfl rfl rfl ?_
  refine ik_iload_n C 977 3 dL_law_976 rfl rfl rfl ?_
  refine ik_iconst C 978 dL_law_977 rfl k_ic1 ?_
  refine ik_iadd C 979 dL_law_978 rfl ?_
  refine ik_sld C hX hbl hbA 980 (i + 1) (nI_add i 1) (by omega) hL dL_law_979 rfl ?_
  refine ik_aload_n C 981 0 dL_law_980 rfl rfl rfl ?_
  refine ik_iload_n C 982 3 dL_law_981 rfl rfl rfl ?_
  refine ik_iconst C 983 dL_law_982 rfl k_ic2 ?_
  refine ik_iadd C 984 dL_law_983 rfl ?_
  refine ik_sld C hX hbl hbA 985 (i + 2) (nI_add i 2) (by omega) hL dL_law_984 rfl ?_
  refine ik_cI C 988 (ad := adF cy a a2) (U := uF) (D := D1) (D1 := D2) (r := r) (kd := 32) (b := 0) vk_X10_plan gw_1374 (fun hU => c_X10_plan (x1 := (xs (i + 1))) (x2 := (xs (i + 2))) hU uf_MoU_0) e2 rfl rfl rfl (uf_Mo9.1 32 (by decide) (by decide)) rfl rfl (rle2 rfl) rfl (st := [.int r]) rfl (Nat.le_of_ble_eq_true rfl) ⟨Nat.le_of_ble_eq_true rfl, Nat.le_of_ble_eq_true rfl⟩ dL_law_985 rfl ?_
  refine ik_iceq C 1006 dL_law_988 rfl ?_
  exact h D2 hI
set_option maxRecDepth 100000 in
set_option maxHeartbeats 4000000 in
theorem law_case33 {Inv : Dt → Prop} (hAll : AllOK Inv) {G : va_G} {cy : Nat → Nat → Nat} {a a2 : Nat → Nat} {p : Program} {l : Launch} {e : Env} {s : State} {m : MethodId} {below : List Frame} {meth : Method} {c : Code} {b L : Nat} {xs : Nat → Int32} (hL : L ≤ 2048) (C0 : lw_At p s m meth c b L xs) (C : Cx G cy [] (fun q => s.heap.size ≤ q) p s m meth c #[Value.ref b] code RL 4 (some .boolean)) {i : Nat} (hi : i + 4 ≤ L) {D : Dt} (hD : Inv D) (h : ∀ D2, Inv D2 → Ik G (fun q => s.heap.size ≤ q) p l e room_1 s m #[Value.ref b] below meth c 4 (lw_Z below #[Value.ref b] s) 1006 [(0, .ref b), (1, .ref (adF cy a a2 31 0)), (2, .ref (adF cy a a2 32 0)), (3, .int (nI i))] [] (wl (adF cy a a2) uF D2) 175 7450) : Ik G (fun q => s.heap.size ≤ q) p l e room_1 s m #[Value.ref b] below meth c 4 (lw_Z below #[Value.ref b] s) 993 [(0, .ref b), (1, .ref (adF cy a a2 31 0)), (2, .ref (adF cy a a2 32 0)), (3, .int (nI i))] [] (wl (adF cy a a2) uF D) 175 7450 := by
  obtain ⟨-, -, -, -, -, -, hX, hbl, -, -⟩ := id C0
  have hbA : ¬ (fun q : Nat => s.heap.size ≤ q) b := Nat.not_le.mpr hbl
  obtain ⟨r, D1, D2, e1, e2, hI⟩ := hAll.2.2.2.2.2.2.2.2.2.2.2.2.2.2.2.2.2.2.2.2.2.2.2.2.2.2.2.2.2.2.2.2.2 () D hD
  refine ik_aload_n C 994 1 dL_law_993 rfl rfl rfl ?_
  refine ik_cI C 997 (ad := adF cy a a2) (U := uF) (D := D) (D1 := D1) (r := r) (kd := 31) (b := 0) vk_X9_undo gw_972 (fun hU => c_X9_undo hU uf_PrU_0) e1 rfl rfl rfl (uf_PrU_0.1 31 (by decide) (by decide)) rfl rfl (rle2 rfl) rfl (st := []) rfl (Nat.le_of_ble_eq_true rfl) ⟨Nat.le_of_ble_eq_true rfl, Nat.le_of_ble_eq_true rfl⟩ dL_law_994 rfl ?_
  refine ik_aload_n C 998 2 dL_law_997 rfl rfl rfl ?_
  refine ik_cI C 1001 (ad := adF cy a a2) (U := uF) (D := D1) (D1 := D2) (r := r) (kd := 32) (b := 0) vk_X10_undo gw_1058 (fun hU => c_X10_undo hU uf_MoU_0) e2 rfl rfl rfl (uf_Mo9.1 32 (by decide) (by decide)) rfl rfl (rle2 rfl) rfl (st := [.int r]) rfl (Nat.le_of_ble_eq_true rfl) ⟨Nat.le_of_ble_eq_true rfl, Nat.le_of_ble_eq_true rfl⟩ dL_law_998 rfl ?_
  refine ik_iceq C 1006 dL_law_1001 rfl ?_
  exact h D2 hI
