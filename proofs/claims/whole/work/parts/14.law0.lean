/-! THE CLAIM OUT OF ONE WALK OF THE LAW'S BODY. Your part is whole_start (and what it stands on); all else here is the same for every law, but numbers. -/
def R_law : String := "PoolRenumbererLaw"
def lw_P (b : Addr) (xs : List Int32) (args : Array Value) (s : State) : Prop := args = #[.ref b] ∧ s.IntsAt b xs ∧ xs.length ≤ 2048 ∧ (Jvm.Cond.and given_1 narrow_1).before args s = true
def lw_Q (_ : Array Value) (s : State) (o : Outcome) (t : State) : Prop := o = .returned (some (.int 1)) ∧ Framed s o t [] 600000 7302250
def lw_Z (below : List Frame) (a : Array Value) (s : State) : State → Prop := fun t => ∃ o, t.status = .running ∧ Ended t below o ∧ lw_Q a s o t
/-- the law's own end, with 1 on the stack, nothing written that was there before, its room as the claim has it -/
theorem lw_ret {p : Program} {l : Launch} {e : Env} {s : State} {m : MethodId} {below : List Frame} {meth : Method} {c : Code} {b : Nat} (hx : p.tables.exec = Jvm.exec) (hb : c.code = code) (hr : meth.sig.returnType = ret) (hlocks : meth.locks = false) {pc : Nat} {H : Heap} {ls : Array Slot} (hdg : decode code pc = .ok (.ireturn, 1)) : W p l e room_1 s m #[Value.ref b] below meth c H [] 600000 7302250 (lw_Z below #[Value.ref b] s) (F0 m pc ls [.int 1]) := by
  intro T hT X
  obtain ⟨fs, hret, hrun, hended, hW, hframe⟩ := X.leave (v := some (.int 1)) (hlocks := hlocks) (fun h => by rw [hr] at h; cases h)
  have hmeth' : T.vm.method? m = some meth := X.method'
  refine ⟨T.setFrames fs, ?_, .returned (some (.int 1)), hrun, hended, rfl, ⟨_, rfl⟩, hW, hframe⟩
  jvm_step X.here [X.here.top, hx, hb, hdg, hmeth', hr, ret, narrow_b1]
  (try refine ⟨rfl, ?_⟩); (try refine ⟨rfl, ?_⟩)
  first | (intro acts; rw [hret _ acts rfl rfl rfl]) | rw [hret _ _ rfl rfl rfl]
  exact Steps.refl _
/-- what holds at the law's entry: the machine, the code, the tables' words (any of lw_tbl by 'hts w (by decide +kernel)'), the script of L ints xs at the cell b, what the Statement gives of the start (any of its parts by flat_of_before) -/
def lw_At (p : Program) (s : State) (m : MethodId) (meth : Method) (c : Code) (b L : Nat) (xs : Nat → Int32) : Prop :=
  p.tables.exec = Jvm.exec ∧ c.code = code ∧ meth.sig.returnType = ret ∧ c.maxLocals = 4 ∧ s.vm.findClass R_law = some m.cls ∧ (∀ w ∈ lw_tbl, w.before #[Value.ref b] s = true) ∧ va_X b L xs s s.heap ∧ b < s.heap.size ∧ meth.locks = false ∧ (Jvm.Cond.and given_1 narrow_1).before #[Value.ref b] s = true
theorem gx_s0 : (Jvm.Cond.stringRef "PoolRenumberer$Tokens" (44 : Nat) "pool") ∈ tables_1 := gt_2 (List.mem_of_getElem? (i := 157) (by decide +kernel))
theorem gx_s1 : (Jvm.Cond.stringRef "PoolRenumberer$Tokens" (50 : Nat) "net") ∈ tables_1 := gt_2 (List.mem_of_getElem? (i := 210) (by decide +kernel))
theorem gx_s2 : (Jvm.Cond.stringRef "PoolRenumberer$Tokens" (52 : Nat) "host") ∈ tables_1 := gt_2 (List.mem_of_getElem? (i := 211) (by decide +kernel))
theorem gx_s3 : (Jvm.Cond.stringRef "PoolRenumberer$Tokens" (54 : Nat) "sticky") ∈ tables_1 := gt_2 (List.mem_of_getElem? (i := 212) (by decide +kernel))
theorem gx_s4 : (Jvm.Cond.stringRef "PoolRenumberer$Tokens" (56 : Nat) "policy") ∈ tables_1 := gt_2 (List.mem_of_getElem? (i := 213) (by decide +kernel))
theorem gx_cs : (Jvm.Cond.laysStatic "java/lang/String" "COMPACT_STRINGS" "Z") ∈ tables_1 := gt_2 (List.mem_of_getElem? (i := 171) (by decide +kernel))
theorem gx_sf : (Jvm.Cond.laysStatic "jdk/internal/util/Preconditions" "SIOOBE_FORMATTER" "Ljava/util/function/BiFunction;") ∈ tables_1 := gt_2 (List.mem_of_getElem? (i := 187) (by decide +kernel))
theorem gx_ao : (Jvm.Cond.arrayOver (Jvm.ClassFile.FieldType.object "PoolRenumberer$State")) ∈ tables_1 := gt_1 (List.mem_of_getElem? (i := 206) (by decide +kernel))
set_option maxRecDepth 100000 in
set_option maxHeartbeats 4000000 in
theorem lw_ctx {p : Program} {s : State} {m : MethodId} {meth : Method} {c : Code} {b L : Nat} {xs : Nat → Int32} (C0 : lw_At p s m meth c b L xs) : ∃ (G : va_G) (cy : Nat → Nat → Nat), Cx G cy [] (fun q => s.heap.size ≤ q) p s m meth c #[Value.ref b] code RL 4 (some .boolean) ∧ va_AO "PoolRenumberer$State" s := by
  obtain ⟨hx, hb, hr, hml, hown, hts, hX, hbl, hlocks, hgv⟩ := id C0
  have hT : ∀ w ∈ tables_1, w.before #[Value.ref b] s = true := fun w hw => hts w (List.mem_append_right _ hw)
  have hg : ∀ w ∈ gt_T, w.before #[Value.ref b] s = true := fun w hw => hts w (List.mem_filter.mp hw).1
  have hs := flat_of_before _ hgv
  have hA : ∀ a : Nat, a < s.heap.size → ¬ (fun q : Nat => s.heap.size ≤ q) a := fun a h => Nat.not_le.mpr h
  obtain ⟨c0, iS0, hK0⟩ := u_known (C := RX0) (T := TX0) (N := 3) (n := 3) hg ui_0 (hg _ gw_226)
  obtain ⟨c1, iS1, hK1⟩ := u_known (C := RX1) (T := TX1) (N := 3) (n := 3) hg ui_1 (hg _ gw_200)
  obtain ⟨c2, iS2, hK2⟩ := u_known (C := RX2) (T := TX2) (N := 6) (n := 6) hg ui_2 (hg _ gw_129)
  obtain ⟨c3, iS3, hK3⟩ := u_known (C := RX3) (T := TX3) (N := 12) (n := 12) hg ui_3 (hg _ gw_279)
  obtain ⟨c4, iS4, hK4⟩ := u_known (C := RX4) (T := TX4) (N := 3) (n := 3) hg ui_4 (hg _ gw_263)
  obtain ⟨c5, iS5, hK5⟩ := u_known (C := RX5) (T := TX5) (N := 9) (n := 9) hg ui_5 (hg _ gw_64)
  obtain ⟨c6, iS6, hK6⟩ := u_known (C := RX6) (T := TX6) (N := 6) (n := 6) hg ui_6 (hg _ gw_58)
  obtain ⟨c7, iS7, hK7⟩ := u_known (C := RX7) (T := TX7) (N := 4) (n := 4) hg ui_7 (hg _ gw_220)
  obtain ⟨c8, iS8, hK8⟩ := u_known (C := RX8) (T := TX8) (N := 6) (n := 6) hg ui_8 (hg _ gw_28)
  obtain ⟨c9, iS9, hK9⟩ := u_known (C := RX9) (T := TX9) (N := 8) (n := 8) hg ui_9 (hg _ gw_20)
  obtain ⟨c10, iS10, hK10⟩ := u_known (C := RX10) (T := TX10) (N := 19) (n := 19) hg ui_10 (hg _ gw_981)
  obtain ⟨ni, ki, pi, fi, gi, ei⟩ := Cond.arrayClass_spec (type := .int) (hg _ gw_127)
  obtain ⟨ny, ky, py, fy, gy, ey⟩ := Cond.arrayClass_spec (type := .byte) (hg _ gw_608)
  obtain ⟨nh, kh, ph, fh, gh, eh⟩ := Cond.arrayClass_spec (type := .char) (hg _ gw_56)
  have hao := hT _ gx_ao
  obtain ⟨ps, ns, ks, fs, -, gs, es, hs2⟩ := Cond.arrayOver_spec hao
  have h5 : ∀ i : Nat, i < 5 → i = 0 ∨ i = 1 ∨ i = 2 ∨ i = 3 ∨ i = 4 := fun i hi => by omega
  obtain ⟨adK, adV, hS5, hKs⟩ := vk_Sof (args := #[Value.ref b]) (s := s) (N := 5) (tm := fun i => Term.string "PoolRenumberer$Tokens" ((texS.getD i (0, "")).1)) (len := lenS) (byt := bytS) (A := fun q => s.heap.size ≤ q)
    (fun i hi => by rcases h5 i hi with rfl | rfl | rfl | rfl | rfl <;> decide)
    (fun i hi => by rcases h5 i hi with rfl | rfl | rfl | rfl | rfl <;> exact hs _ (by decide +kernel))
    (fun i hi => by rcases h5 i hi with rfl | rfl | rfl | rfl | rfl <;> exact hs _ (by decide +kernel))
    (fun i hi => by rcases h5 i hi with rfl | rfl | rfl | rfl | rfl <;> exact hs _ (by decide +kernel))
    (fun i hi => by rcases h5 i hi with rfl | rfl | rfl | rfl | rfl <;> exact hs _ (by decide +kernel))
    (fun i hi j hj => by
      rcases h5 i hi with rfl | rfl | rfl | rfl | rfl
      · rcases (show j = 0 ∨ j = 1 ∨ j = 2 ∨ j = 3 by have : j < 4 := hj; omega) with rfl | rfl | rfl | rfl <;> exact hs _ (by decide +kernel)
      · rcases (show j = 0 ∨ j = 1 ∨ j = 2 by have : j < 3 := hj; omega) with rfl | rfl | rfl <;> exact hs _ (by decide +kernel)
      · rcases (show j = 0 ∨ j = 1 ∨ j = 2 ∨ j = 3 by have : j < 4 := hj; omega) with rfl | rfl | rfl | rfl <;> exact hs _ (by decide +kernel)
      · rcases (show j = 0 ∨ j = 1 ∨ j = 2 ∨ j = 3 ∨ j = 4 ∨ j = 5 by have : j < 6 := hj; omega) with rfl | rfl | rfl | rfl | rfl | rfl <;> exact hs _ (by decide +kernel)
      · rcases (show j = 0 ∨ j = 1 ∨ j = 2 ∨ j = 3 ∨ j = 4 ∨ j = 5 by have : j < 6 := hj; omega) with rfl | rfl | rfl | rfl | rfl | rfl <;> exact hs _ (by decide +kernel)
    )
    (fun i j hi hj hij => by
      rcases h5 i hi with rfl | rfl | rfl | rfl | rfl <;> rcases h5 j hj with rfl | rfl | rfl | rfl | rfl <;> first | exact absurd rfl hij | exact Or.inl (hs _ (by decide +kernel)) | exact Or.inr (hs _ (by decide +kernel)))
    hA
  refine ⟨(fun k => if k = 0 then c0 else if k = 1 then c1 else if k = 2 then c2 else if k = 3 then c3 else if k = 4 then c4 else if k = 5 then c5 else if k = 6 then c6 else if k = 7 then c7 else if k = 8 then c8 else if k = 9 then c9 else c10, fun k => if k = 0 then iS0 else if k = 1 then iS1 else if k = 2 then iS2 else if k = 3 then iS3 else if k = 4 then iS4 else if k = 5 then iS5 else if k = 6 then iS6 else if k = 7 then iS7 else if k = 8 then iS8 else if k = 9 then iS9 else iS10), fun k i => if k = 100 then (if i = 0 then ni else if i = 1 then ny else if i = 2 then nh else ns) else if k = 101 then adK i else adV i, ⟨hx, hb, hml, hown, hg, hr, hlocks, ⟨?_, ?_⟩, ?_, ?_, ?_, ?_, ?_⟩, hao⟩
  · intro k q hq
    match k, hq with
    | 0, hq => cases hq; exact hK0
    | 1, hq => cases hq; exact hK1
    | 2, hq => cases hq; exact hK2
    | 3, hq => cases hq; exact hK3
    | 4, hq => cases hq; exact hK4
    | 5, hq => cases hq; exact hK5
    | 6, hq => cases hq; exact hK6
    | 7, hq => cases hq; exact hK7
    | 8, hq => cases hq; exact hK8
    | 9, hq => cases hq; exact hK9
    | 10, hq => cases hq; exact hK10
    | k + 11, hq => simp [vwCl] at hq
  · intro k q hq
    match k, hq with
    | 0, hq => cases hq; exact ⟨fun N z => ⟨(fun k h => by cases h), ki, gi, pi, ei⟩, fi⟩
    | 1, hq => cases hq; exact ⟨fun N z => ⟨(fun k h => by cases h), ky, gy, py, ey⟩, fy⟩
    | 2, hq => cases hq; exact ⟨fun N z => ⟨(fun k h => by cases h), kh, gh, ph, eh⟩, fh⟩
    | 3, hq => cases hq; exact ⟨fun N z => ⟨(fun k h => by cases h), ks, gs, ps, es⟩, ks, ps, gs, es, fs, hs2⟩
    | k + 4, hq => simp [tyL] at hq
  · intro w hw
    have h2 := (List.mem_filter.mp hw).2
    have h3 := hT w (List.mem_filter.mp hw).1
    cases w <;> first | (exact absurd (show false = true from h2) (by decide)) | exact va_Nw.of rfl h3
  · refine ⟨hS5, fun i q hq => ?_, ?_, ?_⟩
    · match i, hq with
      | 0, hq => cases hq; exact vk_R.of (hT _ gx_s0) (hKs 0 (by decide))
      | 1, hq => cases hq; exact vk_R.of (hT _ gx_s1) (hKs 1 (by decide))
      | 2, hq => cases hq; exact vk_R.of (hT _ gx_s2) (hKs 2 (by decide))
      | 3, hq => cases hq; exact vk_R.of (hT _ gx_s3) (hKs 3 (by decide))
      | 4, hq => cases hq; exact vk_R.of (hT _ gx_s4) (hKs 4 (by decide))
      | i + 5, hq => simp [texS] at hq
    · exact va_Zof (hT _ gx_cs) (hg _ gw_13) (va_eqt (hs _ (by decide +kernel))) hA
    · exact va_Zqof (hT _ gx_sf) (hg _ gw_15) (hs _ (by decide +kernel)) hA
  · intro i j p q hi _ _
    simp at hi
  · intro w hw
    exact absurd hw List.not_mem_nil
  · exact fun q h => h
