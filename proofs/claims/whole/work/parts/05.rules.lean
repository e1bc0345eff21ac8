section
variable {β β2 ρ : Type} {G : va_G} {ad : Nat → Nat → Nat} {U : List (Nat × Nat)} {A : Nat → Prop} {p : Program} {l : Launch} {e : Env} {R : Room} {s : State} {m : MethodId} {args : Array Value} {below : List Frame} {meth : Method} {c : Code} {nL : Nat} {Go : ρ → State → Prop} {cc : ByteArray} {own : String} {rt : Option FieldType} {pc : Nat} {lv : List (Nat × Value)} {st : List Value} {D : Dt} {B B1 B2 : Option β} {k : β → Option ρ}
theorem im_iconst (C : Cx G ad U A p s m meth c args cc own nL rt) (q : Nat) {n : Int} {v : Int32} (hd : decode cc pc = .ok (.iconst n, 1)) (hq : pc + 1 = q) (hv : Int32.ofInt n = v) (h : Im G ad U A p l e R s m args below meth c nL Go q lv (.int v :: st) D B k) : Im G ad U A p l e R s m args below meth c nL Go pc lv st D B k := by
  subst hq
  exact fun o ho H locs ls hP hS hl => lv_iconst C.1 C.2.1 hd hv (h o ho H locs ls hP hS hl)
theorem im_bipush (C : Cx G ad U A p s m meth c args cc own nL rt) (q : Nat) {n : Int} {v : Int32} (hd : decode cc pc = .ok (.bipush n, 2)) (hq : pc + 2 = q) (hv : (Int8.ofInt n).toInt32 = v) (h : Im G ad U A p l e R s m args below meth c nL Go q lv (.int v :: st) D B k) : Im G ad U A p l e R s m args below meth c nL Go pc lv st D B k := by
  subst hq
  exact fun o ho H locs ls hP hS hl => lv_bipush C.1 C.2.1 hd hv (h o ho H locs ls hP hS hl)
theorem im_sipush (C : Cx G ad U A p s m meth c args cc own nL rt) (q : Nat) {n : Int} {v : Int32} (hd : decode cc pc = .ok (.sipush n, 3)) (hq : pc + 3 = q) (hv : (Int16.ofInt n).toInt32 = v) (h : Im G ad U A p l e R s m args below meth c nL Go q lv (.int v :: st) D B k) : Im G ad U A p l e R s m args below meth c nL Go pc lv st D B k := by
  subst hq
  exact fun o ho H locs ls hP hS hl => lv_sipush C.1 C.2.1 hd hv (h o ho H locs ls hP hS hl)
theorem im_lconst (C : Cx G ad U A p s m meth c args cc own nL rt) (q : Nat) {n : Fin 2} {v : Int64} (hd : decode cc pc = .ok (.lconst n, 1)) (hq : pc + 1 = q) (hv : Int64.ofNat (n : Nat) = v) (h : Im G ad U A p l e R s m args below meth c nL Go q lv (.long v :: st) D B k) : Im G ad U A p l e R s m args below meth c nL Go pc lv st D B k := by
  subst hq
  exact fun o ho H locs ls hP hS hl => lv_lconst C.1 C.2.1 hd hv (h o ho H locs ls hP hS hl)
theorem im_ldc (C : Cx G ad U A p s m meth c args cc own nL rt) (q : Nat) {index : Nat} {v : Int32} (hw : Jvm.Cond.constant own index v ∈ gt_T) (hd : decode cc pc = .ok (.ldc index, 2)) (hq : pc + 2 = q) (h : Im G ad U A p l e R s m args below meth c nL Go q lv (.int v :: st) D B k) : Im G ad U A p l e R s m args below meth c nL Go pc lv st D B k := by
  subst hq
  exact fun o ho H locs ls hP hS hl => lv_ldc C.1 C.2.1 C.2.2.2.1 (C.2.2.2.2.1 _ hw) hd (h o ho H locs ls hP hS hl)
theorem im_ldcw (C : Cx G ad U A p s m meth c args cc own nL rt) (q : Nat) {index : Nat} {v : Int32} (hw : Jvm.Cond.constant own index v ∈ gt_T) (hd : decode cc pc = .ok (.ldc_w index, 3)) (hq : pc + 3 = q) (h : Im G ad U A p l e R s m args below meth c nL Go q lv (.int v :: st) D B k) : Im G ad U A p l e R s m args below meth c nL Go pc lv st D B k := by
  subst hq
  exact fun o ho H locs ls hP hS hl => lv_ldcw C.1 C.2.1 C.2.2.2.1 (C.2.2.2.2.1 _ hw) hd (h o ho H locs ls hP hS hl)
theorem im_ldc2 (C : Cx G ad U A p s m meth c args cc own nL rt) (q : Nat) {index : Nat} {v : Int64} (hw : Jvm.Cond.constantLong own index v ∈ gt_T) (hd : decode cc pc = .ok (.ldc2_w index, 3)) (hq : pc + 3 = q) (h : Im G ad U A p l e R s m args below meth c nL Go q lv (.long v :: st) D B k) : Im G ad U A p l e R s m args below meth c nL Go pc lv st D B k := by
  subst hq
  exact fun o ho H locs ls hP hS hl => lv_ldc2 C.1 C.2.1 C.2.2.2.1 (C.2.2.2.2.1 _ hw) hd (h o ho H locs ls hP hS hl)
theorem im_iload_n (C : Cx G ad U A p s m meth c args cc own nL rt) (q j : Nat) {kk : Fin 4} {i : Nat} {x : Int32} (hd : decode cc pc = .ok (.iload_n kk, 1)) (hi : (kk : Nat) = i) (hj : lv[j]? = some (i, .int x)) (hq : pc + 1 = q) (h : Im G ad U A p l e R s m args below meth c nL Go q lv (.int x :: st) D B k) : Im G ad U A p l e R s m args below meth c nL Go pc lv st D B k := by
  subst hq
  exact fun o ho H locs ls hP hS hl => lv_iload_n C.1 C.2.1 hd hi (lv_at hl j hj) (h o ho H locs ls hP hS hl)
theorem im_iload (C : Cx G ad U A p s m meth c args cc own nL rt) (q j : Nat) {i : Nat} {x : Int32} (hd : decode cc pc = .ok (.iload i, 2)) (hj : lv[j]? = some (i, .int x)) (hq : pc + 2 = q) (h : Im G ad U A p l e R s m args below meth c nL Go q lv (.int x :: st) D B k) : Im G ad U A p l e R s m args below meth c nL Go pc lv st D B k := by
  subst hq
  exact fun o ho H locs ls hP hS hl => lv_iload C.1 C.2.1 hd (lv_at hl j hj) (h o ho H locs ls hP hS hl)
theorem im_istore_n (C : Cx G ad U A p s m meth c args cc own nL rt) (q : Nat) (lv' : List (Nat × Value)) {kk : Fin 4} {i : Nat} {x : Int32} (hd : decode cc pc = .ok (.istore_n kk, 1)) (hi : (kk : Nat) = i) (hn : i < nL) (hf : (i, Value.int x) :: lv.filter (fun q => !(q.1 == i) && !(q.1 + 1 == i && q.2.category == 2)) = lv') (hq : pc + 1 = q) (h : Im G ad U A p l e R s m args below meth c nL Go q lv' st D B k) : Im G ad U A p l e R s m args below meth c nL Go pc lv (.int x :: st) D B k := by
  subst hq
  exact fun o ho H locs ls hP hS hl => lv_istore_n C.1 C.2.1 hd hi hl hn hf (fun ls' hl' => h o ho H locs ls' hP hS hl')
theorem im_istore (C : Cx G ad U A p s m meth c args cc own nL rt) (q : Nat) (lv' : List (Nat × Value)) {i : Nat} {x : Int32} (hd : decode cc pc = .ok (.istore i, 2)) (hn : i < nL) (hf : (i, Value.int x) :: lv.filter (fun q => !(q.1 == i) && !(q.1 + 1 == i && q.2.category == 2)) = lv') (hq : pc + 2 = q) (h : Im G ad U A p l e R s m args below meth c nL Go q lv' st D B k) : Im G ad U A p l e R s m args below meth c nL Go pc lv (.int x :: st) D B k := by
  subst hq
  exact fun o ho H locs ls hP hS hl => lv_istore C.1 C.2.1 hd hl hn hf (fun ls' hl' => h o ho H locs ls' hP hS hl')
theorem im_lload_n (C : Cx G ad U A p s m meth c args cc own nL rt) (q j : Nat) {kk : Fin 4} {i : Nat} {x : Int64} (hd : decode cc pc = .ok (.lload_n kk, 1)) (hi : (kk : Nat) = i) (hj : lv[j]? = some (i, .long x)) (hq : pc + 1 = q) (h : Im G ad U A p l e R s m args below meth c nL Go q lv (.long x :: st) D B k) : Im G ad U A p l e R s m args below meth c nL Go pc lv st D B k := by
  subst hq
  exact fun o ho H locs ls hP hS hl => lv_lload_n C.1 C.2.1 hd hi (lv_at hl j hj) (h o ho H locs ls hP hS hl)
theorem im_lload (C : Cx G ad U A p s m meth c args cc own nL rt) (q j : Nat) {i : Nat} {x : Int64} (hd : decode cc pc = .ok (.lload i, 2)) (hj : lv[j]? = some (i, .long x)) (hq : pc + 2 = q) (h : Im G ad U A p l e R s m args below meth c nL Go q lv (.long x :: st) D B k) : Im G ad U A p l e R s m args below meth c nL Go pc lv st D B k := by
  subst hq
  exact fun o ho H locs ls hP hS hl => lv_lload C.1 C.2.1 hd (lv_at hl j hj) (h o ho H locs ls hP hS hl)
theorem im_lstore_n (C : Cx G ad U A p s m meth c args cc own nL rt) (q : Nat) (lv' : List (Nat × Value)) {kk : Fin 4} {i : Nat} {x : Int64} (hd : decode cc pc = .ok (.lstore_n kk, 1)) (hi : (kk : Nat) = i) (hn : i + 1 < nL) (hf : (i, Value.long x) :: lv.filter (fun q => !(q.1 == i) && (!(q.1 == i + 1) && !(q.1 + 1 == i && q.2.category == 2))) = lv') (hq : pc + 1 = q) (h : Im G ad U A p l e R s m args below meth c nL Go q lv' st D B k) : Im G ad U A p l e R s m args below meth c nL Go pc lv (.long x :: st) D B k := by
  subst hq
  exact fun o ho H locs ls hP hS hl => lv_lstore_n C.1 C.2.1 hd hi hl hn hf (fun ls' hl' => h o ho H locs ls' hP hS hl')
theorem im_lstore (C : Cx G ad U A p s m meth c args cc own nL rt) (q : Nat) (lv' : List (Nat × Value)) {i : Nat} {x : Int64} (hd : decode cc pc = .ok (.lstore i, 2)) (hn : i + 1 < nL) (hf : (i, Value.long x) :: lv.filter (fun q => !(q.1 == i) && (!(q.1 == i + 1) && !(q.1 + 1 == i && q.2.category == 2))) = lv') (hq : pc + 2 = q) (h : Im G ad U A p l e R s m args below meth c nL Go q lv' st D B k) : Im G ad U A p l e R s m args below meth c nL Go pc lv (.long x :: st) D B k := by
  subst hq
  exact fun o ho H locs ls hP hS hl => lv_lstore C.1 C.2.1 hd hl hn hf (fun ls' hl' => h o ho H locs ls' hP hS hl')
theorem im_aload_n (C : Cx G ad U A p s m meth c args cc own nL rt) (q j : Nat) {kk : Fin 4} {i : Nat} {x : Nat} (hd : decode cc pc = .ok (.aload_n kk, 1)) (hi : (kk : Nat) = i) (hj : lv[j]? = some (i, .ref x)) (hq : pc + 1 = q) (h : Im G ad U A p l e R s m args below meth c nL Go q lv (.ref x :: st) D B k) : Im G ad U A p l e R s m args below meth c nL Go pc lv st D B k := by
  subst hq
  exact fun o ho H locs ls hP hS hl => lv_aload_n C.1 C.2.1 hd hi (lv_at hl j hj) (h o ho H locs ls hP hS hl)
theorem im_aload (C : Cx G ad U A p s m meth c args cc own nL rt) (q j : Nat) {i : Nat} {x : Nat} (hd : decode cc pc = .ok (.aload i, 2)) (hj : lv[j]? = some (i, .ref x)) (hq : pc + 2 = q) (h : Im G ad U A p l e R s m args below meth c nL Go q lv (.ref x :: st) D B k) : Im G ad U A p l e R s m args below meth c nL Go pc lv st D B k := by
  subst hq
  exact fun o ho H locs ls hP hS hl => lv_aload C.1 C.2.1 hd (lv_at hl j hj) (h o ho H locs ls hP hS hl)
theorem im_astore_n (C : Cx G ad U A p s m meth c args cc own nL rt) (q : Nat) (lv' : List (Nat × Value)) {kk : Fin 4} {i : Nat} {x : Nat} (hd : decode cc pc = .ok (.astore_n kk, 1)) (hi : (kk : Nat) = i) (hn : i < nL) (hf : (i, Value.ref x) :: lv.filter (fun q => !(q.1 == i) && !(q.1 + 1 == i && q.2.category == 2)) = lv') (hq : pc + 1 = q) (h : Im G ad U A p l e R s m args below meth c nL Go q lv' st D B k) : Im G ad U A p l e R s m args below meth c nL Go pc lv (.ref x :: st) D B k := by
  subst hq
  exact fun o ho H locs ls hP hS hl => lv_astore_n C.1 C.2.1 hd hi hl hn hf (fun ls' hl' => h o ho H locs ls' hP hS hl')
theorem im_astore (C : Cx G ad U A p s m meth c args cc own nL rt) (q : Nat) (lv' : List (Nat × Value)) {i : Nat} {x : Nat} (hd : decode cc pc = .ok (.astore i, 2)) (hn : i < nL) (hf : (i, Value.ref x) :: lv.filter (fun q => !(q.1 == i) && !(q.1 + 1 == i && q.2.category == 2)) = lv') (hq : pc + 2 = q) (h : Im G ad U A p l e R s m args below meth c nL Go q lv' st D B k) : Im G ad U A p l e R s m args below meth c nL Go pc lv (.ref x :: st) D B k := by
  subst hq
  exact fun o ho H locs ls hP hS hl => lv_astore C.1 C.2.1 hd hl hn hf (fun ls' hl' => h o ho H locs ls' hP hS hl')
theorem im_iinc (C : Cx G ad U A p s m meth c args cc own nL rt) (q j : Nat) (lv' : List (Nat × Value)) {i : Nat} {n : Int} {x v : Int32} (hd : decode cc pc = .ok (.iinc i n, 3)) (hj : lv[j]? = some (i, .int x)) (hv : x + Int32.ofInt n = v) (hn : i < nL) (hf : (i, Value.int v) :: lv.filter (fun q => !(q.1 == i) && !(q.1 + 1 == i && q.2.category == 2)) = lv') (hq : pc + 3 = q) (h : Im G ad U A p l e R s m args below meth c nL Go q lv' st D B k) : Im G ad U A p l e R s m args below meth c nL Go pc lv st D B k := by
  subst hq
  exact fun o ho H locs ls hP hS hl => lv_iinc C.1 C.2.1 hd hl hj hv hn hf (fun ls' hl' => h o ho H locs ls' hP hS hl')
theorem im_iadd (C : Cx G ad U A p s m meth c args cc own nL rt) (q : Nat) {x y : Int32} (hd : decode cc pc = .ok (.iadd, 1)) (hq : pc + 1 = q) (h : Im G ad U A p l e R s m args below meth c nL Go q lv (.int (x + y) :: st) D B k) : Im G ad U A p l e R s m args below meth c nL Go pc lv (.int y :: .int x :: st) D B k := by
  subst hq
  exact fun o ho H locs ls hP hS hl => lv_iadd C.1 C.2.1 hd (h o ho H locs ls hP hS hl)
theorem im_isub (C : Cx G ad U A p s m meth c args cc own nL rt) (q : Nat) {x y : Int32} (hd : decode cc pc = .ok (.isub, 1)) (hq : pc + 1 = q) (h : Im G ad U A p l e R s m args below meth c nL Go q lv (.int (x - y) :: st) D B k) : Im G ad U A p l e R s m args below meth c nL Go pc lv (.int y :: .int x :: st) D B k := by
  subst hq
  exact fun o ho H locs ls hP hS hl => lv_isub C.1 C.2.1 hd (h o ho H locs ls hP hS hl)
theorem im_imul (C : Cx G ad U A p s m meth c args cc own nL rt) (q : Nat) {x y : Int32} (hd : decode cc pc = .ok (.imul, 1)) (hq : pc + 1 = q) (h : Im G ad U A p l e R s m args below meth c nL Go q lv (.int (x * y) :: st) D B k) : Im G ad U A p l e R s m args below meth c nL Go pc lv (.int y :: .int x :: st) D B k := by
  subst hq
  exact fun o ho H locs ls hP hS hl => lv_imul C.1 C.2.1 hd (h o ho H locs ls hP hS hl)
theorem im_iand (C : Cx G ad U A p s m meth c args cc own nL rt) (q : Nat) {x y : Int32} (hd : decode cc pc = .ok (.iand, 1)) (hq : pc + 1 = q) (h : Im G ad U A p l e R s m args below meth c nL Go q lv (.int (x &&& y) :: st) D B k) : Im G ad U A p l e R s m args below meth c nL Go pc lv (.int y :: .int x :: st) D B k := by
  subst hq
  exact fun o ho H locs ls hP hS hl => lv_iand C.1 C.2.1 hd (h o ho H locs ls hP hS hl)
theorem im_ishl (C : Cx G ad U A p s m meth c args cc own nL rt) (q : Nat) {x y : Int32} (hd : decode cc pc = .ok (.ishl, 1)) (hq : pc + 1 = q) (h : Im G ad U A p l e R s m args below meth c nL Go q lv (.int (x <<< (y &&& 31)) :: st) D B k) : Im G ad U A p l e R s m args below meth c nL Go pc lv (.int y :: .int x :: st) D B k := by
  subst hq
  exact fun o ho H locs ls hP hS hl => lv_ishl C.1 C.2.1 hd (h o ho H locs ls hP hS hl)
theorem im_ineg (C : Cx G ad U A p s m meth c args cc own nL rt) (q : Nat) {x : Int32} (hd : decode cc pc = .ok (.ineg, 1)) (hq : pc + 1 = q) (h : Im G ad U A p l e R s m args below meth c nL Go q lv (.int (-x) :: st) D B k) : Im G ad U A p l e R s m args below meth c nL Go pc lv (.int x :: st) D B k := by
  subst hq
  exact fun o ho H locs ls hP hS hl => lv_ineg C.1 C.2.1 hd (h o ho H locs ls hP hS hl)
theorem im_ladd (C : Cx G ad U A p s m meth c args cc own nL rt) (q : Nat) {x y : Int64} (hd : decode cc pc = .ok (.ladd, 1)) (hq : pc + 1 = q) (h : Im G ad U A p l e R s m args below meth c nL Go q lv (.long (x + y) :: st) D B k) : Im G ad U A p l e R s m args below meth c nL Go pc lv (.long y :: .long x :: st) D B k := by
  subst hq
  exact fun o ho H locs ls hP hS hl => lv_ladd C.1 C.2.1 hd (h o ho H locs ls hP hS hl)
theorem im_lsub (C : Cx G ad U A p s m meth c args cc own nL rt) (q : Nat) {x y : Int64} (hd : decode cc pc = .ok (.lsub, 1)) (hq : pc + 1 = q) (h : Im G ad U A p l e R s m args below meth c nL Go q lv (.long (x - y) :: st) D B k) : Im G ad U A p l e R s m args below meth c nL Go pc lv (.long y :: .long x :: st) D B k := by
  subst hq
  exact fun o ho H locs ls hP hS hl => lv_lsub C.1 C.2.1 hd (h o ho H locs ls hP hS hl)
theorem im_lmul (C : Cx G ad U A p s m meth c args cc own nL rt) (q : Nat) {x y : Int64} (hd : decode cc pc = .ok (.lmul, 1)) (hq : pc + 1 = q) (h : Im G ad U A p l e R s m args below meth c nL Go q lv (.long (x * y) :: st) D B k) : Im G ad U A p l e R s m args below meth c nL Go pc lv (.long y :: .long x :: st) D B k := by
  subst hq
  exact fun o ho H locs ls hP hS hl => lv_lmul C.1 C.2.1 hd (h o ho H locs ls hP hS hl)
theorem im_lcmp (C : Cx G ad U A p s m meth c args cc own nL rt) (q : Nat) {x y : Int64} (hd : decode cc pc = .ok (.lcmp, 1)) (hq : pc + 1 = q) (h : Im G ad U A p l e R s m args below meth c nL Go q lv (.int (lg_cmp x y) :: st) D B k) : Im G ad U A p l e R s m args below meth c nL Go pc lv (.long y :: .long x :: st) D B k := by
  subst hq
  exact fun o ho H locs ls hP hS hl => W.lcmp C.1 C.2.1 hd (h o ho H locs ls hP hS hl)
theorem im_i2l (C : Cx G ad U A p s m meth c args cc own nL rt) (q : Nat) {x : Int32} {v : Int64} (hd : decode cc pc = .ok (.i2l, 1)) (hq : pc + 1 = q) (hv : x.toInt64 = v) (h : Im G ad U A p l e R s m args below meth c nL Go q lv (.long v :: st) D B k) : Im G ad U A p l e R s m args below meth c nL Go pc lv (.int x :: st) D B k := by
  subst hq
  exact fun o ho H locs ls hP hS hl => lv_i2l C.1 C.2.1 hd hv (h o ho H locs ls hP hS hl)
theorem im_l2i (C : Cx G ad U A p s m meth c args cc own nL rt) (q : Nat) {x : Int64} {v : Int32} (hd : decode cc pc = .ok (.l2i, 1)) (hq : pc + 1 = q) (hv : x.toInt32 = v) (h : Im G ad U A p l e R s m args below meth c nL Go q lv (.int v :: st) D B k) : Im G ad U A p l e R s m args below meth c nL Go pc lv (.long x :: st) D B k := by
  subst hq
  exact fun o ho H locs ls hP hS hl => lv_l2i C.1 C.2.1 hd hv (h o ho H locs ls hP hS hl)
theorem im_i2b (C : Cx G ad U A p s m meth c args cc own nL rt) (q : Nat) {x v : Int32} (hd : decode cc pc = .ok (.i2b, 1)) (hq : pc + 1 = q) (hv : x.toInt8.toInt32 = v) (h : Im G ad U A p l e R s m args below meth c nL Go q lv (.int v :: st) D B k) : Im G ad U A p l e R s m args below meth c nL Go pc lv (.int x :: st) D B k := by
  subst hq
  exact fun o ho H locs ls hP hS hl => lv_i2b C.1 C.2.1 hd hv (h o ho H locs ls hP hS hl)
theorem im_i2c (C : Cx G ad U A p s m meth c args cc own nL rt) (q : Nat) {x v : Int32} (hd : decode cc pc = .ok (.i2c, 1)) (hq : pc + 1 = q) (hv : (x.toUInt32 % 65536).toInt32 = v) (h : Im G ad U A p l e R s m args below meth c nL Go q lv (.int v :: st) D B k) : Im G ad U A p l e R s m args below meth c nL Go pc lv (.int x :: st) D B k := by
  subst hq
  exact fun o ho H locs ls hP hS hl => lv_i2c C.1 C.2.1 hd hv (h o ho H locs ls hP hS hl)
theorem im_dup (C : Cx G ad U A p s m meth c args cc own nL rt) (q : Nat) {va : Value} (hd : decode cc pc = .ok (.dup, 1)) (hq : pc + 1 = q) (hv : va.category = 1) (h : Im G ad U A p l e R s m args below meth c nL Go q lv (va :: va :: st) D B k) : Im G ad U A p l e R s m args below meth c nL Go pc lv (va :: st) D B k := by
  subst hq
  exact fun o ho H locs ls hP hS hl => lv_dup C.1 C.2.1 hd hv (h o ho H locs ls hP hS hl)
theorem im_pop (C : Cx G ad U A p s m meth c args cc own nL rt) (q : Nat) {va : Value} (hd : decode cc pc = .ok (.pop, 1)) (hq : pc + 1 = q) (hv : va.category = 1) (h : Im G ad U A p l e R s m args below meth c nL Go q lv st D B k) : Im G ad U A p l e R s m args below meth c nL Go pc lv (va :: st) D B k := by
  subst hq
  exact fun o ho H locs ls hP hS hl => lv_pop C.1 C.2.1 hd hv (h o ho H locs ls hP hS hl)
theorem im_dup2 (C : Cx G ad U A p s m meth c args cc own nL rt) (q : Nat) {va vb : Value} (hd : decode cc pc = .ok (.dup2, 1)) (hq : pc + 1 = q) (hv : va.category = 1) (hv2 : vb.category = 1) (h : Im G ad U A p l e R s m args below meth c nL Go q lv (va :: vb :: va :: vb :: st) D B k) : Im G ad U A p l e R s m args below meth c nL Go pc lv (va :: vb :: st) D B k := by
  subst hq
  exact fun o ho H locs ls hP hS hl => lv_dup2_11 C.1 C.2.1 hd hv hv2 (h o ho H locs ls hP hS hl)
theorem im_idiv (C : Cx G ad U A p s m meth c args cc own nL rt) (q : Nat) {x y : Int32} (hd : decode cc pc = .ok (.idiv, 1)) (hq : pc + 1 = q) (h : Im G ad U A p l e R s m args below meth c nL Go q lv (.int (x / y) :: st) D B k) : Im G ad U A p l e R s m args below meth c nL Go pc lv (.int y :: .int x :: st) D (gd (decide (¬ y = 0)) B) k := by
  subst hq
  intro o ho H locs ls hP hS hl
  by_cases hy : y = 0
  · rw [show decide (¬ y = 0) = false by simp [hy]] at ho
    cases ho
  · rw [show decide (¬ y = 0) = true by simp [hy]] at ho
    exact lv_idiv C.1 C.2.1 hd hy (h o ho H locs ls hP hS hl)
theorem im_irem (C : Cx G ad U A p s m meth c args cc own nL rt) (q : Nat) {x y : Int32} (hd : decode cc pc = .ok (.irem, 1)) (hq : pc + 1 = q) (h : Im G ad U A p l e R s m args below meth c nL Go q lv (.int (x - x / y * y) :: st) D B k) : Im G ad U A p l e R s m args below meth c nL Go pc lv (.int y :: .int x :: st) D (gd (decide (¬ y = 0)) B) k := by
  subst hq
  intro o ho H locs ls hP hS hl
  by_cases hy : y = 0
  · rw [show decide (¬ y = 0) = false by simp [hy]] at ho
    cases ho
  · rw [show decide (¬ y = 0) = true by simp [hy]] at ho
    exact lv_irem C.1 C.2.1 hd hy (h o ho H locs ls hP hS hl)
theorem im_if_eq (C : Cx G ad U A p s m meth c args cc own nL rt) (t q : Nat) {off : Int} {x : Int32} (hd : decode cc pc = .ok (.ifCond .eq off, 3)) (ht : (pc : Int) + off = (t : Int)) (hq : pc + 3 = q) (h1 : Im G ad U A p l e R s m args below meth c nL Go t lv st D B1 k) (h2 : Im G ad U A p l e R s m args below meth c nL Go q lv st D B2 k) : Im G ad U A p l e R s m args below meth c nL Go pc lv (.int x :: st) D (if x = 0 then B1 else B2) k := by
  subst hq
  intro o ho H locs ls hP hS hl
  refine lv_if_eq C.1 C.2.1 hd ht (fun hc => ?_) (fun hc => ?_)
  · rw [if_pos hc] at ho
    exact h1 o ho H locs ls hP hS hl
  · rw [if_neg hc] at ho
    exact h2 o ho H locs ls hP hS hl
theorem im_if_ne (C : Cx G ad U A p s m meth c args cc own nL rt) (t q : Nat) {off : Int} {x : Int32} (hd : decode cc pc = .ok (.ifCond .ne off, 3)) (ht : (pc : Int) + off = (t : Int)) (hq : pc + 3 = q) (h1 : Im G ad U A p l e R s m args below meth c nL Go t lv st D B1 k) (h2 : Im G ad U A p l e R s m args below meth c nL Go q lv st D B2 k) : Im G ad U A p l e R s m args below meth c nL Go pc lv (.int x :: st) D (if x = 0 then B2 else B1) k := by
  subst hq
  intro o ho H locs ls hP hS hl
  refine lv_if_ne C.1 C.2.1 hd ht (fun hc => ?_) (fun hc => ?_)
  · rw [if_neg hc] at ho
    exact h1 o ho H locs ls hP hS hl
  · rw [if_pos hc] at ho
    exact h2 o ho H locs ls hP hS hl
theorem im_if_lt (C : Cx G ad U A p s m meth c args cc own nL rt) (t q : Nat) {off : Int} {x : Int32} (hd : decode cc pc = .ok (.ifCond .lt off, 3)) (ht : (pc : Int) + off = (t : Int)) (hq : pc + 3 = q) (h1 : Im G ad U A p l e R s m args below meth c nL Go t lv st D B1 k) (h2 : Im G ad U A p l e R s m args below meth c nL Go q lv st D B2 k) : Im G ad U A p l e R s m args below meth c nL Go pc lv (.int x :: st) D (if x < 0 then B1 else B2) k := by
  subst hq
  intro o ho H locs ls hP hS hl
  refine lv_if_lt C.1 C.2.1 hd ht (fun hc => ?_) (fun hc => ?_)
  · rw [if_pos hc] at ho
    exact h1 o ho H locs ls hP hS hl
  · rw [if_neg hc] at ho
    exact h2 o ho H locs ls hP hS hl
theorem im_if_ge (C : Cx G ad U A p s m meth c args cc own nL rt) (t q : Nat) {off : Int} {x : Int32} (hd : decode cc pc = .ok (.ifCond .ge off, 3)) (ht : (pc : Int) + off = (t : Int)) (hq : pc + 3 = q) (h1 : Im G ad U A p l e R s m args below meth c nL Go t lv st D B1 k) (h2 : Im G ad U A p l e R s m args below meth c nL Go q lv st D B2 k) : Im G ad U A p l e R s m args below meth c nL Go pc lv (.int x :: st) D (if 0 ≤ x then B1 else B2) k := by
  subst hq
  intro o ho H locs ls hP hS hl
  refine lv_if_ge C.1 C.2.1 hd ht (fun hc => ?_) (fun hc => ?_)
  · rw [if_pos hc] at ho
    exact h1 o ho H locs ls hP hS hl
  · rw [if_neg hc] at ho
    exact h2 o ho H locs ls hP hS hl
theorem im_if_gt (C : Cx G ad U A p s m meth c args cc own nL rt) (t q : Nat) {off : Int} {x : Int32} (hd : decode cc pc = .ok (.ifCond .gt off, 3)) (ht : (pc : Int) + off = (t : Int)) (hq : pc + 3 = q) (h1 : Im G ad U A p l e R s m args below meth c nL Go t lv st D B1 k) (h2 : Im G ad U A p l e R s m args below meth c nL Go q lv st D B2 k) : Im G ad U A p l e R s m args below meth c nL Go pc lv (.int x :: st) D (if 0 < x then B1 else B2) k := by
  subst hq
  intro o ho H locs ls hP hS hl
  refine lv_if_gt C.1 C.2.1 hd ht (fun hc => ?_) (fun hc => ?_)
  · rw [if_pos hc] at ho
    exact h1 o ho H locs ls hP hS hl
  · rw [if_neg hc] at ho
    exact h2 o ho H locs ls hP hS hl
theorem im_if_le (C : Cx G ad U A p s m meth c args cc own nL rt) (t q : Nat) {off : Int} {x : Int32} (hd : decode cc pc = .ok (.ifCond .le off, 3)) (ht : (pc : Int) + off = (t : Int)) (hq : pc + 3 = q) (h1 : Im G ad U A p l e R s m args below meth c nL Go t lv st D B1 k) (h2 : Im G ad U A p l e R s m args below meth c nL Go q lv st D B2 k) : Im G ad U A p l e R s m args below meth c nL Go pc lv (.int x :: st) D (if x ≤ 0 then B1 else B2) k := by
  subst hq
  intro o ho H locs ls hP hS hl
  refine lv_if_le C.1 C.2.1 hd ht (fun hc => ?_) (fun hc => ?_)
  · rw [if_pos hc] at ho
    exact h1 o ho H locs ls hP hS hl
  · rw [if_neg hc] at ho
    exact h2 o ho H locs ls hP hS hl
theorem im_ic_eq (C : Cx G ad U A p s m meth c args cc own nL rt) (t q : Nat) {off : Int} {x y : Int32} (hd : decode cc pc = .ok (.if_icmp .eq off, 3)) (ht : (pc : Int) + off = (t : Int)) (hq : pc + 3 = q) (h1 : Im G ad U A p l e R s m args below meth c nL Go t lv st D B1 k) (h2 : Im G ad U A p l e R s m args below meth c nL Go q lv st D B2 k) : Im G ad U A p l e R s m args below meth c nL Go pc lv (.int y :: .int x :: st) D (if x = y then B1 else B2) k := by
  subst hq
  intro o ho H locs ls hP hS hl
  refine lv_icmp_eq C.1 C.2.1 hd ht (fun hc => ?_) (fun hc => ?_)
  · rw [if_pos hc] at ho
    exact h1 o ho H locs ls hP hS hl
  · rw [if_neg hc] at ho
    exact h2 o ho H locs ls hP hS hl
theorem im_ic_ne (C : Cx G ad U A p s m meth c args cc own nL rt) (t q : Nat) {off : Int} {x y : Int32} (hd : decode cc pc = .ok (.if_icmp .ne off, 3)) (ht : (pc : Int) + off = (t : Int)) (hq : pc + 3 = q) (h1 : Im G ad U A p l e R s m args below meth c nL Go t lv st D B1 k) (h2 : Im G ad U A p l e R s m args below meth c nL Go q lv st D B2 k) : Im G ad U A p l e R s m args below meth c nL Go pc lv (.int y :: .int x :: st) D (if x = y then B2 else B1) k := by
  subst hq
  intro o ho H locs ls hP hS hl
  refine lv_icmp_ne C.1 C.2.1 hd ht (fun hc => ?_) (fun hc => ?_)
  · rw [if_neg hc] at ho
    exact h1 o ho H locs ls hP hS hl
  · rw [if_pos hc] at ho
    exact h2 o ho H locs ls hP hS hl
theorem im_ic_lt (C : Cx G ad U A p s m meth c args cc own nL rt) (t q : Nat) {off : Int} {x y : Int32} (hd : decode cc pc = .ok (.if_icmp .lt off, 3)) (ht : (pc : Int) + off = (t : Int)) (hq : pc + 3 = q) (h1 : Im G ad U A p l e R s m args below meth c nL Go t lv st D B1 k) (h2 : Im G ad U A p l e R s m args below meth c nL Go q lv st D B2 k) : Im G ad U A p l e R s m args below meth c nL Go pc lv (.int y :: .int x :: st) D (if x < y then B1 else B2) k := by
  subst hq
  intro o ho H locs ls hP hS hl
  refine lv_icmp_lt C.1 C.2.1 hd ht (fun hc => ?_) (fun hc => ?_)
  · rw [if_pos hc] at ho
    exact h1 o ho H locs ls hP hS hl
  · rw [if_neg hc] at ho
    exact h2 o ho H locs ls hP hS hl
theorem im_ic_ge (C : Cx G ad U A p s m meth c args cc own nL rt) (t q : Nat) {off : Int} {x y : Int32} (hd : decode cc pc = .ok (.if_icmp .ge off, 3)) (ht : (pc : Int) + off = (t : Int)) (hq : pc + 3 = q) (h1 : Im G ad U A p l e R s m args below meth c nL Go t lv st D B1 k) (h2 : Im G ad U A p l e R s m args below meth c nL Go q lv st D B2 k) : Im G ad U A p l e R s m args below meth c nL Go pc lv (.int y :: .int x :: st) D (if y ≤ x then B1 else B2) k := by
  subst hq
  intro o ho H locs ls hP hS hl
  refine lv_icmp_ge C.1 C.2.1 hd ht (fun hc => ?_) (fun hc => ?_)
  · rw [if_pos hc] at ho
    exact h1 o ho H locs ls hP hS hl
  · rw [if_neg hc] at ho
    exact h2 o ho H locs ls hP hS hl
theorem im_ic_gt (C : Cx G ad U A p s m meth c args cc own nL rt) (t q : Nat) {off : Int} {x y : Int32} (hd : decode cc pc = .ok (.if_icmp .gt off, 3)) (ht : (pc : Int) + off = (t : Int)) (hq : pc + 3 = q) (h1 : Im G ad U A p l e R s m args below meth c nL Go t lv st D B1 k) (h2 : Im G ad U A p l e R s m args below meth c nL Go q lv st D B2 k) : Im G ad U A p l e R s m args below meth c nL Go pc lv (.int y :: .int x :: st) D (if y < x then B1 else B2) k := by
  subst hq
  intro o ho H locs ls hP hS hl
  refine lv_icmp_gt C.1 C.2.1 hd ht (fun hc => ?_) (fun hc => ?_)
  · rw [if_pos hc] at ho
    exact h1 o ho H locs ls hP hS hl
  · rw [if_neg hc] at ho
    exact h2 o ho H locs ls hP hS hl
theorem im_ic_le (C : Cx G ad U A p s m meth c args cc own nL rt) (t q : Nat) {off : Int} {x y : Int32} (hd : decode cc pc = .ok (.if_icmp .le off, 3)) (ht : (pc : Int) + off = (t : Int)) (hq : pc + 3 = q) (h1 : Im G ad U A p l e R s m args below meth c nL Go t lv st D B1 k) (h2 : Im G ad U A p l e R s m args below meth c nL Go q lv st D B2 k) : Im G ad U A p l e R s m args below meth c nL Go pc lv (.int y :: .int x :: st) D (if x ≤ y then B1 else B2) k := by
  subst hq
  intro o ho H locs ls hP hS hl
  refine lv_icmp_le C.1 C.2.1 hd ht (fun hc => ?_) (fun hc => ?_)
  · rw [if_pos hc] at ho
    exact h1 o ho H locs ls hP hS hl
  · rw [if_neg hc] at ho
    exact h2 o ho H locs ls hP hS hl
theorem im_goto (C : Cx G ad U A p s m meth c args cc own nL rt) (t : Nat) {off : Int} (hd : decode cc pc = .ok (.goto off, 3)) (ht : (pc : Int) + off = (t : Int)) (h : Im G ad U A p l e R s m args below meth c nL Go t lv st D B k) : Im G ad U A p l e R s m args below meth c nL Go pc lv st D B k :=
  fun o ho H locs ls hP hS hl => lv_goto C.1 C.2.1 hd ht (h o ho H locs ls hP hS hl)
theorem im_ifnull (C : Cx G ad U A p s m meth c args cc own nL rt) (q : Nat) {off : Int} {x : Nat} (hd : decode cc pc = .ok (.ifnull off, 3)) (hq : pc + 3 = q) (h : Im G ad U A p l e R s m args below meth c nL Go q lv st D B k) : Im G ad U A p l e R s m args below meth c nL Go pc lv (.ref x :: st) D B k := by
  subst hq
  exact fun o ho H locs ls hP hS hl => lv_ifnull C.1 C.2.1 hd (h o ho H locs ls hP hS hl)
theorem im_ite {q : Prop} [Decidable q] (h1 : q → Im G ad U A p l e R s m args below meth c nL Go pc lv st D B1 k) (h2 : ¬ q → Im G ad U A p l e R s m args below meth c nL Go pc lv st D B2 k) : Im G ad U A p l e R s m args below meth c nL Go pc lv st D (if q then B1 else B2) k := by
  intro o ho H locs ls hP hS hl
  by_cases hc : q
  · rw [if_pos hc] at ho
    exact h1 hc o ho H locs ls hP hS hl
  · rw [if_neg hc] at ho
    exact h2 hc o ho H locs ls hP hS hl
theorem im_tabIn (C : Cx G ad U A p s m meth c args cc own nL rt) (t : Nat) {dflt lo hi : Int} {offs : Array Int} {len : Nat} {x y : Int32} {off : Int} (hxy : x = y) (hd : decode cc pc = .ok (.tableswitch dflt lo hi offs, len)) (h1 : ¬ y.toInt < lo) (h2 : ¬ hi < y.toInt) (ho : offs[(y.toInt - lo).toNat]? = some off) (ht : (pc : Int) + off = (t : Int)) (h : Im G ad U A p l e R s m args below meth c nL Go t lv st D B k) : Im G ad U A p l e R s m args below meth c nL Go pc lv (.int x :: st) D B k := by
  subst hxy
  exact fun o ho2 H locs ls hP hS hl => lv_tableIn C.1 C.2.1 hd h1 h2 ho ht (h o ho2 H locs ls hP hS hl)
theorem im_tabOut (C : Cx G ad U A p s m meth c args cc own nL rt) (t : Nat) {dflt lo hi : Int} {offs : Array Int} {len : Nat} {x : Int32} (hd : decode cc pc = .ok (.tableswitch dflt lo hi offs, len)) (h0 : x.toInt < lo ∨ hi < x.toInt) (ht : (pc : Int) + dflt = (t : Int)) (h : Im G ad U A p l e R s m args below meth c nL Go t lv st D B k) : Im G ad U A p l e R s m args below meth c nL Go pc lv (.int x :: st) D B k :=
  fun o ho2 H locs ls hP hS hl => lv_tableOut C.1 C.2.1 hd h0 ht (h o ho2 H locs ls hP hS hl)
theorem im_look (C : Cx G ad U A p s m meth c args cc own nL rt) (t : Nat) {dflt : Int} {ps : Array (Int × Int)} {len : Nat} {x : Int32} {off : Int} (hd : decode cc pc = .ok (.lookupswitch dflt ps, len)) (hp : (ps.toList.zip (ps.toList.drop 1)).all (fun (a, next) => a.1 < next.1) = true) (ho : Op.lookupswitch.offset ps.toList dflt x.toInt = off) (ht : (pc : Int) + off = (t : Int)) (h : Im G ad U A p l e R s m args below meth c nL Go t lv st D B k) : Im G ad U A p l e R s m args below meth c nL Go pc lv (.int x :: st) D B k :=
  fun o ho2 H locs ls hP hS hl => lv_lookup C.1 C.2.1 hd hp ho ht (h o ho2 H locs ls hP hS hl)
theorem im_sub (ks : List Nat) (lv' : List (Nat × Value)) (hl0 : lv_pick lv ks = lv') (h : Im G ad U A p l e R s m args below meth c nL Go pc lv' st D B k) : Im G ad U A p l e R s m args below meth c nL Go pc lv st D B k :=
  fun o ho H locs ls hP hS hl => h o ho H locs ls hP hS (lv_sub hl ks hl0)
theorem im_iald (C : Cx G ad U A p s m meth c args cc own nL rt) (q n : Nat) {kd b : Nat} {i : Int32} (hm : (kd, b) ∈ U) (he : cel ad kd b (D kd b) = .inl (ad 100 0, n, .inl (D kd b))) (hd : decode cc pc = .ok (.iaload, 1)) (hq : pc + 1 = q) (h : Im G ad U A p l e R s m args below meth c nL Go q lv (.int (D kd b i.toNatClampNeg) :: st) D B k) : Im G ad U A p l e R s m args below meth c nL Go pc lv (.int i :: .ref (ad kd b) :: st) D (gd (inb i n) B) k := by
  subst hq
  intro o ho H locs ls hP hS hl
  cases hb : inb i n with
  | false => rw [hb] at ho; cases ho
  | true =>
    rw [hb] at ho
    obtain ⟨q0, -, h2⟩ := wl_at (ad := ad) (D := D) hm
    rw [he] at h2
    exact va_iald C.1 C.2.1 C.2.2.2.2.2.2.2.1 hP q0 0 h2 rfl (inb_in hb) hd (h o ho H locs ls hP hS hl)
theorem im_cald (C : Cx G ad U A p s m meth c args cc own nL rt) (q n : Nat) {kd b : Nat} {i : Int32} (hm : (kd, b) ∈ U) (he : cel ad kd b (D kd b) = .inl (ad 100 2, n, .inl (D kd b))) (hd : decode cc pc = .ok (.caload, 1)) (hq : pc + 1 = q) (h : Im G ad U A p l e R s m args below meth c nL Go q lv (.int (D kd b i.toNatClampNeg) :: st) D B k) : Im G ad U A p l e R s m args below meth c nL Go pc lv (.int i :: .ref (ad kd b) :: st) D (gd (inb i n) B) k := by
  subst hq
  intro o ho H locs ls hP hS hl
  cases hb : inb i n with
  | false => rw [hb] at ho; cases ho
  | true =>
    rw [hb] at ho
    obtain ⟨q0, -, h2⟩ := wl_at (ad := ad) (D := D) hm
    rw [he] at h2
    exact va_cald C.1 C.2.1 C.2.2.2.2.2.2.2.1 hP q0 2 h2 rfl (inb_in hb) hd (h o ho H locs ls hP hS hl)
theorem im_bald (C : Cx G ad U A p s m meth c args cc own nL rt) (q n : Nat) {kd b : Nat} {i : Int32} (hm : (kd, b) ∈ U) (he : cel ad kd b (D kd b) = .inl (ad 100 1, n, .inl (D kd b))) (hd : decode cc pc = .ok (.baload, 1)) (hq : pc + 1 = q) (h : Im G ad U A p l e R s m args below meth c nL Go q lv (.int (D kd b i.toNatClampNeg) :: st) D B k) : Im G ad U A p l e R s m args below meth c nL Go pc lv (.int i :: .ref (ad kd b) :: st) D (gd (inb i n) B) k := by
  subst hq
  intro o ho H locs ls hP hS hl
  cases hb : inb i n with
  | false => rw [hb] at ho; cases ho
  | true =>
    rw [hb] at ho
    obtain ⟨q0, -, h2⟩ := wl_at (ad := ad) (D := D) hm
    rw [he] at h2
    exact va_bald C.1 C.2.1 C.2.2.2.2.2.2.2.1 hP q0 1 h2 rfl (inb_in hb) hd (h o ho H locs ls hP hS hl)
theorem im_iast (C : Cx G ad U A p s m meth c args cc own nL rt) (q n : Nat) {kd b : Nat} {i x : Int32} (hm : (kd, b) ∈ U) (he : ∀ r, cel ad kd b r = .inl (ad 100 0, n, .inl r)) (hd : decode cc pc = .ok (.iastore, 1)) (hq : pc + 1 = q) (h : Im G ad U A p l e R s m args below meth c nL Go q lv st (updD D kd b i.toNatClampNeg x) B k) : Im G ad U A p l e R s m args below meth c nL Go pc lv (.int x :: .int i :: .ref (ad kd b) :: st) D (gd (inb i n) B) k := by
  subst hq
  intro o ho H locs ls hP hS hl
  cases hb : inb i n with
  | false => rw [hb] at ho; cases ho
  | true =>
    rw [hb] at ho
    obtain ⟨q0, h1, h2⟩ := wl_at (ad := ad) (D := D) hm
    rw [he] at h2
    refine va_iast C.1 C.2.1 C.2.2.2.2.2.2.2.1 hP (wl_D D C.2.2.2.2.2.2.2.2.2.2.1 C.2.2.2.2.2.2.2.2.2.2.2.1) hS q0 0 h2 rfl (inb_in hb) hd (fun H1 locs1 hP1 _ hS1 => ?_)
    refine h o ho H1 locs1 ls ?_ hS1 hl
    rw [← wl_set (D' := updD D kd b i.toNatClampNeg x) C.2.2.2.2.2.2.2.2.2.2.1 h1 (fun k' b' hn => updD_other D _ _ hn), updD_same, he]
    exact hP1
theorem im_cast (C : Cx G ad U A p s m meth c args cc own nL rt) (q n : Nat) {kd b : Nat} {i x : Int32} (hm : (kd, b) ∈ U) (he : ∀ r, cel ad kd b r = .inl (ad 100 2, n, .inl r)) (hd : decode cc pc = .ok (.castore, 1)) (hq : pc + 1 = q) (h : Im G ad U A p l e R s m args below meth c nL Go q lv st (updD D kd b i.toNatClampNeg (vp_nar .char x)) B k) : Im G ad U A p l e R s m args below meth c nL Go pc lv (.int x :: .int i :: .ref (ad kd b) :: st) D (gd (inb i n) B) k := by
  subst hq
  intro o ho H locs ls hP hS hl
  cases hb : inb i n with
  | false => rw [hb] at ho; cases ho
  | true =>
    rw [hb] at ho
    obtain ⟨q0, h1, h2⟩ := wl_at (ad := ad) (D := D) hm
    rw [he] at h2
    refine va_cast C.1 C.2.1 C.2.2.2.2.2.2.2.1 hP (wl_D D C.2.2.2.2.2.2.2.2.2.2.1 C.2.2.2.2.2.2.2.2.2.2.2.1) hS q0 2 h2 rfl (inb_in hb) hd (fun H1 locs1 hP1 _ hS1 => ?_)
    refine h o ho H1 locs1 ls ?_ hS1 hl
    rw [← wl_set (D' := updD D kd b i.toNatClampNeg (vp_nar .char x)) C.2.2.2.2.2.2.2.2.2.2.1 h1 (fun k' b' hn => updD_other D _ _ hn), updD_same, he]
    exact hP1
theorem im_bast (C : Cx G ad U A p s m meth c args cc own nL rt) (q n : Nat) {kd b : Nat} {i x : Int32} (hm : (kd, b) ∈ U) (he : ∀ r, cel ad kd b r = .inl (ad 100 1, n, .inl r)) (hd : decode cc pc = .ok (.bastore, 1)) (hq : pc + 1 = q) (h : Im G ad U A p l e R s m args below meth c nL Go q lv st (updD D kd b i.toNatClampNeg (vp_nar .byte x)) B k) : Im G ad U A p l e R s m args below meth c nL Go pc lv (.int x :: .int i :: .ref (ad kd b) :: st) D (gd (inb i n) B) k := by
  subst hq
  intro o ho H locs ls hP hS hl
  cases hb : inb i n with
  | false => rw [hb] at ho; cases ho
  | true =>
    rw [hb] at ho
    obtain ⟨q0, h1, h2⟩ := wl_at (ad := ad) (D := D) hm
    rw [he] at h2
    refine va_bast C.1 C.2.1 C.2.2.2.2.2.2.2.1 hP (wl_D D C.2.2.2.2.2.2.2.2.2.2.1 C.2.2.2.2.2.2.2.2.2.2.2.1) hS q0 1 h2 rfl (inb_in hb) hd (fun H1 locs1 hP1 _ hS1 => ?_)
    refine h o ho H1 locs1 ls ?_ hS1 hl
    rw [← wl_set (D' := updD D kd b i.toNatClampNeg (vp_nar .byte x)) C.2.2.2.2.2.2.2.2.2.2.1 h1 (fun k' b' hn => updD_other D _ _ hn), updD_same, he]
    exact hP1
theorem im_alen (C : Cx G ad U A p s m meth c args cc own nL rt) (q n : Nat) {kd b : Nat} (hm : (kd, b) ∈ U) (he : cel ad kd b (D kd b) = .inl (ad 100 0, n, .inl (D kd b))) (hd : decode cc pc = .ok (.arraylength, 1)) (hq : pc + 1 = q) (h : Im G ad U A p l e R s m args below meth c nL Go q lv (.int (Int32.ofNat n) :: st) D B k) : Im G ad U A p l e R s m args below meth c nL Go pc lv (.ref (ad kd b) :: st) D B k := by
  subst hq
  intro o ho H locs ls hP hS hl
  obtain ⟨q0, -, h2⟩ := wl_at (ad := ad) (D := D) hm
  rw [he] at h2
  exact va_alen C.1 C.2.1 C.2.2.2.2.2.2.2.1 hP q0 0 h2 (ty := .int) rfl rfl hd (h o ho H locs ls hP hS hl)
theorem im_aaldring (C : Cx G ad U A p s m meth c args cc own nL rt) (q : Nat) {b : Nat} {i : Int32} (hm : (25, b) ∈ U) (hd : decode cc pc = .ok (.aaload, 1)) (hq : pc + 1 = q) (h : Im G ad U A p l e R s m args below meth c nL Go q lv (.ref (ad 0 (2 + i.toNatClampNeg)) :: st) D B k) : Im G ad U A p l e R s m args below meth c nL Go pc lv (.int i :: .ref (ad 25 b) :: st) D (gd (inb i 6) B) k := by
  subst hq
  intro o ho H locs ls hP hS hl
  cases hb : inb i 6 with
  | false => rw [hb] at ho; cases ho
  | true =>
    rw [hb] at ho
    obtain ⟨q0, -, h2⟩ := wl_at (ad := ad) (D := D) hm
    exact va_aldq (f := fun j => some (ad 0 (2 + j))) C.1 C.2.1 C.2.2.2.2.2.2.2.1 hP q0 3 h2 rfl (inb_in hb) hd (h o ho H locs ls hP hS hl)
theorem im_get (C : Cx G ad U A p s m meth c args cc own nL rt) (q f : Nat) {kd b ci N index : Nat} {C0 : String} {T : u_T} {fs : List Value} {v : Value} (hin : ∀ w ∈ u_ws C0 T N, w ∈ gt_T) (hm : (kd, b) ∈ U) (he : cel ad kd b (D kd b) = .inr (ci, fs)) (hc : vwCl[ci]? = some (C0, T, N)) (hk : f < N) (hw : Cond.fieldLink own index (T f).1 (T f).2.1 (T f).2.2.1 ∈ gt_T) (hv : fs[f]? = some v) (hd : decode cc pc = .ok (.getfield index, 3)) (hq : pc + 3 = q) (h : Im G ad U A p l e R s m args below meth c nL Go q lv (v :: st) D B k) : Im G ad U A p l e R s m args below meth c nL Go pc lv (.ref (ad kd b) :: st) D B k := by
  subst hq
  intro o ho H locs ls hP hS hl
  obtain ⟨q0, -, h2⟩ := wl_at (ad := ad) (D := D) hm
  rw [he] at h2
  exact va_get C.1 C.2.1 C.2.2.2.2.1 hin C.2.2.2.1 C.2.2.2.2.2.2.2.1 hP q0 h2 hc f hk (C.2.2.2.2.1 _ hw) (fun _ h9 => h9) hv hd (h o ho H locs ls hP hS hl)
theorem im_getN (C : Cx G ad U A p s m meth c args cc own nL rt) (q f : Nat) {kd b ci N index : Nat} {C0 host : String} {T : u_T} {fs : List Value} {v : Value} (hin : ∀ w ∈ u_ws C0 T N, w ∈ gt_T) (hm : (kd, b) ∈ U) (he : cel ad kd b (D kd b) = .inr (ci, fs)) (hc : vwCl[ci]? = some (C0, T, N)) (hk : f < N) (hw : Cond.fieldLinkNest own index (T f).1 (T f).2.1 (T f).2.2.1 host ∈ nw_T) (hv : fs[f]? = some v) (hd : decode cc pc = .ok (.getfield index, 3)) (hq : pc + 3 = q) (h : Im G ad U A p l e R s m args below meth c nL Go q lv (v :: st) D B k) : Im G ad U A p l e R s m args below meth c nL Go pc lv (.ref (ad kd b) :: st) D B k := by
  subst hq
  intro o ho H locs ls hP hS hl
  obtain ⟨q0, -, h2⟩ := wl_at (ad := ad) (D := D) hm
  rw [he] at h2
  exact va_getN C.1 C.2.1 C.2.2.2.2.1 hin C.2.2.2.1 C.2.2.2.2.2.2.2.1 hP q0 h2 hc f hk (va_Nw.use rfl (C.2.2.2.2.2.2.2.2.1 _ hw)) (fun _ h9 => h9) hv hd (h o ho H locs ls hP hS hl)
theorem im_put (C : Cx G ad U A p s m meth c args cc own nL rt) (q f : Nat) (D' : Dt) {kd b ci N index : Nat} {C0 host : String} {T : u_T} {fs : List Value} {v : Value} {ty : FieldType} (hin : ∀ w ∈ u_ws C0 T N, w ∈ gt_T) (ty0 : Nat → FieldType) (hty : ∀ k, k < N → parseFieldDescriptor (T k).2.2.1 = some (ty0 k)) (hnm : ∀ a, a < N → ∀ b, b < N → a ≠ b → (T a).2.1 ≠ (T b).2.1) (hm : (kd, b) ∈ U) (he : cel ad kd b (D kd b) = .inr (ci, fs)) (he' : cel ad kd b (D' kd b) = .inr (ci, fs.set f v)) (ho9 : ∀ k' b', ¬ (k' = kd ∧ b' = b) → D' k' b' = D k' b') (hc : vwCl[ci]? = some (C0, T, N)) (hk : f < N) (hw : Cond.fieldLink own index (T f).1 (T f).2.1 (T f).2.2.1 ∈ gt_T) (hfin : (T f).2.2.2 = false) (hdsc : parseFieldDescriptor (T f).2.2.1 = some ty) (hn : narrow ty v = v) (hfit : fits ty v = true) (hl9 : f < fs.length) (hd : decode cc pc = .ok (.putfield index, 3)) (hq : pc + 3 = q) (h : Im G ad U A p l e R s m args below meth c nL Go q lv st D' B k) : Im G ad U A p l e R s m args below meth c nL Go pc lv (v :: .ref (ad kd b) :: st) D B k := by
  subst hq
  intro o ho H locs ls hP hS hl
  obtain ⟨q0, h1, h2⟩ := wl_at (ad := ad) (D := D) hm
  rw [he] at h2
  refine va_put C.1 C.2.1 C.2.2.2.2.1 hin ty0 hty hnm C.2.2.2.1 C.2.2.2.2.2.2.2.1 hP (wl_D D C.2.2.2.2.2.2.2.2.2.2.1 C.2.2.2.2.2.2.2.2.2.2.2.1) hS q0 h2 hc f hk (C.2.2.2.2.1 _ hw) (fun _ h9 => h9) hfin hdsc hn hfit hl9 hd (fun H1 locs1 hP1 _ hS1 => ?_)
  refine h o ho H1 locs1 ls ?_ hS1 hl
  rw [← wl_set (D' := D') C.2.2.2.2.2.2.2.2.2.2.1 h1 ho9, he']
  exact hP1
theorem im_putN (C : Cx G ad U A p s m meth c args cc own nL rt) (q f : Nat) (D' : Dt) {kd b ci N index : Nat} {C0 host : String} {T : u_T} {fs : List Value} {v : Value} {ty : FieldType} (hin : ∀ w ∈ u_ws C0 T N, w ∈ gt_T) (ty0 : Nat → FieldType) (hty : ∀ k, k < N → parseFieldDescriptor (T k).2.2.1 = some (ty0 k)) (hnm : ∀ a, a < N → ∀ b, b < N → a ≠ b → (T a).2.1 ≠ (T b).2.1) (hm : (kd, b) ∈ U) (he : cel ad kd b (D kd b) = .inr (ci, fs)) (he' : cel ad kd b (D' kd b) = .inr (ci, fs.set f v)) (ho9 : ∀ k' b', ¬ (k' = kd ∧ b' = b) → D' k' b' = D k' b') (hc : vwCl[ci]? = some (C0, T, N)) (hk : f < N) (hw : Cond.fieldLinkNest own index (T f).1 (T f).2.1 (T f).2.2.1 host ∈ nw_T) (hfin : (T f).2.2.2 = false) (hdsc : parseFieldDescriptor (T f).2.2.1 = some ty) (hn : narrow ty v = v) (hfit : fits ty v = true) (hl9 : f < fs.length) (hd : decode cc pc = .ok (.putfield index, 3)) (hq : pc + 3 = q) (h : Im G ad U A p l e R s m args below meth c nL Go q lv st D' B k) : Im G ad U A p l e R s m args below meth c nL Go pc lv (v :: .ref (ad kd b) :: st) D B k := by
  subst hq
  intro o ho H locs ls hP hS hl
  obtain ⟨q0, h1, h2⟩ := wl_at (ad := ad) (D := D) hm
  rw [he] at h2
  refine va_putN C.1 C.2.1 C.2.2.2.2.1 hin ty0 hty hnm C.2.2.2.1 C.2.2.2.2.2.2.2.1 hP (wl_D D C.2.2.2.2.2.2.2.2.2.2.1 C.2.2.2.2.2.2.2.2.2.2.2.1) hS q0 h2 hc f hk (va_Nw.use rfl (C.2.2.2.2.2.2.2.2.1 _ hw)) (fun _ h9 => h9) hfin hdsc hn hfit hl9 hd (fun H1 locs1 hP1 _ hS1 => ?_)
  refine h o ho H1 locs1 ls ?_ hS1 hl
  rw [← wl_set (D' := D') C.2.2.2.2.2.2.2.2.2.2.1 h1 ho9, he']
  exact hP1
theorem cx_F (C : Cx G ad U A p s m meth c args cc own nL rt) {H : Heap} {locs : List Loc} (hS : va_S A s.heap H locs) (D : Dt) : ∀ q : Nat, va_A (wl ad U D) H.size q → A q := by
  intro q h
  rcases h with ⟨k, e, h⟩ | h
  · simp only [wl, List.getElem?_map] at h
    cases hu : U[k]? with
    | none => rw [hu] at h; cases h
    | some w =>
      rw [hu] at h
      cases h
      exact C.2.2.2.2.2.2.2.2.2.2.2.1 w (List.mem_of_getElem? hu)
  · exact C.2.2.2.2.2.2.2.2.2.2.2.2 q (Nat.le_trans hS.1 h)
theorem wd_blind {as : List Value} {sz : Nat} : FrameBlind (va_Pc as (Wd G ad U D sz)) := by
  intro a T g mk h
  obtain ⟨h1, h2, h3, h4, h5, h6⟩ := h
  exact ⟨h1, h2, h3, va_K.moved (u := T) (U := T.calling g mk a) (Vm.Alike.refl T.vm) h4, Nwa.same (u := T) rfl h5, Sfix.same (u := T) rfl h6⟩
theorem wd_pre (C : Cx G ad U A p s m meth c args cc own nL rt) {H : Heap} {locs : List Loc} (hP : va_P G vwCl (wl ad U D) H) (hS : va_S A s.heap H locs) (as : List Value) : ∀ T : State, T.heap = H → s.WarmedH T.vm → va_Pc as (Wd G ad U D H.size) as.toArray T := by
  intro T hT hW
  refine ⟨rfl, by rw [hT], by rw [hT]; exact hP, va_K.moved hW.alike C.2.2.2.2.2.2.2.1, C.2.2.2.2.2.2.2.2.1.warm hW, ?_⟩
  rw [hT]
  exact ((C.2.2.2.2.2.2.2.2.2.1.kept (fun a h1 h2 => hS.2.1 a h1 h2)).narrow (cx_F C hS D)).warm hW
theorem gi_of {ws : List Cond} (h : ∀ w ∈ ws, w ∈ gt_T) : GoodIn gt_T ws := fun w hw => ⟨h w hw, good_of_word (List.mem_filter.mp (h w hw)).2⟩
theorem gi_ws {y : MethodName} {cb : ByteArray} {mx : Nat} {ret : Option FieldType} (h : Cond.code y cb mx ret ∈ gt_T) : GoodIn gt_T (wsG y cb mx ret) := gi_of (fun w hw => by
  rcases List.mem_cons.mp hw with rfl | hw
  · exact h
  · exact hw)
def Vok (y : MethodName) (cb : ByteArray) (mx : Nat) (ret : Option FieldType) (n : Nat) : Prop := Cond.instanceMethod y ∈ gt_T ∧ Cond.selects y.cls y y ∈ gt_T ∧ Cond.initialized y.cls ∈ gt_T ∧ Cond.code y cb mx ret ∈ gt_T ∧ (y.cls ≠ "java/lang/invoke/MethodHandle" ∧ y.cls ≠ "java/lang/invoke/VarHandle" ∧ (parseMethodDescriptor y.desc).map (fun d => d.parameters.length) = some n)
def Sok (y : MethodName) (cb : ByteArray) (mx : Nat) (ret : Option FieldType) (n : Nat) : Prop := Cond.static y ∈ gt_T ∧ Cond.initialized y.cls ∈ gt_T ∧ Cond.code y cb mx ret ∈ gt_T ∧ (y.cls ≠ "java/lang/invoke/MethodHandle" ∧ y.cls ≠ "java/lang/invoke/VarHandle" ∧ (parseMethodDescriptor y.desc).map (fun d => d.parameters.length) = some n)
def Rle (fr lo mx : Nat) (R : Room) : Prop := fr + 1 ≤ R.frames ∧ 8 + (mx + 11) + lo ≤ R.locals
theorem rn_V (C : Cx G ad U A p s m meth c args cc own nL rt) {y : MethodName} {cb : ByteArray} {mx n fr lo index : Nat} {ret : Option FieldType} {Qc : Array Value → State → Outcome → State → Prop} {free : Addr → Prop} {kd b ci : Nat} {As fs : List Value} {T : u_T} {N : Nat} {H : Heap} {locs : List Loc} {ls : Array Slot} {st0 : List Value} (V : Vok y cb mx ret n) (hw : Cond.methodLink own index y ∈ gt_T) (hM : Met l y (wsG y cb mx ret) (k2_rm fr lo) (va_Pc (.ref (ad kd b) :: As) (Wd G ad U D H.size)) Qc 0 0 free) (hm : (kd, b) ∈ U) (he : cel ad kd b (D kd b) = .inr (ci, fs)) (hc : vwCl[ci]? = some (y.cls, T, N)) (hR : Rle fr lo mx R) (hn : As.length = n) (hst : st0 = As.reverse ++ .ref (ad kd b) :: st) (hcat : (st.map fun v => v.category).sum ≤ 8) (hd : decode cc pc = .ok (.invokevirtual index, 3)) (hP : va_P G vwCl (wl ad U D) H) (hS : va_S A s.heap H locs) (hl : lv_has ls nL lv) : va_Run p l e R s m args below meth c H locs 0 0 0 0 (F0 m pc ls st0) st (Qc (Value.ref (ad kd b) :: As).toArray) free := by
  obtain ⟨q0, -, h2⟩ := wl_at (ad := ad) (D := D) hm
  rw [he] at h2
  have hts := C.2.2.2.2.1
  refine va_runV (Ts := gt_T) (C := y.cls) (bytes := cb) (maxL := mx) (ret := ret) ⟨C.1, C.2.1, C.2.2.1, C.2.2.2.1, hts⟩ hM ⟨callB_of n hts (gi_ws V.2.2.2.1) rfl rfl rfl (hts _ V.2.2.1) (hts _ hw) V.2.2.2.2 hR, hts _ V.1, hts _ V.2.1⟩ ⟨wd_blind, va_recv C.2.2.2.2.2.2.2.1 hP hc h2, wd_pre C hP hS _⟩ rfl hn hl.1 hst (lv_room hcat) hd ⟨Nat.zero_le _, Nat.zero_le _⟩
theorem rn_VN (C : Cx G ad U A p s m meth c args cc own nL rt) {y : MethodName} {host : String} {cb : ByteArray} {mx n fr lo index : Nat} {ret : Option FieldType} {Qc : Array Value → State → Outcome → State → Prop} {free : Addr → Prop} {kd b ci : Nat} {As fs : List Value} {T : u_T} {N : Nat} {H : Heap} {locs : List Loc} {ls : Array Slot} {st0 : List Value} (V : Vok y cb mx ret n) (hw : Cond.methodLinkNest own index y host ∈ nw_T) (hM : Met l y (wsG y cb mx ret) (k2_rm fr lo) (va_Pc (.ref (ad kd b) :: As) (Wd G ad U D H.size)) Qc 0 0 free) (hm : (kd, b) ∈ U) (he : cel ad kd b (D kd b) = .inr (ci, fs)) (hc : vwCl[ci]? = some (y.cls, T, N)) (hR : Rle fr lo mx R) (hn : As.length = n) (hst : st0 = As.reverse ++ .ref (ad kd b) :: st) (hcat : (st.map fun v => v.category).sum ≤ 8) (hd : decode cc pc = .ok (.invokevirtual index, 3)) (hP : va_P G vwCl (wl ad U D) H) (hS : va_S A s.heap H locs) (hl : lv_has ls nL lv) : va_Run p l e R s m args below meth c H locs 0 0 0 0 (F0 m pc ls st0) st (Qc (Value.ref (ad kd b) :: As).toArray) free := by
  obtain ⟨q0, -, h2⟩ := wl_at (ad := ad) (D := D) hm
  rw [he] at h2
  have hts := C.2.2.2.2.1
  refine va_runVN (Ts := gt_T) (C := y.cls) (bytes := cb) (maxL := mx) (ret := ret) ⟨C.1, C.2.1, C.2.2.1, C.2.2.2.1, hts⟩ hM ⟨va_cnB n hts (gi_ws V.2.2.2.1) rfl rfl rfl (C.2.2.2.2.2.2.2.2.1 _ hw) (hts _ V.2.2.1) V.2.2.2.2 hR, hts _ V.1, hts _ V.2.1⟩ ⟨wd_blind, va_recv C.2.2.2.2.2.2.2.1 hP hc h2, wd_pre C hP hS _⟩ rfl hn hl.1 hst (lv_room hcat) hd ⟨Nat.zero_le _, Nat.zero_le _⟩
theorem rn_S (C : Cx G ad U A p s m meth c args cc own nL rt) {y : MethodName} {cb : ByteArray} {mx n fr lo index : Nat} {ret : Option FieldType} {Qc : Array Value → State → Outcome → State → Prop} {free : Addr → Prop} {As : List Value} {H : Heap} {locs : List Loc} {ls : Array Slot} {st0 : List Value} (V : Sok y cb mx ret n) (hw : Cond.methodLink own index y ∈ gt_T) (hM : Met l y (wsG y cb mx ret) (k2_rm fr lo) (va_Pc As (Wd G ad U D H.size)) Qc 0 0 free) (hR : Rle fr lo mx R) (hn : As.length = n) (hst : st0 = As.reverse ++ st) (hcat : (st.map fun v => v.category).sum ≤ 8) (hd : decode cc pc = .ok (.invokestatic index, 3)) (hP : va_P G vwCl (wl ad U D) H) (hS : va_S A s.heap H locs) (hl : lv_has ls nL lv) : va_Run p l e R s m args below meth c H locs 0 0 0 0 (F0 m pc ls st0) st (Qc As.toArray) free := by
  have hts := C.2.2.2.2.1
  refine va_runS (Ts := gt_T) (bytes := cb) (maxL := mx) (ret := ret) ⟨C.1, C.2.1, C.2.2.1, C.2.2.2.1, hts⟩ hM ⟨callB_of n hts (gi_ws V.2.2.1) rfl rfl rfl (hts _ V.2.1) (hts _ hw) V.2.2.2 hR, hts _ V.1⟩ ⟨wd_blind, wd_pre C hP hS _⟩ rfl hn hl.1 hst (lv_room hcat) hd ⟨Nat.zero_le _, Nat.zero_le _⟩
theorem rn_SN (C : Cx G ad U A p s m meth c args cc own nL rt) {y : MethodName} {host : String} {cb : ByteArray} {mx n fr lo index : Nat} {ret : Option FieldType} {Qc : Array Value → State → Outcome → State → Prop} {free : Addr → Prop} {As : List Value} {H : Heap} {locs : List Loc} {ls : Array Slot} {st0 : List Value} (V : Sok y cb mx ret n) (hw : Cond.methodLinkNest own index y host ∈ nw_T) (hM : Met l y (wsG y cb mx ret) (k2_rm fr lo) (va_Pc As (Wd G ad U D H.size)) Qc 0 0 free) (hR : Rle fr lo mx R) (hn : As.length = n) (hst : st0 = As.reverse ++ st) (hcat : (st.map fun v => v.category).sum ≤ 8) (hd : decode cc pc = .ok (.invokestatic index, 3)) (hP : va_P G vwCl (wl ad U D) H) (hS : va_S A s.heap H locs) (hl : lv_has ls nL lv) : va_Run p l e R s m args below meth c H locs 0 0 0 0 (F0 m pc ls st0) st (Qc As.toArray) free := by
  have hts := C.2.2.2.2.1
  refine va_runSN (Ts := gt_T) (bytes := cb) (maxL := mx) (ret := ret) ⟨C.1, C.2.1, C.2.2.1, C.2.2.2.1, hts⟩ hM ⟨va_cnB n hts (gi_ws V.2.2.1) rfl rfl rfl (C.2.2.2.2.2.2.2.2.1 _ hw) (hts _ V.2.1) V.2.2.2 hR, hts _ V.1, trivial⟩ ⟨wd_blind, wd_pre C hP hS _⟩ rfl hn hl.1 hst (lv_room hcat) hd ⟨Nat.zero_le _, Nat.zero_le _⟩
theorem im_runI (C : Cx G ad U A p s m meth c args cc own nL rt) (q : Nat) {F : Option (Int32 × Dt)} {B9 : Int32 × Dt → Option β} {st0 : List Value} {as : Array Value} (hq : pc + 3 = q) (hr : ∀ o, F = some o → ∀ (H : Heap) (locs : List Loc) (ls : Array Slot), va_P G vwCl (wl ad U D) H → va_S A s.heap H locs → lv_has ls nL lv → va_Run p l e R s m args below meth c H locs 0 0 0 0 (F0 m pc ls st0) st (va_Qi (fun r u => r = o.1 ∧ u = o.2) (fun (u : Dt) t => va_P G vwCl (wl ad U u) t.heap) (va_A (wl ad U D) H.size) as) (va_A (wl ad U D) H.size)) (h : ∀ o, Im G ad U A p l e R s m args below meth c nL Go q lv (.int o.1 :: st) o.2 (B9 o) k) : Im G ad U A p l e R s m args below meth c nL Go pc lv st0 D (F.bind B9) k := by
  subst hq
  intro o ho H locs ls hP hS hl
  cases hF : F with
  | none => rw [hF] at ho; cases ho
  | some w =>
    rw [hF] at ho
    have ho : (B9 w).bind k = some o := ho
    refine va_calli (hr w hF H locs ls hP hS hl) hS (fun q _ h => cx_F C hS D q h) (cx_F C hS D) (fun r u t H1 locs1 ht hvm hw hB hz hk hS1 => ?_)
    have hB : va_P G vwCl (wl ad U u) t.heap := hB
    have e1 : r = w.1 := hw.1
    have e2 : u = w.2 := hw.2
    rw [e2, ht] at hB
    rw [e1]
    exact h w o ho H1 locs1 ls hB hS1 hl
theorem im_runV (C : Cx G ad U A p s m meth c args cc own nL rt) (q : Nat) {F : Option (Dt)} {B9 : Dt → Option β} {st0 : List Value} {as : Array Value} (hq : pc + 3 = q) (hr : ∀ o, F = some o → ∀ (H : Heap) (locs : List Loc) (ls : Array Slot), va_P G vwCl (wl ad U D) H → va_S A s.heap H locs → lv_has ls nL lv → va_Run p l e R s m args below meth c H locs 0 0 0 0 (F0 m pc ls st0) st (va_Qv (fun u => u = o) (fun (u : Dt) t => va_P G vwCl (wl ad U u) t.heap) (va_A (wl ad U D) H.size) as) (va_A (wl ad U D) H.size)) (h : ∀ o, Im G ad U A p l e R s m args below meth c nL Go q lv st o (B9 o) k) : Im G ad U A p l e R s m args below meth c nL Go pc lv st0 D (F.bind B9) k := by
  subst hq
  intro o ho H locs ls hP hS hl
  cases hF : F with
  | none => rw [hF] at ho; cases ho
  | some w =>
    rw [hF] at ho
    have ho : (B9 w).bind k = some o := ho
    refine va_callv (hr w hF H locs ls hP hS hl) hS (fun q _ h => cx_F C hS D q h) (cx_F C hS D) (fun u t H1 locs1 ht hvm hw hB hz hk hS1 => ?_)
    have hB : va_P G vwCl (wl ad U u) t.heap := hB
    have e2 : u = w := hw
    rw [e2, ht] at hB
    exact h w o ho H1 locs1 ls hB hS1 hl
theorem im_runR (C : Cx G ad U A p s m meth c args cc own nL rt) (q : Nat) {F : Option (Nat × Dt)} {B9 : Nat × Dt → Option β} {st0 : List Value} {as : Array Value} (hq : pc + 3 = q) (hr : ∀ o, F = some o → ∀ (H : Heap) (locs : List Loc) (ls : Array Slot), va_P G vwCl (wl ad U D) H → va_S A s.heap H locs → lv_has ls nL lv → va_Run p l e R s m args below meth c H locs 0 0 0 0 (F0 m pc ls st0) st (va_Qr (fun u => u = o.2) (fun (u : Dt) a t => a = ad 0 o.1 ∧ va_P G vwCl (wl ad U u) t.heap) (va_A (wl ad U D) H.size) as) (va_A (wl ad U D) H.size)) (h : ∀ o, Im G ad U A p l e R s m args below meth c nL Go q lv (.ref (ad 0 o.1) :: st) o.2 (B9 o) k) : Im G ad U A p l e R s m args below meth c nL Go pc lv st0 D (F.bind B9) k := by
  subst hq
  intro o ho H locs ls hP hS hl
  cases hF : F with
  | none => rw [hF] at ho; cases ho
  | some w =>
    rw [hF] at ho
    have ho : (B9 w).bind k = some o := ho
    refine va_callr (hr w hF H locs ls hP hS hl) hS (fun q _ h => cx_F C hS D q h) (cx_F C hS D) (fun u a t H1 locs1 ht hvm hw hB hz hk hS1 => ?_)
    have hB : a = ad 0 w.1 ∧ va_P G vwCl (wl ad U u) t.heap := hB
    have e2 : u = w.2 := hw
    rw [e2, ht] at hB
    rw [hB.1]
    exact h w o ho H1 locs1 ls hB.2 hS1 hl
theorem im_cVI (C : Cx G ad U A p s m meth c args cc own nL rt) (q : Nat) {y : MethodName} {cb : ByteArray} {mx n fr lo index : Nat} {rr : FieldType} {kd b ci : Nat} {fs : List Value} {T : u_T} {N : Nat} {As : List Value} {st0 : List Value} {F : Option (Int32 × Dt)} {B9 : Int32 × Dt → Option β} (V : Vok y cb mx (some rr) n) (hw : Cond.methodLink own index y ∈ gt_T) (hM : MI l G ad U y cb mx rr (k2_rm fr lo) (.ref (ad kd b) :: As) D F) (hm : (kd, b) ∈ U) (he : cel ad kd b (D kd b) = .inr (ci, fs)) (hc : vwCl[ci]? = some (y.cls, T, N)) (hR : Rle fr lo mx R) (hn : As.length = n) (hst : st0 = As.reverse ++ .ref (ad kd b) :: st) (hcat : (st.map fun v => v.category).sum ≤ 8) (hd : decode cc pc = .ok (.invokevirtual index, 3)) (hq : pc + 3 = q) (h : ∀ o, Im G ad U A p l e R s m args below meth c nL Go q lv (.int o.1 :: st) o.2 (B9 o) k) : Im G ad U A p l e R s m args below meth c nL Go pc lv st0 D (F.bind B9) k := by
  exact im_runI C q hq (fun o ho H locs ls hP hS hl => rn_V C V hw (hM H.size o ho) hm he hc hR hn hst hcat hd hP hS hl) h
theorem im_cVP (C : Cx G ad U A p s m meth c args cc own nL rt) (q : Nat) {y : MethodName} {cb : ByteArray} {mx n fr lo index : Nat} {rr : FieldType} {kd b ci : Nat} {fs : List Value} {T : u_T} {N : Nat} {As : List Value} {st0 : List Value} {F : Option (Int32)} {B9 : Int32 → Option β} (V : Vok y cb mx (some rr) n) (hw : Cond.methodLink own index y ∈ gt_T) (hM : MI l G ad U y cb mx rr (k2_rm fr lo) (.ref (ad kd b) :: As) D (F.bind (fun r => some (r, D)))) (hm : (kd, b) ∈ U) (he : cel ad kd b (D kd b) = .inr (ci, fs)) (hc : vwCl[ci]? = some (y.cls, T, N)) (hR : Rle fr lo mx R) (hn : As.length = n) (hst : st0 = As.reverse ++ .ref (ad kd b) :: st) (hcat : (st.map fun v => v.category).sum ≤ 8) (hd : decode cc pc = .ok (.invokevirtual index, 3)) (hq : pc + 3 = q) (h : ∀ o, Im G ad U A p l e R s m args below meth c nL Go q lv (.int o :: st) D (B9 o) k) : Im G ad U A p l e R s m args below meth c nL Go pc lv st0 D (F.bind B9) k := by
  intro o ho H locs ls hP hS hl
  cases hF : F with
  | none => rw [hF] at ho; cases ho
  | some w =>
    rw [hF] at ho hM
    have ho : (B9 w).bind k = some o := ho
    subst hq
    refine va_calli (rn_V C V hw (hM H.size (w, D) rfl) hm he hc hR hn hst hcat hd hP hS hl) hS (fun q _ h => cx_F C hS D q h) (cx_F C hS D) (fun r u t H1 locs1 ht hvm hw hB hz hk hS1 => ?_)
    have hB : va_P G vwCl (wl ad U u) t.heap := hB
    have e1 : r = w := hw.1
    have e2 : u = D := hw.2
    rw [e2, ht] at hB
    rw [e1]
    exact h w o ho H1 locs1 ls hB hS1 hl
theorem im_cVV (C : Cx G ad U A p s m meth c args cc own nL rt) (q : Nat) {y : MethodName} {cb : ByteArray} {mx n fr lo index : Nat} {kd b ci : Nat} {fs : List Value} {T : u_T} {N : Nat} {As : List Value} {st0 : List Value} {F : Option (Dt)} {B9 : Dt → Option β} (V : Vok y cb mx none n) (hw : Cond.methodLink own index y ∈ gt_T) (hM : MV l G ad U y cb mx (k2_rm fr lo) (.ref (ad kd b) :: As) D F) (hm : (kd, b) ∈ U) (he : cel ad kd b (D kd b) = .inr (ci, fs)) (hc : vwCl[ci]? = some (y.cls, T, N)) (hR : Rle fr lo mx R) (hn : As.length = n) (hst : st0 = As.reverse ++ .ref (ad kd b) :: st) (hcat : (st.map fun v => v.category).sum ≤ 8) (hd : decode cc pc = .ok (.invokevirtual index, 3)) (hq : pc + 3 = q) (h : ∀ o, Im G ad U A p l e R s m args below meth c nL Go q lv st o (B9 o) k) : Im G ad U A p l e R s m args below meth c nL Go pc lv st0 D (F.bind B9) k := by
  exact im_runV C q hq (fun o ho H locs ls hP hS hl => rn_V C V hw (hM H.size o ho) hm he hc hR hn hst hcat hd hP hS hl) h
theorem im_cVR (C : Cx G ad U A p s m meth c args cc own nL rt) (q : Nat) {y : MethodName} {cb : ByteArray} {mx n fr lo index : Nat} {rr : FieldType} {kd b ci : Nat} {fs : List Value} {T : u_T} {N : Nat} {As : List Value} {st0 : List Value} {F : Option (Nat × Dt)} {B9 : Nat × Dt → Option β} (V : Vok y cb mx (some rr) n) (hw : Cond.methodLink own index y ∈ gt_T) (hM : MR l G ad U y cb mx rr (k2_rm fr lo) (.ref (ad kd b) :: As) D F) (hm : (kd, b) ∈ U) (he : cel ad kd b (D kd b) = .inr (ci, fs)) (hc : vwCl[ci]? = some (y.cls, T, N)) (hR : Rle fr lo mx R) (hn : As.length = n) (hst : st0 = As.reverse ++ .ref (ad kd b) :: st) (hcat : (st.map fun v => v.category).sum ≤ 8) (hd : decode cc pc = .ok (.invokevirtual index, 3)) (hq : pc + 3 = q) (h : ∀ o, Im G ad U A p l e R s m args below meth c nL Go q lv (.ref (ad 0 o.1) :: st) o.2 (B9 o) k) : Im G ad U A p l e R s m args below meth c nL Go pc lv st0 D (F.bind B9) k := by
  exact im_runR C q hq (fun o ho H locs ls hP hS hl => rn_V C V hw (hM H.size o ho) hm he hc hR hn hst hcat hd hP hS hl) h
theorem im_cVNI (C : Cx G ad U A p s m meth c args cc own nL rt) (q : Nat) {y : MethodName} {host : String} {cb : ByteArray} {mx n fr lo index : Nat} {rr : FieldType} {kd b ci : Nat} {fs : List Value} {T : u_T} {N : Nat} {As : List Value} {st0 : List Value} {F : Option (Int32 × Dt)} {B9 : Int32 × Dt → Option β} (V : Vok y cb mx (some rr) n) (hw : Cond.methodLinkNest own index y host ∈ nw_T) (hM : MI l G ad U y cb mx rr (k2_rm fr lo) (.ref (ad kd b) :: As) D F) (hm : (kd, b) ∈ U) (he : cel ad kd b (D kd b) = .inr (ci, fs)) (hc : vwCl[ci]? = some (y.cls, T, N)) (hR : Rle fr lo mx R) (hn : As.length = n) (hst : st0 = As.reverse ++ .ref (ad kd b) :: st) (hcat : (st.map fun v => v.category).sum ≤ 8) (hd : decode cc pc = .ok (.invokevirtual index, 3)) (hq : pc + 3 = q) (h : ∀ o, Im G ad U A p l e R s m args below meth c nL Go q lv (.int o.1 :: st) o.2 (B9 o) k) : Im G ad U A p l e R s m args below meth c nL Go pc lv st0 D (F.bind B9) k := by
  exact im_runI C q hq (fun o ho H locs ls hP hS hl => rn_VN C V hw (hM H.size o ho) hm he hc hR hn hst hcat hd hP hS hl) h
theorem im_cVNP (C : Cx G ad U A p s m meth c args cc own nL rt) (q : Nat) {y : MethodName} {host : String} {cb : ByteArray} {mx n fr lo index : Nat} {rr : FieldType} {kd b ci : Nat} {fs : List Value} {T : u_T} {N : Nat} {As : List Value} {st0 : List Value} {F : Option (Int32)} {B9 : Int32 → Option β} (V : Vok y cb mx (some rr) n) (hw : Cond.methodLinkNest own index y host ∈ nw_T) (hM : MI l G ad U y cb mx rr (k2_rm fr lo) (.ref (ad kd b) :: As) D (F.bind (fun r => some (r, D)))) (hm : (kd, b) ∈ U) (he : cel ad kd b (D kd b) = .inr (ci, fs)) (hc : vwCl[ci]? = some (y.cls, T, N)) (hR : Rle fr lo mx R) (hn : As.length = n) (hst : st0 = As.reverse ++ .ref (ad kd b) :: st) (hcat : (st.map fun v => v.category).sum ≤ 8) (hd : decode cc pc = .ok (.invokevirtual index, 3)) (hq : pc + 3 = q) (h : ∀ o, Im G ad U A p l e R s m args below meth c nL Go q lv (.int o :: st) D (B9 o) k) : Im G ad U A p l e R s m args below meth c nL Go pc lv st0 D (F.bind B9) k := by
  intro o ho H locs ls hP hS hl
  cases hF : F with
  | none => rw [hF] at ho; cases ho
  | some w =>
    rw [hF] at ho hM
    have ho : (B9 w).bind k = some o := ho
    subst hq
    refine va_calli (rn_VN C V hw (hM H.size (w, D) rfl) hm he hc hR hn hst hcat hd hP hS hl) hS (fun q _ h => cx_F C hS D q h) (cx_F C hS D) (fun r u t H1 locs1 ht hvm hw hB hz hk hS1 => ?_)
    have hB : va_P G vwCl (wl ad U u) t.heap := hB
    have e1 : r = w := hw.1
    have e2 : u = D := hw.2
    rw [e2, ht] at hB
    rw [e1]
    exact h w o ho H1 locs1 ls hB hS1 hl
theorem im_cVNV (C : Cx G ad U A p s m meth c args cc own nL rt) (q : Nat) {y : MethodName} {host : String} {cb : ByteArray} {mx n fr lo index : Nat} {kd b ci : Nat} {fs : List Value} {T : u_T} {N : Nat} {As : List Value} {st0 : List Value} {F : Option (Dt)} {B9 : Dt → Option β} (V : Vok y cb mx none n) (hw : Cond.methodLinkNest own index y host ∈ nw_T) (hM : MV l G ad U y cb mx (k2_rm fr lo) (.ref (ad kd b) :: As) D F) (hm : (kd, b) ∈ U) (he : cel ad kd b (D kd b) = .inr (ci, fs)) (hc : vwCl[ci]? = some (y.cls, T, N)) (hR : Rle fr lo mx R) (hn : As.length = n) (hst : st0 = As.reverse ++ .ref (ad kd b) :: st) (hcat : (st.map fun v => v.category).sum ≤ 8) (hd : decode cc pc = .ok (.invokevirtual index, 3)) (hq : pc + 3 = q) (h : ∀ o, Im G ad U A p l e R s m args below meth c nL Go q lv st o (B9 o) k) : Im G ad U A p l e R s m args below meth c nL Go pc lv st0 D (F.bind B9) k := by
  exact im_runV C q hq (fun o ho H locs ls hP hS hl => rn_VN C V hw (hM H.size o ho) hm he hc hR hn hst hcat hd hP hS hl) h
theorem im_cSI (C : Cx G ad U A p s m meth c args cc own nL rt) (q : Nat) {y : MethodName} {cb : ByteArray} {mx n fr lo index : Nat} {rr : FieldType} {As : List Value} {st0 : List Value} {F : Option (Int32 × Dt)} {B9 : Int32 × Dt → Option β} (V : Sok y cb mx (some rr) n) (hw : Cond.methodLink own index y ∈ gt_T) (hM : MI l G ad U y cb mx rr (k2_rm fr lo) As D F) (hR : Rle fr lo mx R) (hn : As.length = n) (hst : st0 = As.reverse ++ st) (hcat : (st.map fun v => v.category).sum ≤ 8) (hd : decode cc pc = .ok (.invokestatic index, 3)) (hq : pc + 3 = q) (h : ∀ o, Im G ad U A p l e R s m args below meth c nL Go q lv (.int o.1 :: st) o.2 (B9 o) k) : Im G ad U A p l e R s m args below meth c nL Go pc lv st0 D (F.bind B9) k := by
  exact im_runI C q hq (fun o ho H locs ls hP hS hl => rn_S C V hw (hM H.size o ho) hR hn hst hcat hd hP hS hl) h
theorem im_cSP (C : Cx G ad U A p s m meth c args cc own nL rt) (q : Nat) {y : MethodName} {cb : ByteArray} {mx n fr lo index : Nat} {rr : FieldType} {As : List Value} {st0 : List Value} {F : Option (Int32)} {B9 : Int32 → Option β} (V : Sok y cb mx (some rr) n) (hw : Cond.methodLink own index y ∈ gt_T) (hM : MI l G ad U y cb mx rr (k2_rm fr lo) As D (F.bind (fun r => some (r, D)))) (hR : Rle fr lo mx R) (hn : As.length = n) (hst : st0 = As.reverse ++ st) (hcat : (st.map fun v => v.category).sum ≤ 8) (hd : decode cc pc = .ok (.invokestatic index, 3)) (hq : pc + 3 = q) (h : ∀ o, Im G ad U A p l e R s m args below meth c nL Go q lv (.int o :: st) D (B9 o) k) : Im G ad U A p l e R s m args below meth c nL Go pc lv st0 D (F.bind B9) k := by
  intro o ho H locs ls hP hS hl
  cases hF : F with
  | none => rw [hF] at ho; cases ho
  | some w =>
    rw [hF] at ho hM
    have ho : (B9 w).bind k = some o := ho
    subst hq
    refine va_calli (rn_S C V hw (hM H.size (w, D) rfl) hR hn hst hcat hd hP hS hl) hS (fun q _ h => cx_F C hS D q h) (cx_F C hS D) (fun r u t H1 locs1 ht hvm hw hB hz hk hS1 => ?_)
    have hB : va_P G vwCl (wl ad U u) t.heap := hB
    have e1 : r = w := hw.1
    have e2 : u = D := hw.2
    rw [e2, ht] at hB
    rw [e1]
    exact h w o ho H1 locs1 ls hB hS1 hl
theorem im_cSV (C : Cx G ad U A p s m meth c args cc own nL rt) (q : Nat) {y : MethodName} {cb : ByteArray} {mx n fr lo index : Nat} {As : List Value} {st0 : List Value} {F : Option (Dt)} {B9 : Dt → Option β} (V : Sok y cb mx none n) (hw : Cond.methodLink own index y ∈ gt_T) (hM : MV l G ad U y cb mx (k2_rm fr lo) As D F) (hR : Rle fr lo mx R) (hn : As.length = n) (hst : st0 = As.reverse ++ st) (hcat : (st.map fun v => v.category).sum ≤ 8) (hd : decode cc pc = .ok (.invokestatic index, 3)) (hq : pc + 3 = q) (h : ∀ o, Im G ad U A p l e R s m args below meth c nL Go q lv st o (B9 o) k) : Im G ad U A p l e R s m args below meth c nL Go pc lv st0 D (F.bind B9) k := by
  exact im_runV C q hq (fun o ho H locs ls hP hS hl => rn_S C V hw (hM H.size o ho) hR hn hst hcat hd hP hS hl) h
theorem im_cSNI (C : Cx G ad U A p s m meth c args cc own nL rt) (q : Nat) {y : MethodName} {host : String} {cb : ByteArray} {mx n fr lo index : Nat} {rr : FieldType} {As : List Value} {st0 : List Value} {F : Option (Int32 × Dt)} {B9 : Int32 × Dt → Option β} (V : Sok y cb mx (some rr) n) (hw : Cond.methodLinkNest own index y host ∈ nw_T) (hM : MI l G ad U y cb mx rr (k2_rm fr lo) As D F) (hR : Rle fr lo mx R) (hn : As.length = n) (hst : st0 = As.reverse ++ st) (hcat : (st.map fun v => v.category).sum ≤ 8) (hd : decode cc pc = .ok (.invokestatic index, 3)) (hq : pc + 3 = q) (h : ∀ o, Im G ad U A p l e R s m args below meth c nL Go q lv (.int o.1 :: st) o.2 (B9 o) k) : Im G ad U A p l e R s m args below meth c nL Go pc lv st0 D (F.bind B9) k := by
  exact im_runI C q hq (fun o ho H locs ls hP hS hl => rn_SN C V hw (hM H.size o ho) hR hn hst hcat hd hP hS hl) h
theorem im_cSNP (C : Cx G ad U A p s m meth c args cc own nL rt) (q : Nat) {y : MethodName} {host : String} {cb : ByteArray} {mx n fr lo index : Nat} {rr : FieldType} {As : List Value} {st0 : List Value} {F : Option (Int32)} {B9 : Int32 → Option β} (V : Sok y cb mx (some rr) n) (hw : Cond.methodLinkNest own index y host ∈ nw_T) (hM : MI l G ad U y cb mx rr (k2_rm fr lo) As D (F.bind (fun r => some (r, D)))) (hR : Rle fr lo mx R) (hn : As.length = n) (hst : st0 = As.reverse ++ st) (hcat : (st.map fun v => v.category).sum ≤ 8) (hd : decode cc pc = .ok (.invokestatic index, 3)) (hq : pc + 3 = q) (h : ∀ o, Im G ad U A p l e R s m args below meth c nL Go q lv (.int o :: st) D (B9 o) k) : Im G ad U A p l e R s m args below meth c nL Go pc lv st0 D (F.bind B9) k := by
  intro o ho H locs ls hP hS hl
  cases hF : F with
  | none => rw [hF] at ho; cases ho
  | some w =>
    rw [hF] at ho hM
    have ho : (B9 w).bind k = some o := ho
    subst hq
    refine va_calli (rn_SN C V hw (hM H.size (w, D) rfl) hR hn hst hcat hd hP hS hl) hS (fun q _ h => cx_F C hS D q h) (cx_F C hS D) (fun r u t H1 locs1 ht hvm hw hB hz hk hS1 => ?_)
    have hB : va_P G vwCl (wl ad U u) t.heap := hB
    have e1 : r = w := hw.1
    have e2 : u = D := hw.2
    rw [e2, ht] at hB
    rw [e1]
    exact h w o ho H1 locs1 ls hB hS1 hl
theorem im_cSNV (C : Cx G ad U A p s m meth c args cc own nL rt) (q : Nat) {y : MethodName} {host : String} {cb : ByteArray} {mx n fr lo index : Nat} {As : List Value} {st0 : List Value} {F : Option (Dt)} {B9 : Dt → Option β} (V : Sok y cb mx none n) (hw : Cond.methodLinkNest own index y host ∈ nw_T) (hM : MV l G ad U y cb mx (k2_rm fr lo) As D F) (hR : Rle fr lo mx R) (hn : As.length = n) (hst : st0 = As.reverse ++ st) (hcat : (st.map fun v => v.category).sum ≤ 8) (hd : decode cc pc = .ok (.invokestatic index, 3)) (hq : pc + 3 = q) (h : ∀ o, Im G ad U A p l e R s m args below meth c nL Go q lv st o (B9 o) k) : Im G ad U A p l e R s m args below meth c nL Go pc lv st0 D (F.bind B9) k := by
  exact im_runV C q hq (fun o ho H locs ls hP hS hl => rn_SN C V hw (hM H.size o ho) hR hn hst hcat hd hP hS hl) h
end
section
variable {G : va_G} {ad : Nat → Nat → Nat} {U : List (Nat × Nat)} {A : Nat → Prop} {p : Program} {l : Launch} {e : Env} {R : Room} {s : State} {m : MethodId} {args : Array Value} {below : List Frame} {meth : Method} {c : Code} {nL : Nat} {cc : ByteArray} {own : String} {pc : Nat} {lv : List (Nat × Value)} {st : List Value} {D : Dt}
/-- how a method's own end is said -/
def gI (G : va_G) (ad : Nat → Nat → Nat) (U : List (Nat × Nat)) (A : Nat → Prop) (below : List Frame) (args : Array Value) (s : State) (o : Int32 × Dt) : State → Prop := MQ below (va_Qi (fun r u => r = o.1 ∧ u = o.2) (fun (u : Dt) t => va_P G vwCl (wl ad U u) t.heap) A) args s 0 0 A
def gV (G : va_G) (ad : Nat → Nat → Nat) (U : List (Nat × Nat)) (A : Nat → Prop) (below : List Frame) (args : Array Value) (s : State) (o : Dt) : State → Prop := MQ below (va_Qv (fun u => u = o) (fun (u : Dt) t => va_P G vwCl (wl ad U u) t.heap) A) args s 0 0 A
def gR (G : va_G) (ad : Nat → Nat → Nat) (U : List (Nat × Nat)) (A : Nat → Prop) (below : List Frame) (args : Array Value) (s : State) (o : Nat × Dt) : State → Prop := MQ below (va_Qr (fun u => u = o.2) (fun (u : Dt) a t => a = ad 0 o.1 ∧ va_P G vwCl (wl ad U u) t.heap) A) args s 0 0 A
theorem im_iret {β : Type} {ty : FieldType} (C : Cx G ad U A p s m meth c args cc own nL (some ty)) {r : Int32} {z : β} {k : β → Option (Int32 × Dt)} (hk : k z = some (r, D)) (hn : narrow ty (.int r) = .int r) (hd : decode cc pc = .ok (.ireturn, 1)) : Im G ad U A p l e R s m args below meth c nL (gI G ad U A below args s) pc lv [.int r] D (some z) k := by
  intro o ho H locs ls hP hS hl
  have ho : k z = some o := ho
  rw [hk] at ho
  cases ho
  exact W.zret C.1 C.2.1 C.2.2.2.2.2.1 hn (fun t ht hW => ⟨⟨r, D, rfl, ⟨rfl, rfl⟩, (show va_P G vwCl (wl ad U D) t.heap by rw [ht]; exact hP)⟩, hS.F ht⟩) hS.2.2 hd C.2.2.2.2.2.2.1
theorem im_vret {β : Type} (C : Cx G ad U A p s m meth c args cc own nL none) {z : β} {k : β → Option Dt} (hk : k z = some D) (hd : decode cc pc = .ok (.return_, 1)) : Im G ad U A p l e R s m args below meth c nL (gV G ad U A below args s) pc lv [] D (some z) k := by
  intro o ho H locs ls hP hS hl
  have ho : k z = some o := ho
  rw [hk] at ho
  cases ho
  exact W.vret C.1 C.2.1 C.2.2.2.2.2.1 (fun t ht hW => ⟨⟨D, rfl, rfl, (show va_P G vwCl (wl ad U D) t.heap by rw [ht]; exact hP)⟩, hS.F ht⟩) hS.2.2 hd C.2.2.2.2.2.2.1
theorem im_rret {β : Type} {ty : FieldType} (C : Cx G ad U A p s m meth c args cc own nL (some ty)) (hty : (∃ n, ty = .object n) ∨ ∃ t, ty = .array t) {r : Nat} {z : β} {k : β → Option (Nat × Dt)} (hk : k z = some (r, D)) (hd : decode cc pc = .ok (.areturn, 1)) : Im G ad U A p l e R s m args below meth c nL (gR G ad U A below args s) pc lv [.ref (ad 0 r)] D (some z) k := by
  intro o ho H locs ls hP hS hl
  have ho : k z = some o := ho
  rw [hk] at ho
  cases ho
  exact W.aret C.1 C.2.1 C.2.2.2.2.2.1 hty (Or.inr ⟨_, rfl⟩) (fun t ht hW => ⟨⟨D, ad 0 r, rfl, rfl, rfl, (show va_P G vwCl (wl ad U D) t.heap by rw [ht]; exact hP)⟩, hS.F ht⟩) hS.2.2 hd C.2.2.2.2.2.2.1
/-- a fail: nothing is claimed -/
theorem im_none {β ρ : Type} {Go : ρ → State → Prop} {k : β → Option ρ} : Im G ad U A p l e R s m args below meth c nL Go pc lv st D (none : Option β) k := by
  intro o ho
  cases ho
/-- a loop -/
theorem im_loop {σ ε β ρ : Type} {Go : ρ → State → Prop} (f : σ → Option (σ ⊕ ε)) (lvs : σ → List (Nat × Value)) (Ds : σ → Dt) {R9 : ε → Option β} {k : β → Option ρ} (h : ∀ (z : σ) (X : σ → Option ρ), (∀ z', Im G ad U A p l e R s m args below meth c nL Go pc (lvs z') [] (Ds z') (X z') some) → Im G ad U A p l e R s m args below meth c nL Go pc (lvs z) [] (Ds z) (f z) (fun w => match w with
    | .inl z' => X z'
    | .inr x => (R9 x).bind k)) : ∀ (n : Nat) (z : σ), Im G ad U A p l e R s m args below meth c nL Go pc (lvs z) [] (Ds z) ((lp f n z).bind R9) k := by
  intro n
  induction n with
  | zero => intro z o ho; cases ho
  | succ n ih =>
    intro z o ho
    refine h z (fun z' => ((lp f n z').bind R9).bind k) (fun z' o ho => ih z' o (by simpa using ho)) o ?_
    rw [← ho]
    simp only [lp]
    cases hf : f z with
    | none => rfl
    | some w =>
      cases w with
      | inl t => rfl
      | inr x => rfl
theorem im_inl {σ ε β ρ : Type} {Go : ρ → State → Prop} {R9 : ε → Option β} {k : β → Option ρ} {X : σ → Option ρ} {z : σ} (h : Im G ad U A p l e R s m args below meth c nL Go pc lv st D (X z) some) : Im G ad U A p l e R s m args below meth c nL Go pc lv st D (some (Sum.inl z : σ ⊕ ε)) (fun w => match w with
    | .inl z' => X z'
    | .inr x => (R9 x).bind k) := fun o ho => h o (by simpa using ho)
theorem im_inr {σ ε β ρ : Type} {Go : ρ → State → Prop} {R9 : ε → Option β} {k : β → Option ρ} {X : σ → Option ρ} {x : ε} (h : Im G ad U A p l e R s m args below meth c nL Go pc lv st D (R9 x) k) : Im G ad U A p l e R s m args below meth c nL Go pc lv st D (some (Sum.inr x : σ ⊕ ε)) (fun w => match w with
    | .inl z' => X z'
    | .inr x => (R9 x).bind k) := fun o ho => h o (by simpa using ho)
/-- the inside of an expression is walked, then what follows -/
theorem im_bind {β γ ρ : Type} {Go : ρ → State → Prop} {E : Option γ} {R9 : γ → Option β} {k : β → Option ρ} (h : Im G ad U A p l e R s m args below meth c nL Go pc lv st D E (fun x => (R9 x).bind k)) : Im G ad U A p l e R s m args below meth c nL Go pc lv st D (E.bind R9) k := fun o ho => h o (by rw [← ho]; cases E <;> rfl)
theorem im_some {β γ ρ : Type} {Go : ρ → State → Prop} {x : γ} {R9 : γ → Option β} {k : β → Option ρ} (h : Im G ad U A p l e R s m args below meth c nL Go pc lv st D (R9 x) k) : Im G ad U A p l e R s m args below meth c nL Go pc lv st D (some x) (fun x => (R9 x).bind k) := fun o ho => h o ho
end
section
variable {l : Launch} {G : va_G} {ad : Nat → Nat → Nat} {U : List (Nat × Nat)} {y : MethodName} {cb : ByteArray} {mx : Nat} {rm : Room} {as : List Value} {D : Dt}
theorem cx_of (hU : Uinj ad U) {rt : Option FieldType} {p : Program} {e : Env} {s : State} {m : MethodId} {args : Array Value} {below : List Frame} {meth : Method} {c : Code} {s₁ : State} (B : BodyLoose p l y (headSpec (wsG y cb mx rt) rm) cb mx rt e s m args below meth c s₁) (hml : c.maxLocals = mx) (hv : Wd G ad U D s.heap.size s) : Cx G ad U (va_A (wl ad U D) s.heap.size) p s m meth c args cb y.cls mx rt := by
  obtain ⟨-, h2, h3, h4, h5⟩ := hv
  have hts := atoms_spec (ws := wsG y cb mx rt) B.pre
  exact ⟨B.exec, B.bytes, hml, findClass_of_methodNamed B.named, fun w hw => hts w (List.mem_cons_of_mem _ hw), B.returns, B.notSynchronized, h3, h4, h5, hU, fun w hw => wl_Ain D _ hw, fun q h => Or.inr h⟩
theorem mI_of {rt : FieldType} {β : Type} {F : Option β} {k : β → Option (Int32 × Dt)} {lv : List (Nat × Value)} (hy : plainName y.cls = true) (hU : Uinj ad U) (hlv : lv_args 0 as = lv) (hlen : (lg_sl as).length ≤ mx) (h : ∀ (A : Nat → Prop) (p : Program) (e : Env) (s : State) (m : MethodId) (args : Array Value) (below : List Frame) (meth : Method) (c : Code), Cx G ad U A p s m meth c args cb y.cls mx (some rt) → Im G ad U A p l e rm s m args below meth c mx (gI G ad U A below args s) 0 lv [] D F k) : MI l G ad U y cb mx rt rm as D (F.bind k) := by
  intro sz o ho
  refine Met.ofW (cc := cb) (maxL := mx) (ret := some rt) hy rfl ?_
  intro p e s m args below meth c s₁ B hml hv
  obtain ⟨rfl, hv⟩ := hv
  obtain rfl := hv.1
  have hl := lv_entry as (n := mx) hlen
  rw [lg_entry_eq]
  rw [hlv] at hl
  exact h _ p e s m _ below meth c (cx_of hU B hml hv) o ho s.heap [] _ hv.2.1 va_S.rf hl
theorem mV_of {β : Type} {F : Option β} {k : β → Option Dt} {lv : List (Nat × Value)} (hy : plainName y.cls = true) (hU : Uinj ad U) (hlv : lv_args 0 as = lv) (hlen : (lg_sl as).length ≤ mx) (h : ∀ (A : Nat → Prop) (p : Program) (e : Env) (s : State) (m : MethodId) (args : Array Value) (below : List Frame) (meth : Method) (c : Code), Cx G ad U A p s m meth c args cb y.cls mx none → Im G ad U A p l e rm s m args below meth c mx (gV G ad U A below args s) 0 lv [] D F k) : MV l G ad U y cb mx rm as D (F.bind k) := by
  intro sz o ho
  refine Met.ofW (cc := cb) (maxL := mx) (ret := none) hy rfl ?_
  intro p e s m args below meth c s₁ B hml hv
  obtain ⟨rfl, hv⟩ := hv
  obtain rfl := hv.1
  have hl := lv_entry as (n := mx) hlen
  rw [lg_entry_eq]
  rw [hlv] at hl
  exact h _ p e s m _ below meth c (cx_of hU B hml hv) o ho s.heap [] _ hv.2.1 va_S.rf hl
theorem mR_of {rt : FieldType} {β : Type} {F : Option β} {k : β → Option (Nat × Dt)} {lv : List (Nat × Value)} (hy : plainName y.cls = true) (hU : Uinj ad U) (hlv : lv_args 0 as = lv) (hlen : (lg_sl as).length ≤ mx) (h : ∀ (A : Nat → Prop) (p : Program) (e : Env) (s : State) (m : MethodId) (args : Array Value) (below : List Frame) (meth : Method) (c : Code), Cx G ad U A p s m meth c args cb y.cls mx (some rt) → Im G ad U A p l e rm s m args below meth c mx (gR G ad U A below args s) 0 lv [] D F k) : MR l G ad U y cb mx rt rm as D (F.bind k) := by
  intro sz o ho
  refine Met.ofW (cc := cb) (maxL := mx) (ret := some rt) hy rfl ?_
  intro p e s m args below meth c s₁ B hml hv
  obtain ⟨rfl, hv⟩ := hv
  obtain rfl := hv.1
  have hl := lv_entry as (n := mx) hlen
  rw [lg_entry_eq]
  rw [hlv] at hl
  exact h _ p e s m _ below meth c (cx_of hU B hml hv) o ho s.heap [] _ hv.2.1 va_S.rf hl
end
