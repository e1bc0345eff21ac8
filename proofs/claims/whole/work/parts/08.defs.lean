def chS : List (List Int32) := bytS
def f_strlen (i : Nat) : Option Int32 := some (nI (lenS.getD i 0))
def f_strchar (i : Nat) (x : Int32) : Option Int32 := gd (inb x (lenS.getD i 0)) (some ((bytS.getD i []).getD x.toNatClampNeg 0))
def f_X9_isIn (x0 : Int32) (x1 : Int32) (x2 : Int32) (D : Dt) : Option (Int32) :=
  if x0 < x1 then (some (0 : Int32)) else (if x2 < x0 then (some (0 : Int32)) else (some (1 : Int32)))
def f_X8_addSign (x1 : Int32) (D : Dt) : Option (Int32 × Dt) :=
  if (D 22 0 1) < 0 then (some ((0 : Int32), D)) else (if (D 22 0 1) < (150 : Int32) then (wr D 23 0 150 (D 22 0 1) (vp_nar .char x1) (fun D1 => pu D1 22 0 1 ((D1 22 0 1) + (1 : Int32)) (fun D2 => some ((1 : Int32), D2)))) else (some ((0 : Int32), D)))
def f_X9_appendCharacter (x1 : Int32) (D : Dt) : Option (Int32 × Dt) :=
  (f_X9_isIn x1 (0 : Int32) (255 : Int32) D).bind (fun o1 => if o1 = 0 then (some ((-1 : Int32), D)) else ((f_X8_addSign ((x1.toUInt32 % 65536).toInt32) D).bind (fun o2 => if o2.1 = 0 then (some ((-3 : Int32), o2.2)) else (some (o2.2 22 0 1, o2.2)))))
def f_X9_clearText (D : Dt) : Option (Int32 × Dt) :=
  pu D 22 0 1 (0 : Int32) (fun D1 => some (D 22 0 1, D1))
def f_X5_reset (b : Nat) (D : Dt) : Option (Dt) :=
  pu D 1 b 0 (0 : Int32) (fun D1 => pu D1 1 b 1 (0 : Int32) (fun D2 => (f_fill 4 b 12 (-1 : Int32) D2).bind (fun D3 => (f_fill 6 b 12 (-1 : Int32) D3).bind (fun D4 => some D4))))
def f_X2_dismiss (b : Nat) (x1 : Int32) (D : Dt) : Option (Dt) :=
  wr D 10 b 16 x1 (-1 : Int32) (fun D1 => wr D1 12 b 16 x1 (-1 : Int32) (fun D2 => wr D2 14 b 16 x1 (-1 : Int32) (fun D3 => some D3)))
def l_X2_reset_2 (b : Nat) (z2 : Int32 × Dt) : Option ((Int32 × Dt) ⊕ (Dt)) :=
  if (16 : Int32) ≤ z2.1 then (some (Sum.inr z2.2)) else ((f_X2_dismiss b z2.1 z2.2).bind (fun D2 => some (Sum.inl (z2.1 + (1 : Int32), D2))))
def f_X2_reset (b : Nat) (D : Dt) : Option (Dt) :=
  (lp (l_X2_reset_2 b) FU ((0 : Int32), D)).bind (fun e1 => some e1)
def f_X6_reset (b : Nat) (D : Dt) : Option (Dt) :=
  (f_X5_reset b D).bind (fun D1 => (f_X2_reset b D1).bind (fun D2 => pu D2 0 b 2 (0 : Int32) (fun D3 => pu D3 0 b 3 (60 : Int32) (fun D4 => pu D4 0 b 4 (100 : Int32) (fun D5 => pu D5 0 b 5 (0 : Int32) (fun D6 => some D6))))))
def f_X8_rewind (D : Dt) : Option (Dt) :=
  pu D 22 0 2 (0 : Int32) (fun D1 => some D1)
def f_X8_isWithin (x1 : Int32) (D : Dt) : Option (Int32) :=
  if x1 < 0 then (some (0 : Int32)) else (if (D 22 0 1) ≤ x1 then (some (0 : Int32)) else (if (150 : Int32) ≤ x1 then (some (0 : Int32)) else (some (1 : Int32))))
def f_X8_isLetter (x1 : Int32) (D : Dt) : Option (Int32) :=
  (f_X8_isWithin x1 D).bind (fun o1 => if o1 = 0 then (some (0 : Int32)) else (rd D 23 0 150 x1 (fun v2 => if v2 < (97 : Int32) then (some (0 : Int32)) else (rd D 23 0 150 x1 (fun v3 => if (122 : Int32) < v3 then (some (0 : Int32)) else (some (1 : Int32)))))))
def l_X8_isWord_20 (i1 : Nat) (D : Dt) (z20 : Int32) : Option ((Int32) ⊕ (Int32)) :=
  (f_strlen i1).bind (fun o2 => if o2 ≤ z20 then (some (Sum.inr (1 : Int32))) else (if ((D 22 0 4) + z20) < 0 then (some (Sum.inr (0 : Int32))) else (if (150 : Int32) ≤ ((D 22 0 4) + z20) then (some (Sum.inr (0 : Int32))) else (rd D 23 0 150 ((D 22 0 4) + z20) (fun v3 => (f_strchar i1 z20).bind (fun o4 => if v3 = o4 then (some (Sum.inl (z20 + (1 : Int32)))) else (some (Sum.inr (0 : Int32)))))))))
def f_X8_isWord (i1 : Nat) (D : Dt) : Option (Int32) :=
  (f_strlen i1).bind (fun o1 => if ((D 22 0 2) - (D 22 0 4)) = o1 then (lp (l_X8_isWord_20 i1 D) FU (0 : Int32)) else (some (0 : Int32)))
def l_X8_readWord_0 (z0 : Dt) : Option ((Dt) ⊕ (Dt)) :=
  if (z0 22 0 1) ≤ (z0 22 0 2) then (some (Sum.inr z0)) else ((f_X8_isLetter (z0 22 0 2) z0).bind (fun o2 => if o2 = 0 then (some (Sum.inr z0)) else (pu z0 22 0 2 ((z0 22 0 2) + (1 : Int32)) (fun D3 => some (Sum.inl D3)))))
def f_X8_readWord (D : Dt) : Option (Dt) :=
  (lp l_X8_readWord_0 FU D).bind (fun e1 => (f_X8_isWord 0 e1).bind (fun o4 => if o4 = 0 then ((f_X8_isWord 1 e1).bind (fun o5 => if o5 = 0 then ((f_X8_isWord 2 e1).bind (fun o6 => if o6 = 0 then ((f_X8_isWord 3 e1).bind (fun o7 => if o7 = 0 then ((f_X8_isWord 4 e1).bind (fun o8 => if o8 = 0 then (pu e1 22 0 3 (0 : Int32) (fun D9 => some D9)) else (pu e1 22 0 3 (8 : Int32) (fun D10 => some D10)))) else (pu e1 22 0 3 (7 : Int32) (fun D11 => some D11)))) else (pu e1 22 0 3 (6 : Int32) (fun D12 => some D12)))) else (pu e1 22 0 3 (5 : Int32) (fun D13 => some D13)))) else (pu e1 22 0 3 (4 : Int32) (fun D14 => some D14))))
def f_X8_isDigit (x1 : Int32) (D : Dt) : Option (Int32) :=
  (f_X8_isWithin x1 D).bind (fun o1 => if o1 = 0 then (some (0 : Int32)) else (rd D 23 0 150 x1 (fun v2 => if v2 < (48 : Int32) then (some (0 : Int32)) else (rd D 23 0 150 x1 (fun v3 => if (57 : Int32) < v3 then (some (0 : Int32)) else (some (1 : Int32)))))))
def l_X8_readNumber_5 (z5 : Dt) : Option ((Dt) ⊕ (Dt)) :=
  if (z5 22 0 1) ≤ (z5 22 0 2) then (some (Sum.inr z5)) else ((f_X8_isDigit (z5 22 0 2) z5).bind (fun o3 => if o3 = 0 then (some (Sum.inr z5)) else (rd z5 23 0 150 (z5 22 0 2) (fun v4 => pu z5 22 0 5 (((z5 22 0 5) * (10 : Int32)) + (v4 - (48 : Int32))) (fun D5 => pu D5 22 0 2 ((D5 22 0 2) + (1 : Int32)) (fun D6 => some (Sum.inl D6)))))))
def j_X8_readNumber_98_t7 (e2 : Dt) (t7 : Int32) : Option (Dt) :=
  if (5 : Int32) < ((e2 22 0 2) - (e2 22 0 4)) then (pu e2 22 0 3 (0 : Int32) (fun D8 => some D8)) else (if t7 = 0 then (pu e2 22 0 3 (3 : Int32) (fun D9 => some D9)) else (pu e2 22 0 3 (0 : Int32) (fun D10 => some D10)))
def f_X8_readNumber (D : Dt) : Option (Dt) :=
  pu D 22 0 5 (0 : Int32) (fun D1 => (lp l_X8_readNumber_5 FU D1).bind (fun e2 => if ((e2 22 0 2) - (e2 22 0 4)) ≤ (1 : Int32) then (j_X8_readNumber_98_t7 e2 (0 : Int32)) else (rd e2 23 0 150 (e2 22 0 4) (fun v11 => if v11 = (48 : Int32) then (j_X8_readNumber_98_t7 e2 (1 : Int32)) else (j_X8_readNumber_98_t7 e2 (0 : Int32))))))
def l_X8_readToken_0 (z0 : Dt) : Option ((Dt) ⊕ (Dt)) :=
  if (z0 22 0 1) ≤ (z0 22 0 2) then (some (Sum.inr z0)) else ((f_X8_isWithin (z0 22 0 2) z0).bind (fun o2 => if o2 = 0 then (some (Sum.inr z0)) else (rd z0 23 0 150 (z0 22 0 2) (fun v3 => if v3 = (32 : Int32) then (pu z0 22 0 2 ((z0 22 0 2) + (1 : Int32)) (fun D4 => some (Sum.inl D4))) else (some (Sum.inr z0))))))
def f_X8_readToken (D : Dt) : Option (Dt) :=
  (lp l_X8_readToken_0 FU D).bind (fun e1 => pu e1 22 0 4 (e1 22 0 2) (fun D5 => (f_X8_isWithin (D5 22 0 4) D5).bind (fun o6 => if o6 = 0 then (pu D5 22 0 3 (1 : Int32) (fun D16 => some D16)) else ((f_X8_isLetter (D5 22 0 4) D5).bind (fun o7 => if o7 = 0 then ((f_X8_isDigit (D5 22 0 4) D5).bind (fun o8 => if o8 = 0 then (rd D5 23 0 150 (D5 22 0 4) (fun v9 => if v9 = (59 : Int32) then (pu D5 22 0 3 (2 : Int32) (fun D12 => pu D12 22 0 2 ((D12 22 0 2) + (1 : Int32)) (fun D13 => some D13))) else (pu D5 22 0 3 (0 : Int32) (fun D10 => pu D10 22 0 2 ((D10 22 0 2) + (1 : Int32)) (fun D11 => some D11))))) else ((f_X8_readNumber D5).bind (fun D14 => some D14)))) else ((f_X8_readWord D5).bind (fun D15 => some D15)))))))
def f_X4_readRange (x1 : Int32) (x2 : Int32) (D : Dt) : Option (Int32 × Dt) :=
  (f_X8_readToken D).bind (fun D1 => if (D1 22 0 3) = (3 : Int32) then ((f_X9_isIn (D1 22 0 5) x1 x2 D1).bind (fun o2 => if o2 = 0 then (some ((0 : Int32), D1)) else (some ((1 : Int32), D1)))) else (some ((0 : Int32), D1)))
def f_X9_sizeOf (x0 : Int32) (D : Dt) : Option (Int32) :=
  some ((1 : Int32) <<< (((16 : Int32) - x0) &&& 31))
def f_X9_isAligned (x0 : Int32) (x1 : Int32) (D : Dt) : Option (Int32) :=
  (f_X9_sizeOf x1 D).bind (fun o1 => if (x0 &&& (o1 - (1 : Int32))) = 0 then (some (1 : Int32)) else (some (0 : Int32)))
def f_X9_covers (x0 : Int32) (x1 : Int32) (x2 : Int32) (D : Dt) : Option (Int32) :=
  if x0 = (-1 : Int32) then (some (0 : Int32)) else (if x2 < x0 then (some (0 : Int32)) else ((f_X9_sizeOf x1 D).bind (fun o1 => if (x0 + o1) ≤ x2 then (some (0 : Int32)) else (some (1 : Int32)))))
def f_X9_meet (x0 : Int32) (x1 : Int32) (x2 : Int32) (x3 : Int32) (D : Dt) : Option (Int32) :=
  (f_X9_covers x0 x1 x2 D).bind (fun o1 => if o1 = 0 then ((f_X9_covers x2 x3 x0 D).bind (fun o2 => if o2 = 0 then (some (0 : Int32)) else (some (1 : Int32)))) else (some (1 : Int32)))
def l_X5_meetsPool_2 (b : Nat) (x1 : Int32) (x2 : Int32) (D : Dt) (z2 : Int32) : Option ((Int32) ⊕ (Int32)) :=
  if (4 : Int32) ≤ z2 then (some (Sum.inr (0 : Int32))) else (if (D 1 b 1) ≤ z2 then (some (Sum.inr (0 : Int32))) else (rd D 2 b 4 z2 (fun v1 => rd D 3 b 4 z2 (fun v2 => (f_X9_meet v1 v2 x1 x2 D).bind (fun o3 => if o3 = 0 then (some (Sum.inl (z2 + (1 : Int32)))) else (some (Sum.inr (1 : Int32))))))))
def f_X5_meetsPool (b : Nat) (x1 : Int32) (x2 : Int32) (D : Dt) : Option (Int32) :=
  lp (l_X5_meetsPool_2 b x1 x2 D) FU (0 : Int32)
def f_X5_putPool (b : Nat) (x1 : Int32) (x2 : Int32) (D : Dt) : Option (Dt) :=
  if (D 1 b 1) < 0 then (some D) else (if (4 : Int32) ≤ (D 1 b 1) then (some D) else (wr D 2 b 4 (D 1 b 1) x1 (fun D1 => wr D1 3 b 4 (D1 1 b 1) x2 (fun D2 => pu D2 1 b 1 ((D2 1 b 1) + (1 : Int32)) (fun D3 => some D3)))))
def f_X4_readSemicolon (D : Dt) : Option (Int32 × Dt) :=
  (f_X8_readToken D).bind (fun D1 => if (D1 22 0 3) = (2 : Int32) then (some ((1 : Int32), D1)) else (some ((0 : Int32), D1)))
def f_X4_readPool (D : Dt) : Option (Int32 × Dt) :=
  if (4 : Int32) ≤ (D 1 1 1) then (some ((0 : Int32), D)) else ((f_X4_readRange (0 : Int32) (65535 : Int32) D).bind (fun o1 => if o1.1 = 0 then (some ((0 : Int32), o1.2)) else ((f_X4_readRange (4 : Int32) (14 : Int32) o1.2).bind (fun o2 => if o2.1 = 0 then (some ((0 : Int32), o2.2)) else ((f_X9_isAligned (o1.2 22 0 5) (o2.2 22 0 5) o2.2).bind (fun o3 => if o3 = 0 then (some ((0 : Int32), o2.2)) else ((f_X5_meetsPool 1 (o1.2 22 0 5) (o2.2 22 0 5) o2.2).bind (fun o4 => if o4 = 0 then ((f_X5_putPool 1 (o1.2 22 0 5) (o2.2 22 0 5) o2.2).bind (fun D5 => (f_X4_readSemicolon D5).bind (fun o6 => gd (isb o6.1) (some (o6.1, o6.2))))) else (some ((0 : Int32), o2.2))))))))))
def f_X9_isNetwork (x0 : Int32) (D : Dt) : Option (Int32) :=
  if x0 < 0 then (some (0 : Int32)) else (if (12 : Int32) ≤ x0 then (some (0 : Int32)) else (some (1 : Int32)))
def f_X5_hasBlock (b : Nat) (x1 : Int32) (D : Dt) : Option (Int32) :=
  (f_X9_isNetwork x1 D).bind (fun o1 => if o1 = 0 then (some (0 : Int32)) else (rd D 4 b 12 x1 (fun v2 => if v2 = (-1 : Int32) then (some (0 : Int32)) else (some (1 : Int32)))))
def l_X7_insertUsed_22 (b : Nat) (x1 : Int32) (z22 : Int32 × Dt) : Option ((Int32 × Dt) ⊕ (Int32 × Dt)) :=
  if z22.1 ≤ 0 then (some (Sum.inr (z22.1, z22.2))) else (rd z22.2 17 b 24 (z22.1 - (1 : Int32)) (fun v2 => if v2 ≤ x1 then (some (Sum.inr (z22.1, z22.2))) else (rd z22.2 17 b 24 (z22.1 - (1 : Int32)) (fun v3 => wr z22.2 17 b 24 z22.1 v3 (fun D4 => rd D4 18 b 24 (z22.1 - (1 : Int32)) (fun v5 => wr D4 18 b 24 z22.1 v5 (fun D6 => some (Sum.inl (z22.1 + (-1 : Int32), D6)))))))))
def f_X7_insertUsed (b : Nat) (x1 : Int32) (x2 : Int32) (D : Dt) : Option (Dt) :=
  if (D 16 b 2) < 0 then (some D) else (if (D 16 b 2) < (24 : Int32) then ((lp (l_X7_insertUsed_22 b x1) FU (D 16 b 2, D)).bind (fun e1 => wr e1.2 17 b 24 e1.1 x1 (fun D7 => (f_X9_sizeOf x2 D7).bind (fun o8 => wr D7 18 b 24 e1.1 (x1 + o8) (fun D9 => pu D9 16 b 2 ((D9 16 b 2) + (1 : Int32)) (fun D10 => some D10)))))) else (some D))
def f_X5_hasOld (b : Nat) (x1 : Int32) (D : Dt) : Option (Int32) :=
  (f_X9_isNetwork x1 D).bind (fun o1 => if o1 = 0 then (some (0 : Int32)) else (rd D 6 b 12 x1 (fun v2 => if v2 = (-1 : Int32) then (some (0 : Int32)) else (some (1 : Int32)))))
def j_X7_listUsed_37_t4 (b : Nat) (b1 : Nat) (z7 : Int32 × Dt) (t4 : Dt) : Option ((Int32 × Dt) ⊕ (Dt)) :=
  (f_X5_hasOld b1 z7.1 t4).bind (fun o5 => if o5 = 0 then (some (Sum.inl (z7.1 + (1 : Int32), t4))) else (rd t4 6 b1 12 z7.1 (fun v6 => rd t4 7 b1 12 z7.1 (fun v7 => (f_X7_insertUsed b v6 v7 t4).bind (fun D8 => some (Sum.inl (z7.1 + (1 : Int32), D8)))))))
def l_X7_listUsed_7 (b : Nat) (b1 : Nat) (z7 : Int32 × Dt) : Option ((Int32 × Dt) ⊕ (Dt)) :=
  if (12 : Int32) ≤ z7.1 then (some (Sum.inr z7.2)) else ((f_X5_hasBlock b1 z7.1 z7.2).bind (fun o3 => if o3 = 0 then (j_X7_listUsed_37_t4 b b1 z7 z7.2) else (rd z7.2 4 b1 12 z7.1 (fun v9 => rd z7.2 5 b1 12 z7.1 (fun v10 => (f_X7_insertUsed b v9 v10 z7.2).bind (fun D11 => j_X7_listUsed_37_t4 b b1 z7 D11))))))
def f_X7_listUsed (b : Nat) (b1 : Nat) (D : Dt) : Option (Dt) :=
  pu D 16 b 2 (0 : Int32) (fun D1 => (lp (l_X7_listUsed_7 b b1) FU ((0 : Int32), D1)).bind (fun e2 => some e2))
def l_X0_addStretch_31 (x2 : Int32) (z2 : Int32 × Dt) (z31 : Int32 × Int32) : Option ((Int32 × Int32) ⊕ (Int32 × Int32)) :=
  if z31.2 ≤ 0 then (some (Sum.inr (z31.1, z31.2))) else (if (z2.1 &&& z31.1) = 0 then (if x2 < (z2.1 + ((2 : Int32) * z31.1)) then (some (Sum.inr (z31.1, z31.2))) else (some (Sum.inl (z31.1 * (2 : Int32), z31.2 + (-1 : Int32))))) else (some (Sum.inr (z31.1, z31.2))))
def l_X0_addStretch_2 (b : Nat) (x2 : Int32) (z2 : Int32 × Dt) : Option ((Int32 × Dt) ⊕ (Dt)) :=
  if x2 ≤ z2.1 then (some (Sum.inr z2.2)) else (if (z2.2 19 b 2) < 0 then (some (Sum.inr z2.2)) else (if (292 : Int32) ≤ (z2.2 19 b 2) then (some (Sum.inr z2.2)) else ((lp (l_X0_addStretch_31 x2 z2) FU ((1 : Int32), (16 : Int32))).bind (fun e2 => wr z2.2 20 b 292 (z2.2 19 b 2) z2.1 (fun D3 => wr D3 21 b 292 (D3 19 b 2) e2.2 (fun D4 => pu D4 19 b 2 ((D4 19 b 2) + (1 : Int32)) (fun D5 => some (Sum.inl (z2.1 + e2.1, D5)))))))))
def f_X0_addStretch (b : Nat) (x1 : Int32) (x2 : Int32) (D : Dt) : Option (Dt) :=
  (lp (l_X0_addStretch_2 b x2) FU (x1, D)).bind (fun e1 => some e1)
def l_X7_listFree_5 (b : Nat) (x1 : Int32) (x2 : Int32) (z5 : Int32 × Int32 × Dt) : Option ((Int32 × Int32 × Dt) ⊕ (Int32 × Dt)) :=
  if (24 : Int32) ≤ z5.2.1 then (some (Sum.inr (z5.1, z5.2.2))) else (if (z5.2.2 16 b 2) ≤ z5.2.1 then (some (Sum.inr (z5.1, z5.2.2))) else (rd z5.2.2 17 b 24 z5.2.1 (fun v2 => (f_X9_isIn v2 x1 (x2 - (1 : Int32)) z5.2.2).bind (fun o3 => if o3 = 0 then (some (Sum.inl (z5.1, z5.2.1 + (1 : Int32), z5.2.2))) else (rd z5.2.2 17 b 24 z5.2.1 (fun v4 => (f_X0_addStretch b z5.1 v4 z5.2.2).bind (fun D5 => rd D5 18 b 24 z5.2.1 (fun v6 => some (Sum.inl (v6, z5.2.1 + (1 : Int32), D5))))))))))
def f_X7_listFree (b : Nat) (x1 : Int32) (x2 : Int32) (D : Dt) : Option (Dt) :=
  (lp (l_X7_listFree_5 b x1 x2) FU (x1, (0 : Int32), D)).bind (fun e1 => (f_X0_addStretch b e1.1 x2 e1.2).bind (fun D7 => some D7))
def l_X7_take_15 (b : Nat) (b1 : Nat) (z15 : Int32 × Dt) : Option ((Int32 × Dt) ⊕ (Dt)) :=
  if (4 : Int32) ≤ z15.1 then (some (Sum.inr z15.2)) else (if (z15.2 1 b1 1) ≤ z15.1 then (some (Sum.inr z15.2)) else (rd z15.2 2 b1 4 z15.1 (fun v4 => rd z15.2 3 b1 4 z15.1 (fun v5 => (f_X9_sizeOf v5 z15.2).bind (fun o6 => (f_X7_listFree b v4 (v4 + o6) z15.2).bind (fun D7 => some (Sum.inl (z15.1 + (1 : Int32), D7))))))))
def f_X7_take (b : Nat) (b1 : Nat) (D : Dt) : Option (Dt) :=
  (f_X7_listUsed b b1 D).bind (fun D1 => pu D1 19 b 2 (0 : Int32) (fun D2 => (lp (l_X7_take_15 b b1) FU ((0 : Int32), D2)).bind (fun e3 => some e3)))
def j_X0_isBetter_64_t9 (x1 : Int32) (t3 : Int32) (t6 : Int32) (t9 : Int32) : Option (Int32) :=
  if x1 = (0 : Int32) then (gd (isb t3) (some t3)) else (if x1 = (1 : Int32) then (if t9 = 0 then (if t6 = 0 then (some (0 : Int32)) else (if t3 = 0 then (some (0 : Int32)) else (some (1 : Int32)))) else (some (1 : Int32))) else (if x1 = (2 : Int32) then (if t9 = 0 then (if t6 = 0 then (some (1 : Int32)) else (if t3 = 0 then (some (0 : Int32)) else (some (1 : Int32)))) else (some (0 : Int32))) else (if t9 = 0 then (if t6 = 0 then (some (0 : Int32)) else (if t3 = 0 then (some (1 : Int32)) else (some (0 : Int32)))) else (some (1 : Int32)))))
def j_X0_isBetter_42_t6 (b : Nat) (x1 : Int32) (x2 : Int32) (x3 : Int32) (D : Dt) (t3 : Int32) (t6 : Int32) : Option (Int32) :=
  rd D 21 b 292 x2 (fun v7 => rd D 21 b 292 x3 (fun v8 => if v7 ≤ v8 then (j_X0_isBetter_64_t9 x1 t3 t6 (0 : Int32)) else (j_X0_isBetter_64_t9 x1 t3 t6 (1 : Int32))))
def j_X0_isBetter_20_t3 (b : Nat) (x1 : Int32) (x2 : Int32) (x3 : Int32) (D : Dt) (t3 : Int32) : Option (Int32) :=
  rd D 21 b 292 x2 (fun v4 => rd D 21 b 292 x3 (fun v5 => if v4 = v5 then (j_X0_isBetter_42_t6 b x1 x2 x3 D t3 (1 : Int32)) else (j_X0_isBetter_42_t6 b x1 x2 x3 D t3 (0 : Int32))))
def f_X0_isBetter (b : Nat) (x1 : Int32) (x2 : Int32) (x3 : Int32) (D : Dt) : Option (Int32) :=
  rd D 20 b 292 x2 (fun v1 => rd D 20 b 292 x3 (fun v2 => if v2 ≤ v1 then (j_X0_isBetter_20_t3 b x1 x2 x3 D (0 : Int32)) else (j_X0_isBetter_20_t3 b x1 x2 x3 D (1 : Int32))))
def f_X0_holds (b : Nat) (x1 : Int32) (D : Dt) : Option (Int32) :=
  if x1 < 0 then (some (0 : Int32)) else (if (D 19 b 2) ≤ x1 then (some (0 : Int32)) else (if (292 : Int32) ≤ x1 then (some (0 : Int32)) else (some (1 : Int32))))
def l_X0_placeBy_5 (b : Nat) (x1 : Int32) (x2 : Int32) (D : Dt) (z5 : Int32 × Int32) : Option ((Int32 × Int32) ⊕ (Int32)) :=
  if (292 : Int32) ≤ z5.2 then (some (Sum.inr z5.1)) else (if (D 19 b 2) ≤ z5.2 then (some (Sum.inr z5.1)) else (rd D 21 b 292 z5.2 (fun v2 => if x2 < v2 then (some (Sum.inl (z5.1, z5.2 + (1 : Int32)))) else (if z5.1 = (-1 : Int32) then (some (Sum.inl (z5.2, z5.2 + (1 : Int32)))) else ((f_X0_isBetter b x1 z5.2 z5.1 D).bind (fun o3 => if o3 = 0 then (some (Sum.inl (z5.1, z5.2 + (1 : Int32)))) else (some (Sum.inl (z5.2, z5.2 + (1 : Int32))))))))))
def f_X0_placeBy (b : Nat) (x1 : Int32) (x2 : Int32) (D : Dt) : Option (Int32) :=
  (lp (l_X0_placeBy_5 b x1 x2 D) FU ((-1 : Int32), (0 : Int32))).bind (fun e1 => (f_X0_holds b e1 D).bind (fun o4 => if o4 = 0 then (some (-1 : Int32)) else (if x1 = (3 : Int32) then (rd D 21 b 292 e1 (fun v6 => (f_X9_sizeOf v6 D).bind (fun o7 => (f_X9_sizeOf x2 D).bind (fun o8 => rd D 20 b 292 e1 (fun v9 => some (v9 + (o7 - o8))))))) else (rd D 20 b 292 e1 (fun v5 => some (v5 + (0 : Int32)))))))
def f_X7_place (b : Nat) (b1 : Nat) (x2 : Int32) (D : Dt) : Option (Int32 × Dt) :=
  (f_X7_take b b1 D).bind (fun D1 => (f_X0_placeBy b (D1 1 b1 0) x2 D1).bind (fun o2 => some (o2, D1)))
def f_X5_putCurrent (b : Nat) (x1 : Int32) (x2 : Int32) (x3 : Int32) (D : Dt) : Option (Dt) :=
  wr D 4 b 12 x1 x2 (fun D1 => wr D1 5 b 12 x1 x3 (fun D2 => some D2))
def f_X4_readNet (D : Dt) : Option (Int32 × Dt) :=
  (f_X4_readRange (0 : Int32) (11 : Int32) D).bind (fun o1 => if o1.1 = 0 then (some ((0 : Int32), o1.2)) else ((f_X5_hasBlock 1 (o1.2 22 0 5) o1.2).bind (fun o2 => if o2 = 0 then ((f_X4_readRange (5 : Int32) (16 : Int32) o1.2).bind (fun o3 => if o3.1 = 0 then (some ((0 : Int32), o3.2)) else ((f_X7_place 0 1 (o3.2 22 0 5) o3.2).bind (fun o4 => if o4.1 = (-1 : Int32) then (some ((0 : Int32), o4.2)) else ((f_X5_putCurrent 1 (o1.2 22 0 5) o4.1 (o3.2 22 0 5) o4.2).bind (fun D5 => (f_X4_readSemicolon D5).bind (fun o6 => gd (isb o6.1) (some (o6.1, o6.2))))))))) else (some ((0 : Int32), o1.2)))))
def f_X2_isMember (b : Nat) (x1 : Int32) (D : Dt) : Option (Int32) :=
  rd D 10 b 16 x1 (fun v1 => if v1 = (-1 : Int32) then (some (0 : Int32)) else (some (1 : Int32)))
def f_X2_enrol (b : Nat) (x1 : Int32) (x2 : Int32) (x3 : Int32) (D : Dt) : Option (Dt) :=
  wr D 10 b 16 x1 x2 (fun D1 => wr D1 11 b 16 x1 x3 (fun D2 => some D2))
def j_X4_readHost_113_t7 (o1 : Int32 × Dt) (o3 : Int32 × Dt) (D5 : Dt) (t6 : Int32) (t7 : Int32) : Option (Int32 × Dt) :=
  (f_X2_enrol 1 (o1.2 22 0 5) (o3.2 22 0 5) t7 D5).bind (fun D8 => if t6 = 0 then (if (D8 22 0 3) = (2 : Int32) then (some ((1 : Int32), D8)) else (some ((0 : Int32), D8))) else ((f_X4_readSemicolon D8).bind (fun o9 => gd (isb o9.1) (some (o9.1, o9.2)))))
def j_X4_readHost_94_t6 (o1 : Int32 × Dt) (o3 : Int32 × Dt) (D5 : Dt) (t6 : Int32) : Option (Int32 × Dt) :=
  if t6 = 0 then (j_X4_readHost_113_t7 o1 o3 D5 t6 (0 : Int32)) else (j_X4_readHost_113_t7 o1 o3 D5 t6 (1 : Int32))
def f_X4_readHost (D : Dt) : Option (Int32 × Dt) :=
  (f_X4_readRange (0 : Int32) (15 : Int32) D).bind (fun o1 => if o1.1 = 0 then (some ((0 : Int32), o1.2)) else ((f_X2_isMember 1 (o1.2 22 0 5) o1.2).bind (fun o2 => if o2 = 0 then ((f_X4_readRange (0 : Int32) (11 : Int32) o1.2).bind (fun o3 => if o3.1 = 0 then (some ((0 : Int32), o3.2)) else ((f_X5_hasBlock 1 (o3.2 22 0 5) o3.2).bind (fun o4 => if o4 = 0 then (some ((0 : Int32), o3.2)) else ((f_X8_readToken o3.2).bind (fun D5 => if (D5 22 0 3) = (7 : Int32) then (j_X4_readHost_94_t6 o1 o3 D5 (1 : Int32)) else (j_X4_readHost_94_t6 o1 o3 D5 (0 : Int32)))))))) else (some ((0 : Int32), o1.2)))))
def f_X4_readPolicy (D : Dt) : Option (Int32 × Dt) :=
  (f_X4_readRange (0 : Int32) (3 : Int32) D).bind (fun o1 => if o1.1 = 0 then (some ((0 : Int32), o1.2)) else (pu o1.2 1 1 0 (o1.2 22 0 5) (fun D2 => (f_X4_readSemicolon D2).bind (fun o3 => gd (isb o3.1) (some (o3.1, o3.2))))))
def l_X4_readText_20 (z20 : Int32 × Int32 × Int32 × Dt) : Option ((Int32 × Int32 × Int32 × Dt) ⊕ (Int32 × Dt)) :=
  if (150 : Int32) ≤ z20.2.2.1 then (some (Sum.inr ((-10 : Int32) - (z20.2.2.2 22 0 4), z20.2.2.2))) else (if z20.1 = 0 then (some (Sum.inr ((-10 : Int32) - (z20.2.2.2 22 0 4), z20.2.2.2))) else ((f_X8_readToken z20.2.2.2).bind (fun D3 => if (D3 22 0 3) = (1 : Int32) then (some (Sum.inr (z20.2.1, D3))) else (if (D3 22 0 3) = (2 : Int32) then (some (Sum.inl ((0 : Int32), z20.2.1 + (1 : Int32), z20.2.2.1 + (1 : Int32), D3))) else (if (D3 22 0 3) = (3 : Int32) then (some (Sum.inl ((0 : Int32), z20.2.1 + (1 : Int32), z20.2.2.1 + (1 : Int32), D3))) else (if (D3 22 0 3) = (4 : Int32) then ((f_X4_readPool D3).bind (fun o4 => some (Sum.inl (o4.1, z20.2.1 + (1 : Int32), z20.2.2.1 + (1 : Int32), o4.2)))) else (if (D3 22 0 3) = (5 : Int32) then ((f_X4_readNet D3).bind (fun o5 => some (Sum.inl (o5.1, z20.2.1 + (1 : Int32), z20.2.2.1 + (1 : Int32), o5.2)))) else (if (D3 22 0 3) = (6 : Int32) then ((f_X4_readHost D3).bind (fun o6 => some (Sum.inl (o6.1, z20.2.1 + (1 : Int32), z20.2.2.1 + (1 : Int32), o6.2)))) else (if (D3 22 0 3) = (7 : Int32) then (some (Sum.inl ((0 : Int32), z20.2.1 + (1 : Int32), z20.2.2.1 + (1 : Int32), D3))) else (if (D3 22 0 3) = (8 : Int32) then ((f_X4_readPolicy D3).bind (fun o7 => some (Sum.inl (o7.1, z20.2.1 + (1 : Int32), z20.2.2.1 + (1 : Int32), o7.2)))) else (some (Sum.inl ((0 : Int32), z20.2.1 + (1 : Int32), z20.2.2.1 + (1 : Int32), D3)))))))))))))
def f_X4_readText (D : Dt) : Option (Int32 × Dt) :=
  (f_X6_reset 1 D).bind (fun D1 => (f_X8_rewind D1).bind (fun D2 => lp l_X4_readText_20 FU ((1 : Int32), (0 : Int32), (0 : Int32), D2)))
def f_X1_stateAt (x1 : Int32) (D : Dt) : Option (Nat × Dt) :=
  (f_X9_isIn x1 (0 : Int32) (5 : Int32) D).bind (fun o1 => if o1 = 0 then (none) else (gd (inb x1 6) (some ((2 + x1.toNatClampNeg), D))))
def f_X5_copyFrom (b : Nat) (b1 : Nat) (D : Dt) : Option (Dt) :=
  pu D 1 b 0 (D 1 b1 0) (fun D1 => pu D1 1 b 1 (D1 1 b1 1) (fun D2 => (f_X9_copyRow 2 4 b1 b D2).bind (fun D3 => (f_X9_copyRow 3 4 b1 b D3).bind (fun D4 => (f_X9_copyRow 4 12 b1 b D4).bind (fun D5 => (f_X9_copyRow 5 12 b1 b D5).bind (fun D6 => (f_X9_copyRow 6 12 b1 b D6).bind (fun D7 => (f_X9_copyRow 7 12 b1 b D7).bind (fun D8 => (f_X9_copyRow 8 12 b1 b D8).bind (fun D9 => some D9)))))))))
def f_X2_copyFrom (b : Nat) (b1 : Nat) (D : Dt) : Option (Dt) :=
  (f_X9_copyRow 10 16 b1 b D).bind (fun D1 => (f_X9_copyRow 11 16 b1 b D1).bind (fun D2 => (f_X9_copyRow 12 16 b1 b D2).bind (fun D3 => (f_X9_copyRow 13 16 b1 b D3).bind (fun D4 => (f_X9_copyRow 14 16 b1 b D4).bind (fun D5 => (f_X9_copyRow 15 16 b1 b D5).bind (fun D6 => some D6))))))
def f_X6_copyFrom (b : Nat) (b1 : Nat) (D : Dt) : Option (Dt) :=
  (f_X5_copyFrom b b1 D).bind (fun D1 => (f_X2_copyFrom b b1 D1).bind (fun D2 => pu D2 0 b 2 (D2 0 b1 2) (fun D3 => pu D3 0 b 3 (D3 0 b1 3) (fun D4 => pu D4 0 b 4 (D4 0 b1 4) (fun D5 => pu D5 0 b 5 (D5 0 b1 5) (fun D6 => some D6))))))
def f_X1_keep (b1 : Nat) (D : Dt) : Option (Dt) :=
  (f_X1_stateAt (D 24 0 1) D).bind (fun o1 => gd (decide (2 ≤ o1.1) && decide (o1.1 < 8)) ((f_X6_copyFrom o1.1 b1 o1.2).bind (fun D2 => gd (decide (¬ (6 : Int32) = 0)) (pu D2 24 0 1 (((D2 24 0 1) + (1 : Int32)) - ((D2 24 0 1) + (1 : Int32)) / (6 : Int32) * (6 : Int32)) (fun D3 => pu D3 24 0 2 (if (6 : Int32) < ((D3 24 0 2) + (1 : Int32)) then (6 : Int32) else ((D3 24 0 2) + (1 : Int32))) (fun D4 => some D4))))))
def f_X9_adoptDraft (D : Dt) : Option (Dt) :=
  (f_X1_keep 0 D).bind (fun D1 => (f_X6_copyFrom 0 1 D1).bind (fun D2 => some D2))
def f_X9_load (D : Dt) : Option (Int32 × Dt) :=
  (f_X4_readText D).bind (fun o1 => if o1.1 < 0 then (some (o1.1, o1.2)) else ((f_X9_adoptDraft o1.2).bind (fun D2 => pu D2 22 0 1 (0 : Int32) (fun D3 => some (o1.1, D3)))))
def f_X9_addPool (x1 : Int32) (x2 : Int32) (D : Dt) : Option (Int32 × Dt) :=
  (f_X9_isIn x1 (0 : Int32) (65535 : Int32) D).bind (fun o1 => if o1 = 0 then (some ((-1 : Int32), D)) else ((f_X9_isIn x2 (4 : Int32) (14 : Int32) D).bind (fun o2 => if o2 = 0 then (some ((-1 : Int32), D)) else ((f_X9_isAligned x1 x2 D).bind (fun o3 => if o3 = 0 then (some ((-1 : Int32), D)) else ((f_X5_meetsPool 0 x1 x2 D).bind (fun o4 => if o4 = 0 then (if (D 1 0 1) < (4 : Int32) then ((f_X1_keep 0 D).bind (fun D5 => (f_X5_putPool 0 x1 x2 D5).bind (fun D6 => some ((D6 1 0 1) - (1 : Int32), D6)))) else (some ((-3 : Int32), D))) else (some ((-2 : Int32), D)))))))))
def f_X5_isPool (b : Nat) (x1 : Int32) (D : Dt) : Option (Int32) :=
  if x1 < 0 then (some (0 : Int32)) else (if (D 1 b 1) ≤ x1 then (some (0 : Int32)) else (if (4 : Int32) ≤ x1 then (some (0 : Int32)) else (some (1 : Int32))))
def l_X0_addressesIn_5 (b : Nat) (x1 : Int32) (x2 : Int32) (D : Dt) (z5 : Int32 × Int32) : Option ((Int32 × Int32) ⊕ (Int32)) :=
  if (292 : Int32) ≤ z5.2 then (some (Sum.inr z5.1)) else (if (D 19 b 2) ≤ z5.2 then (some (Sum.inr z5.1)) else (rd D 20 b 292 z5.2 (fun v2 => (f_X9_covers x1 x2 v2 D).bind (fun o3 => if o3 = 0 then (some (Sum.inl (z5.1 + (0 : Int32), z5.2 + (1 : Int32)))) else (rd D 21 b 292 z5.2 (fun v4 => (f_X9_sizeOf v4 D).bind (fun o5 => some (Sum.inl (z5.1 + o5, z5.2 + (1 : Int32))))))))))
def f_X0_addressesIn (b : Nat) (x1 : Int32) (x2 : Int32) (D : Dt) : Option (Int32) :=
  (lp (l_X0_addressesIn_5 b x1 x2 D) FU ((0 : Int32), (0 : Int32))).bind (fun e1 => some e1)
def l_X5_dropPool_2 (b : Nat) (z2 : Int32 × Dt) : Option ((Int32 × Dt) ⊕ (Dt)) :=
  (f_X5_isPool b z2.1 z2.2).bind (fun o2 => if o2 = 0 then (some (Sum.inr z2.2)) else (if (4 : Int32) ≤ (z2.1 + (1 : Int32)) then (some (Sum.inr z2.2)) else (if (z2.2 1 b 1) ≤ (z2.1 + (1 : Int32)) then (some (Sum.inr z2.2)) else (rd z2.2 2 b 4 (z2.1 + (1 : Int32)) (fun v3 => wr z2.2 2 b 4 z2.1 v3 (fun D4 => rd D4 3 b 4 (z2.1 + (1 : Int32)) (fun v5 => wr D4 3 b 4 z2.1 v5 (fun D6 => some (Sum.inl (z2.1 + (1 : Int32), D6))))))))))
def f_X5_dropPool (b : Nat) (x1 : Int32) (D : Dt) : Option (Dt) :=
  (lp (l_X5_dropPool_2 b) FU (x1, D)).bind (fun e1 => pu e1 1 b 1 ((e1 1 b 1) - (1 : Int32)) (fun D7 => some D7))
def f_X9_removePool (x1 : Int32) (D : Dt) : Option (Int32 × Dt) :=
  (f_X5_isPool 0 x1 D).bind (fun o1 => if o1 = 0 then (some ((-1 : Int32), D)) else (rd D 2 0 4 x1 (fun v2 => rd D 3 0 4 x1 (fun v3 => (f_X7_take 0 0 D).bind (fun D4 => (f_X0_addressesIn 0 v2 v3 D4).bind (fun o5 => (f_X9_sizeOf v3 D4).bind (fun o6 => if o5 = o6 then ((f_X1_keep 0 D4).bind (fun D7 => (f_X5_dropPool 0 x1 D7).bind (fun D8 => some (D8 1 0 1, D8)))) else (some ((-2 : Int32), D4)))))))))
def f_X9_setPolicy (x1 : Int32) (D : Dt) : Option (Int32 × Dt) :=
  (f_X9_isIn x1 (0 : Int32) (3 : Int32) D).bind (fun o1 => if o1 = 0 then (some ((-1 : Int32), D)) else ((f_X1_keep 0 D).bind (fun D2 => pu D2 1 0 0 x1 (fun D3 => some (D2 1 0 0, D3)))))
def l_X0_blocksIn_5 (b : Nat) (x1 : Int32) (x2 : Int32) (D : Dt) (z5 : Int32 × Int32) : Option ((Int32 × Int32) ⊕ (Int32)) :=
  if (292 : Int32) ≤ z5.2 then (some (Sum.inr z5.1)) else (if (D 19 b 2) ≤ z5.2 then (some (Sum.inr z5.1)) else (rd D 20 b 292 z5.2 (fun v2 => (f_X9_covers x1 x2 v2 D).bind (fun o3 => if o3 = 0 then (some (Sum.inl (z5.1 + (0 : Int32), z5.2 + (1 : Int32)))) else (some (Sum.inl (z5.1 + (1 : Int32), z5.2 + (1 : Int32))))))))
def f_X0_blocksIn (b : Nat) (x1 : Int32) (x2 : Int32) (D : Dt) : Option (Int32) :=
  (lp (l_X0_blocksIn_5 b x1 x2 D) FU ((0 : Int32), (0 : Int32))).bind (fun e1 => some e1)
def f_X9_pool (x1 : Int32) (x2 : Int32) (D : Dt) : Option (Int32 × Dt) :=
  (f_X5_isPool 0 x1 D).bind (fun o1 => if o1 = 0 then (some ((-1 : Int32), D)) else ((f_X9_isIn x2 (0 : Int32) (3 : Int32) D).bind (fun o2 => if o2 = 0 then (some ((-1 : Int32), D)) else (rd D 2 0 4 x1 (fun v3 => rd D 3 0 4 x1 (fun v4 => if x2 = 0 then (some (v3, D)) else (if x2 = (1 : Int32) then (some (v4, D)) else ((f_X7_take 0 0 D).bind (fun D5 => if x2 = (2 : Int32) then ((f_X0_addressesIn 0 v3 v4 D5).bind (fun o7 => some (o7, D5))) else ((f_X0_blocksIn 0 v3 v4 D5).bind (fun o6 => some (o6, D5))))))))))))
def l_X0_blocksOf_4 (b : Nat) (x1 : Int32) (D : Dt) (z4 : Int32 × Int32) : Option ((Int32 × Int32) ⊕ (Int32)) :=
  if (292 : Int32) ≤ z4.2 then (some (Sum.inr z4.1)) else (if (D 19 b 2) ≤ z4.2 then (some (Sum.inr z4.1)) else (rd D 21 b 292 z4.2 (fun v2 => if v2 = x1 then (some (Sum.inl (z4.1 + (1 : Int32), z4.2 + (1 : Int32)))) else (some (Sum.inl (z4.1 + (0 : Int32), z4.2 + (1 : Int32)))))))
def f_X0_blocksOf (b : Nat) (x1 : Int32) (D : Dt) : Option (Int32) :=
  (lp (l_X0_blocksOf_4 b x1 D) FU ((0 : Int32), (0 : Int32))).bind (fun e1 => some e1)
def f_X9_freeBlocks (x1 : Int32) (D : Dt) : Option (Int32 × Dt) :=
  (f_X9_isIn x1 (0 : Int32) (16 : Int32) D).bind (fun o1 => if o1 = 0 then (some ((-1 : Int32), D)) else ((f_X7_take 0 0 D).bind (fun D2 => (f_X0_blocksOf 0 x1 D2).bind (fun o3 => some (o3, D2)))))
def l_X0_shortest_4 (b : Nat) (D : Dt) (z4 : Int32 × Int32) : Option ((Int32 × Int32) ⊕ (Int32)) :=
  if (292 : Int32) ≤ z4.2 then (some (Sum.inr z4.1)) else (if (D 19 b 2) ≤ z4.2 then (some (Sum.inr z4.1)) else (if z4.1 = (-1 : Int32) then (rd D 21 b 292 z4.2 (fun v2 => some (Sum.inl (v2, z4.2 + (1 : Int32))))) else (rd D 21 b 292 z4.2 (fun v3 => if z4.1 ≤ v3 then (some (Sum.inl (z4.1, z4.2 + (1 : Int32)))) else (rd D 21 b 292 z4.2 (fun v4 => some (Sum.inl (v4, z4.2 + (1 : Int32)))))))))
def f_X0_shortest (b : Nat) (D : Dt) : Option (Int32) :=
  (lp (l_X0_shortest_4 b D) FU ((-1 : Int32), (0 : Int32))).bind (fun e1 => some e1)
def f_X9_largestFree (D : Dt) : Option (Int32 × Dt) :=
  (f_X7_take 0 0 D).bind (fun D1 => (f_X0_shortest 0 D1).bind (fun o2 => if o2 = (-1 : Int32) then (some ((-9 : Int32), D1)) else (some (o2, D1))))
def l_X0_roomFor_4 (b : Nat) (x1 : Int32) (D : Dt) (z4 : Int32 × Int32) : Option ((Int32 × Int32) ⊕ (Int32)) :=
  if (292 : Int32) ≤ z4.2 then (some (Sum.inr z4.1)) else (if (D 19 b 2) ≤ z4.2 then (some (Sum.inr z4.1)) else (rd D 21 b 292 z4.2 (fun v2 => if x1 < v2 then (some (Sum.inl (z4.1 + (0 : Int32), z4.2 + (1 : Int32)))) else (rd D 21 b 292 z4.2 (fun v3 => letV (z4.1 + ((1 : Int32) <<< ((x1 - v3) &&& 31))) (fun v4 => some (Sum.inl (v4, z4.2 + (1 : Int32)))))))))
def f_X0_roomFor (b : Nat) (x1 : Int32) (D : Dt) : Option (Int32) :=
  (lp (l_X0_roomFor_4 b x1 D) FU ((0 : Int32), (0 : Int32))).bind (fun e1 => some e1)
def f_X9_capacity (x1 : Int32) (D : Dt) : Option (Int32 × Dt) :=
  (f_X9_isIn x1 (0 : Int32) (16 : Int32) D).bind (fun o1 => if o1 = 0 then (some ((-1 : Int32), D)) else ((f_X7_take 0 0 D).bind (fun D2 => (f_X0_roomFor 0 x1 D2).bind (fun o3 => some (o3, D2)))))
def l_X0_addresses_4 (b : Nat) (D : Dt) (z4 : Int32 × Int32) : Option ((Int32 × Int32) ⊕ (Int32)) :=
  if (292 : Int32) ≤ z4.2 then (some (Sum.inr z4.1)) else (if (D 19 b 2) ≤ z4.2 then (some (Sum.inr z4.1)) else (rd D 21 b 292 z4.2 (fun v2 => (f_X9_sizeOf v2 D).bind (fun o3 => some (Sum.inl (z4.1 + o3, z4.2 + (1 : Int32)))))))
def f_X0_addresses (b : Nat) (D : Dt) : Option (Int32) :=
  (lp (l_X0_addresses_4 b D) FU ((0 : Int32), (0 : Int32))).bind (fun e1 => some e1)
def f_X0_fragmentationIndex (b : Nat) (D : Dt) : Option (Int32) :=
  (f_X0_addresses b D).bind (fun o1 => if 0 < o1 then ((f_X0_shortest b D).bind (fun o2 => (f_X9_sizeOf o2 D).bind (fun o3 => gd (decide (¬ o1 = 0)) (some ((1000 : Int32) - (((1000 : Int32) * o3) / o1)))))) else (some (0 : Int32)))
def f_X9_fragmentation (D : Dt) : Option (Int32 × Dt) :=
  (f_X7_take 0 0 D).bind (fun D1 => (f_X0_fragmentationIndex 0 D1).bind (fun o2 => some (o2, D1)))
def f_X9_assign (x1 : Int32) (x2 : Int32) (D : Dt) : Option (Int32 × Dt) :=
  (f_X9_isNetwork x1 D).bind (fun o1 => if o1 = 0 then (some ((-1 : Int32), D)) else ((f_X9_isIn x2 (5 : Int32) (16 : Int32) D).bind (fun o2 => if o2 = 0 then (some ((-1 : Int32), D)) else ((f_X5_hasBlock 0 x1 D).bind (fun o3 => if o3 = 0 then ((f_X7_place 0 0 x2 D).bind (fun o4 => if o4.1 = (-1 : Int32) then (some ((-3 : Int32), o4.2)) else ((f_X1_keep 0 o4.2).bind (fun D5 => (f_X5_putCurrent 0 x1 o4.1 x2 D5).bind (fun D6 => some (o4.1, D6)))))) else (some ((-2 : Int32), D)))))))
def f_X2_leasesHeld (b : Nat) (x1 : Int32) (D : Dt) : Option (Int32) :=
  rd D 12 b 16 x1 (fun v1 => if v1 = (-1 : Int32) then (rd D 14 b 16 x1 (fun v2 => if v2 = (-1 : Int32) then (some ((0 : Int32) + (0 : Int32))) else (some ((0 : Int32) + (1 : Int32))))) else (rd D 14 b 16 x1 (fun v3 => if v3 = (-1 : Int32) then (some ((1 : Int32) + (0 : Int32))) else (some ((1 : Int32) + (1 : Int32))))))
def l_X2_leasesOf_4 (b : Nat) (x1 : Int32) (D : Dt) (z4 : Int32 × Int32) : Option ((Int32 × Int32) ⊕ (Int32)) :=
  if (16 : Int32) ≤ z4.2 then (some (Sum.inr z4.1)) else (rd D 10 b 16 z4.2 (fun v2 => if v2 = x1 then ((f_X2_leasesHeld b z4.2 D).bind (fun o3 => some (Sum.inl (z4.1 + o3, z4.2 + (1 : Int32))))) else (some (Sum.inl (z4.1 + (0 : Int32), z4.2 + (1 : Int32))))))
def f_X2_leasesOf (b : Nat) (x1 : Int32) (D : Dt) : Option (Int32) :=
  (lp (l_X2_leasesOf_4 b x1 D) FU ((0 : Int32), (0 : Int32))).bind (fun e1 => some e1)
def f_X5_dropCurrent (b : Nat) (x1 : Int32) (D : Dt) : Option (Dt) :=
  wr D 4 b 12 x1 (-1 : Int32) (fun D1 => some D1)
def f_X5_dropOld (b : Nat) (x1 : Int32) (D : Dt) : Option (Dt) :=
  wr D 6 b 12 x1 (-1 : Int32) (fun D1 => some D1)
def l_X2_dismissMembers_4 (b : Nat) (x1 : Int32) (z4 : Int32 × Int32 × Dt) : Option ((Int32 × Int32 × Dt) ⊕ (Int32 × Dt)) :=
  if (16 : Int32) ≤ z4.2.1 then (some (Sum.inr (z4.1, z4.2.2))) else (rd z4.2.2 10 b 16 z4.2.1 (fun v2 => if v2 = x1 then ((f_X2_dismiss b z4.2.1 z4.2.2).bind (fun D3 => some (Sum.inl (z4.1 + (1 : Int32), z4.2.1 + (1 : Int32), D3)))) else (some (Sum.inl (z4.1, z4.2.1 + (1 : Int32), z4.2.2)))))
def f_X2_dismissMembers (b : Nat) (x1 : Int32) (D : Dt) : Option (Int32 × Dt) :=
  (lp (l_X2_dismissMembers_4 b x1) FU ((0 : Int32), (0 : Int32), D)).bind (fun e1 => some (e1.1, e1.2))
def f_X9_release (x1 : Int32) (D : Dt) : Option (Int32 × Dt) :=
  (f_X9_isNetwork x1 D).bind (fun o1 => if o1 = 0 then (some ((-1 : Int32), D)) else ((f_X5_hasBlock 0 x1 D).bind (fun o2 => if o2 = 0 then (some ((-2 : Int32), D)) else ((f_X2_leasesOf 0 x1 D).bind (fun o3 => if o3 ≤ 0 then ((f_X1_keep 0 D).bind (fun D4 => (f_X5_dropCurrent 0 x1 D4).bind (fun D5 => (f_X5_dropOld 0 x1 D5).bind (fun D6 => (f_X2_dismissMembers 0 x1 D6).bind (fun o7 => some (o7.1, o7.2)))))) else (some ((-2 : Int32), D)))))))
def l_X5_canCover_6 (b : Nat) (x2 : Int32) (x3 : Int32) (D : Dt) (z6 : Int32 × Int32) : Option ((Int32 × Int32) ⊕ (Int32)) :=
  if (4 : Int32) ≤ z6.2 then (some (Sum.inr z6.1)) else (if (D 1 b 1) ≤ z6.2 then (some (Sum.inr z6.1)) else (if z6.1 = 0 then (rd D 3 b 4 z6.2 (fun v2 => if x3 < v2 then (some (Sum.inl ((0 : Int32), z6.2 + (1 : Int32)))) else (rd D 2 b 4 z6.2 (fun v3 => rd D 3 b 4 z6.2 (fun v4 => (f_X9_covers v3 v4 x2 D).bind (fun o5 => if o5 = 0 then (some (Sum.inl ((0 : Int32), z6.2 + (1 : Int32)))) else (some (Sum.inl ((1 : Int32), z6.2 + (1 : Int32)))))))))) else (some (Sum.inl ((1 : Int32), z6.2 + (1 : Int32))))))
def l_X5_canCover_81 (b : Nat) (x1 : Int32) (x2 : Int32) (x3 : Int32) (D : Dt) (z81 : Int32) : Option ((Int32) ⊕ (Int32)) :=
  if (12 : Int32) ≤ z81 then (some (Sum.inr (1 : Int32))) else (if z81 = x1 then ((f_X5_hasOld b z81 D).bind (fun o6 => if o6 = 0 then (some (Sum.inl (z81 + (1 : Int32)))) else (rd D 6 b 12 z81 (fun v7 => rd D 7 b 12 z81 (fun v8 => (f_X9_meet v7 v8 x2 x3 D).bind (fun o9 => if o9 = 0 then (some (Sum.inl (z81 + (1 : Int32)))) else (some (Sum.inr (0 : Int32))))))))) else ((f_X5_hasBlock b z81 D).bind (fun o10 => if o10 = 0 then ((f_X5_hasOld b z81 D).bind (fun o11 => if o11 = 0 then (some (Sum.inl (z81 + (1 : Int32)))) else (rd D 6 b 12 z81 (fun v12 => rd D 7 b 12 z81 (fun v13 => (f_X9_meet v12 v13 x2 x3 D).bind (fun o14 => if o14 = 0 then (some (Sum.inl (z81 + (1 : Int32)))) else (some (Sum.inr (0 : Int32))))))))) else (rd D 4 b 12 z81 (fun v15 => rd D 5 b 12 z81 (fun v16 => (f_X9_meet v15 v16 x2 x3 D).bind (fun o17 => if o17 = 0 then ((f_X5_hasOld b z81 D).bind (fun o18 => if o18 = 0 then (some (Sum.inl (z81 + (1 : Int32)))) else (rd D 6 b 12 z81 (fun v19 => rd D 7 b 12 z81 (fun v20 => (f_X9_meet v19 v20 x2 x3 D).bind (fun o21 => if o21 = 0 then (some (Sum.inl (z81 + (1 : Int32)))) else (some (Sum.inr (0 : Int32))))))))) else (some (Sum.inr (0 : Int32))))))))))
def f_X5_canCover (b : Nat) (x1 : Int32) (x2 : Int32) (x3 : Int32) (D : Dt) : Option (Int32) :=
  (lp (l_X5_canCover_6 b x2 x3 D) FU ((0 : Int32), (0 : Int32))).bind (fun e1 => if e1 = 0 then (some (0 : Int32)) else (lp (l_X5_canCover_81 b x1 x2 x3 D) FU (0 : Int32)))
def f_X9_canLease (x0 : Int32) (x1 : Int32) (x2 : Int32) (D : Dt) : Option (Int32) :=
  (f_X9_covers x0 x1 x2 D).bind (fun o1 => if o1 = 0 then (some (0 : Int32)) else ((f_X9_sizeOf x1 D).bind (fun o2 => if o2 < (4 : Int32) then (some (1 : Int32)) else (if x2 = x0 then (some (0 : Int32)) else (if x2 = ((x0 + o2) - (1 : Int32)) then (some (0 : Int32)) else (some (1 : Int32)))))))
def l_X2_newLeasesFit_3 (b : Nat) (x1 : Int32) (x2 : Int32) (x3 : Int32) (D : Dt) (z3 : Int32) : Option ((Int32) ⊕ (Int32)) :=
  if (16 : Int32) ≤ z3 then (some (Sum.inr (1 : Int32))) else (rd D 10 b 16 z3 (fun v1 => if v1 = x1 then (rd D 12 b 16 z3 (fun v2 => if v2 = (-1 : Int32) then (some (Sum.inl (z3 + (1 : Int32)))) else (rd D 12 b 16 z3 (fun v3 => (f_X9_canLease x2 x3 v3 D).bind (fun o4 => if o4 = 0 then (some (Sum.inr (0 : Int32))) else (some (Sum.inl (z3 + (1 : Int32))))))))) else (some (Sum.inl (z3 + (1 : Int32))))))
def f_X2_newLeasesFit (b : Nat) (x1 : Int32) (x2 : Int32) (x3 : Int32) (D : Dt) : Option (Int32) :=
  lp (l_X2_newLeasesFit_3 b x1 x2 x3 D) FU (0 : Int32)
def j_X9_resize_95_t8 (x1 : Int32) (x2 : Int32) (D : Dt) (v5 : Int32) (o6 : Int32) (t8 : Int32) : Option (Int32 × Dt) :=
  if t8 = 0 then ((f_X2_newLeasesFit 0 x1 (v5 &&& (-o6)) x2 D).bind (fun o9 => if o9 = 0 then (some ((-2 : Int32), D)) else ((f_X1_keep 0 D).bind (fun D10 => (f_X5_putCurrent 0 x1 (v5 &&& (-o6)) x2 D10).bind (fun D11 => some (v5 &&& (-o6), D11)))))) else ((f_X5_canCover 0 x1 (v5 &&& (-o6)) x2 D).bind (fun o12 => if o12 = 0 then (some ((-2 : Int32), D)) else ((f_X2_newLeasesFit 0 x1 (v5 &&& (-o6)) x2 D).bind (fun o13 => if o13 = 0 then (some ((-2 : Int32), D)) else ((f_X1_keep 0 D).bind (fun D14 => (f_X5_putCurrent 0 x1 (v5 &&& (-o6)) x2 D14).bind (fun D15 => some (v5 &&& (-o6), D15))))))))
def f_X9_resize (x1 : Int32) (x2 : Int32) (D : Dt) : Option (Int32 × Dt) :=
  (f_X9_isNetwork x1 D).bind (fun o1 => if o1 = 0 then (some ((-1 : Int32), D)) else ((f_X9_isIn x2 (5 : Int32) (16 : Int32) D).bind (fun o2 => if o2 = 0 then (some ((-1 : Int32), D)) else ((f_X5_hasBlock 0 x1 D).bind (fun o3 => if o3 = 0 then (some ((-2 : Int32), D)) else (rd D 5 0 12 x1 (fun v4 => if v4 = x2 then (some ((-2 : Int32), D)) else (rd D 4 0 12 x1 (fun v5 => (f_X9_sizeOf x2 D).bind (fun o6 => rd D 5 0 12 x1 (fun v7 => if v7 ≤ x2 then (j_X9_resize_95_t8 x1 x2 D v5 o6 (0 : Int32)) else (j_X9_resize_95_t8 x1 x2 D v5 o6 (1 : Int32)))))))))))))
def f_X5_isMovable (b : Nat) (x1 : Int32) (D : Dt) : Option (Int32) :=
  (f_X5_hasBlock b x1 D).bind (fun o1 => if o1 = 0 then (some (0 : Int32)) else ((f_X5_hasOld b x1 D).bind (fun o2 => if o2 = 0 then (some (1 : Int32)) else (some (0 : Int32)))))
def f_X5_makeOld (b : Nat) (x1 : Int32) (x2 : Int32) (D : Dt) : Option (Dt) :=
  rd D 4 b 12 x1 (fun v1 => wr D 6 b 12 x1 v1 (fun D2 => rd D2 5 b 12 x1 (fun v3 => wr D2 7 b 12 x1 v3 (fun D4 => wr D4 8 b 12 x1 x2 (fun D5 => some D5)))))
def l_X2_makeLeasesOld_2 (b : Nat) (x1 : Int32) (z2 : Int32 × Dt) : Option ((Int32 × Dt) ⊕ (Dt)) :=
  if (16 : Int32) ≤ z2.1 then (some (Sum.inr z2.2)) else (rd z2.2 10 b 16 z2.1 (fun v2 => if v2 = x1 then (rd z2.2 12 b 16 z2.1 (fun v3 => wr z2.2 14 b 16 z2.1 v3 (fun D4 => rd D4 13 b 16 z2.1 (fun v5 => wr D4 15 b 16 z2.1 v5 (fun D6 => wr D6 12 b 16 z2.1 (-1 : Int32) (fun D7 => some (Sum.inl (z2.1 + (1 : Int32), D7)))))))) else (some (Sum.inl (z2.1 + (1 : Int32), z2.2)))))
def f_X2_makeLeasesOld (b : Nat) (x1 : Int32) (D : Dt) : Option (Dt) :=
  (lp (l_X2_makeLeasesOld_2 b x1) FU ((0 : Int32), D)).bind (fun e1 => some e1)
def l_X2_dropOldLeases_4 (b : Nat) (x1 : Int32) (z4 : Int32 × Int32 × Dt) : Option ((Int32 × Int32 × Dt) ⊕ (Int32 × Dt)) :=
  if (16 : Int32) ≤ z4.2.1 then (some (Sum.inr (z4.1, z4.2.2))) else (rd z4.2.2 10 b 16 z4.2.1 (fun v2 => if v2 = x1 then (rd z4.2.2 14 b 16 z4.2.1 (fun v3 => if v3 = (-1 : Int32) then (some (Sum.inl (z4.1, z4.2.1 + (1 : Int32), z4.2.2))) else (wr z4.2.2 14 b 16 z4.2.1 (-1 : Int32) (fun D4 => some (Sum.inl (z4.1 + (1 : Int32), z4.2.1 + (1 : Int32), D4)))))) else (some (Sum.inl (z4.1, z4.2.1 + (1 : Int32), z4.2.2)))))
def f_X2_dropOldLeases (b : Nat) (x1 : Int32) (D : Dt) : Option (Int32 × Dt) :=
  (lp (l_X2_dropOldLeases_4 b x1) FU ((0 : Int32), (0 : Int32), D)).bind (fun e1 => some (e1.1, e1.2))
def f_X6_giveUpOld (b : Nat) (x1 : Int32) (D : Dt) : Option (Int32 × Dt) :=
  (f_X2_dropOldLeases b x1 D).bind (fun o1 => (f_X5_dropOld b x1 o1.2).bind (fun D2 => pu D2 0 b 5 ((D2 0 b 5) + o1.1) (fun D3 => some (o1.1, D3))))
def f_X6_moveNetwork (b : Nat) (x1 : Int32) (x2 : Int32) (x3 : Int32) (D : Dt) : Option (Dt) :=
  (f_X5_makeOld b x1 ((D 0 b 2) + (D 0 b 4)) D).bind (fun D1 => (f_X5_putCurrent b x1 x2 x3 D1).bind (fun D2 => (f_X2_makeLeasesOld b x1 D2).bind (fun D3 => if (D3 0 b 4) = 0 then ((f_X6_giveUpOld b x1 D3).bind (fun o4 => some o4.2)) else (some D3))))
def f_X9_renumber (x1 : Int32) (x2 : Int32) (D : Dt) : Option (Int32 × Dt) :=
  (f_X9_isNetwork x1 D).bind (fun o1 => if o1 = 0 then (some ((-1 : Int32), D)) else ((f_X9_isIn x2 (5 : Int32) (16 : Int32) D).bind (fun o2 => if o2 = 0 then (some ((-1 : Int32), D)) else ((f_X5_isMovable 0 x1 D).bind (fun o3 => if o3 = 0 then (some ((-2 : Int32), D)) else ((f_X7_place 0 0 x2 D).bind (fun o4 => if o4.1 = (-1 : Int32) then (some ((-3 : Int32), o4.2)) else ((f_X1_keep 0 o4.2).bind (fun D5 => (f_X6_moveNetwork 0 x1 o4.1 x2 D5).bind (fun D6 => some (o4.1, D6)))))))))))
def l_X5_movableBelow_4 (b : Nat) (x1 : Int32) (D : Dt) (z4 : Int32 × Int32) : Option ((Int32 × Int32) ⊕ (Int32)) :=
  if (12 : Int32) ≤ z4.2 then (some (Sum.inr z4.1)) else ((f_X5_isMovable b z4.2 D).bind (fun o2 => if o2 = 0 then (some (Sum.inl (z4.1, z4.2 + (1 : Int32)))) else (rd D 4 b 12 z4.2 (fun v3 => if x1 ≤ v3 then (some (Sum.inl (z4.1, z4.2 + (1 : Int32)))) else (if z4.1 = (-1 : Int32) then (some (Sum.inl (z4.2, z4.2 + (1 : Int32)))) else (rd D 4 b 12 z4.2 (fun v4 => rd D 4 b 12 z4.1 (fun v5 => if v4 ≤ v5 then (some (Sum.inl (z4.1, z4.2 + (1 : Int32)))) else (some (Sum.inl (z4.2, z4.2 + (1 : Int32))))))))))))
def f_X5_movableBelow (b : Nat) (x1 : Int32) (D : Dt) : Option (Int32) :=
  (lp (l_X5_movableBelow_4 b x1 D) FU ((-1 : Int32), (0 : Int32))).bind (fun e1 => some e1)
def l_X9_wave_31 (x1 : Int32) (z31 : Int32 × Int32 × Int32 × Dt) : Option ((Int32 × Int32 × Int32 × Dt) ⊕ (Int32 × Dt)) :=
  if (12 : Int32) ≤ z31.2.2.1 then (if z31.1 = 0 then (some (Sum.inr ((-2 : Int32), z31.2.2.2))) else ((f_X9_adoptDraft z31.2.2.2).bind (fun D3 => some (Sum.inr (z31.1, D3))))) else (if x1 ≤ z31.1 then (if z31.1 = 0 then (some (Sum.inr ((-2 : Int32), z31.2.2.2))) else ((f_X9_adoptDraft z31.2.2.2).bind (fun D4 => some (Sum.inr (z31.1, D4))))) else ((f_X5_movableBelow 0 z31.2.1 z31.2.2.2).bind (fun o5 => (f_X9_isNetwork o5 z31.2.2.2).bind (fun o6 => if o6 = 0 then (if z31.1 = 0 then (some (Sum.inr ((-2 : Int32), z31.2.2.2))) else ((f_X9_adoptDraft z31.2.2.2).bind (fun D11 => some (Sum.inr (z31.1, D11))))) else (rd z31.2.2.2 4 0 12 o5 (fun v7 => rd z31.2.2.2 5 0 12 o5 (fun v8 => (f_X7_place 0 1 v8 z31.2.2.2).bind (fun o9 => if o9.1 = (-1 : Int32) then (some (Sum.inl (z31.1, v7, z31.2.2.1 + (1 : Int32), o9.2))) else (if v7 ≤ o9.1 then (some (Sum.inl (z31.1, v7, z31.2.2.1 + (1 : Int32), o9.2))) else ((f_X6_moveNetwork 1 o5 o9.1 v8 o9.2).bind (fun D10 => some (Sum.inl (z31.1 + (1 : Int32), v7, z31.2.2.1 + (1 : Int32), D10)))))))))))))
def f_X9_wave (x1 : Int32) (D : Dt) : Option (Int32 × Dt) :=
  (f_X9_isIn x1 (1 : Int32) (12 : Int32) D).bind (fun o1 => if o1 = 0 then (some ((-1 : Int32), D)) else ((f_X6_copyFrom 1 0 D).bind (fun D2 => lp (l_X9_wave_31 x1) FU ((0 : Int32), (65536 : Int32), (0 : Int32), D2))))
def l_X2_membersOf_4 (b : Nat) (x1 : Int32) (D : Dt) (z4 : Int32 × Int32) : Option ((Int32 × Int32) ⊕ (Int32)) :=
  if (16 : Int32) ≤ z4.2 then (some (Sum.inr z4.1)) else (rd D 10 b 16 z4.2 (fun v2 => if v2 = x1 then (some (Sum.inl (z4.1 + (1 : Int32), z4.2 + (1 : Int32)))) else (some (Sum.inl (z4.1 + (0 : Int32), z4.2 + (1 : Int32))))))
def f_X2_membersOf (b : Nat) (x1 : Int32) (D : Dt) : Option (Int32) :=
  (lp (l_X2_membersOf_4 b x1 D) FU ((0 : Int32), (0 : Int32))).bind (fun e1 => some e1)
def f_X5_property (b : Nat) (x1 : Int32) (x2 : Int32) (D : Dt) : Option (Int32) :=
  if x2 = (0 : Int32) then (rd D 4 b 12 x1 (fun v1 => some v1)) else (if x2 = (1 : Int32) then (rd D 5 b 12 x1 (fun v2 => some v2)) else (if x2 = (2 : Int32) then (rd D 6 b 12 x1 (fun v3 => some v3)) else (if x2 = (3 : Int32) then (rd D 7 b 12 x1 (fun v4 => some v4)) else (rd D 8 b 12 x1 (fun v5 => some v5)))))
def f_X9_network (x1 : Int32) (x2 : Int32) (D : Dt) : Option (Int32) :=
  (f_X9_isNetwork x1 D).bind (fun o1 => if o1 = 0 then (some (-1 : Int32)) else ((f_X9_isIn x2 (0 : Int32) (5 : Int32) D).bind (fun o2 => if o2 = 0 then (some (-1 : Int32)) else (if x2 = (5 : Int32) then ((f_X2_membersOf 0 x1 D).bind (fun o7 => some o7)) else (if (2 : Int32) ≤ x2 then ((f_X5_hasOld 0 x1 D).bind (fun o3 => if o3 = 0 then (some (-9 : Int32)) else ((f_X5_property 0 x1 x2 D).bind (fun o4 => some o4)))) else ((f_X5_hasBlock 0 x1 D).bind (fun o5 => if o5 = 0 then (some (-9 : Int32)) else ((f_X5_property 0 x1 x2 D).bind (fun o6 => some o6)))))))))
def l_X5_networkAt_2 (b : Nat) (x1 : Int32) (D : Dt) (z2 : Int32) : Option ((Int32) ⊕ (Int32)) :=
  if (12 : Int32) ≤ z2 then (some (Sum.inr (-1 : Int32))) else (rd D 4 b 12 z2 (fun v1 => rd D 5 b 12 z2 (fun v2 => (f_X9_covers v1 v2 x1 D).bind (fun o3 => if o3 = 0 then (rd D 6 b 12 z2 (fun v4 => rd D 7 b 12 z2 (fun v5 => (f_X9_covers v4 v5 x1 D).bind (fun o6 => if o6 = 0 then (some (Sum.inl (z2 + (1 : Int32)))) else (some (Sum.inr z2)))))) else (some (Sum.inr z2))))))
def f_X5_networkAt (b : Nat) (x1 : Int32) (D : Dt) : Option (Int32) :=
  lp (l_X5_networkAt_2 b x1 D) FU (0 : Int32)
def f_X9_owner (x1 : Int32) (D : Dt) : Option (Int32) :=
  (f_X9_isIn x1 (0 : Int32) (65535 : Int32) D).bind (fun o1 => if o1 = 0 then (some (-1 : Int32)) else ((f_X5_networkAt 0 x1 D).bind (fun o2 => if o2 = (-1 : Int32) then (some (-9 : Int32)) else (some o2))))
def f_X9_isHost (x0 : Int32) (D : Dt) : Option (Int32) :=
  if x0 < 0 then (some (0 : Int32)) else (if (16 : Int32) ≤ x0 then (some (0 : Int32)) else (some (1 : Int32)))
def f_X9_addHost (x1 : Int32) (x2 : Int32) (x3 : Int32) (D : Dt) : Option (Int32 × Dt) :=
  (f_X9_isHost x1 D).bind (fun o1 => if o1 = 0 then (some ((-1 : Int32), D)) else ((f_X9_isNetwork x2 D).bind (fun o2 => if o2 = 0 then (some ((-1 : Int32), D)) else ((f_X9_isIn x3 (0 : Int32) (1 : Int32) D).bind (fun o3 => if o3 = 0 then (some ((-1 : Int32), D)) else ((f_X2_isMember 0 x1 D).bind (fun o4 => if o4 = 0 then ((f_X5_hasBlock 0 x2 D).bind (fun o5 => if o5 = 0 then (some ((-2 : Int32), D)) else ((f_X1_keep 0 D).bind (fun D6 => (f_X2_enrol 0 x1 x2 x3 D6).bind (fun D7 => (f_X2_membersOf 0 x2 D7).bind (fun o8 => some (o8, D7))))))) else (some ((-2 : Int32), D)))))))))
def f_X9_removeHost (x1 : Int32) (D : Dt) : Option (Int32 × Dt) :=
  (f_X9_isHost x1 D).bind (fun o1 => if o1 = 0 then (some ((-1 : Int32), D)) else ((f_X2_isMember 0 x1 D).bind (fun o2 => if o2 = 0 then (some ((-2 : Int32), D)) else ((f_X1_keep 0 D).bind (fun D3 => (f_X2_leasesHeld 0 x1 D3).bind (fun o4 => (f_X2_dismiss 0 x1 D3).bind (fun D5 => some (o4, D5))))))))
def f_X2_renewsOld (b : Nat) (x1 : Int32) (D : Dt) : Option (Int32) :=
  rd D 12 b 16 x1 (fun v1 => if v1 = (-1 : Int32) then (rd D 11 b 16 x1 (fun v2 => if v2 = (1 : Int32) then (rd D 14 b 16 x1 (fun v3 => if v3 = (-1 : Int32) then (some (0 : Int32)) else (some (1 : Int32)))) else (some (0 : Int32)))) else (some (0 : Int32)))
def l_X2_holderOf_2 (b : Nat) (x1 : Int32) (D : Dt) (z2 : Int32) : Option ((Int32) ⊕ (Int32)) :=
  if (16 : Int32) ≤ z2 then (some (Sum.inr (-1 : Int32))) else (rd D 12 b 16 z2 (fun v1 => if v1 = x1 then (some (Sum.inr z2)) else (rd D 14 b 16 z2 (fun v2 => if v2 = x1 then (some (Sum.inr z2)) else (some (Sum.inl (z2 + (1 : Int32))))))))
def f_X2_holderOf (b : Nat) (x1 : Int32) (D : Dt) : Option (Int32) :=
  lp (l_X2_holderOf_2 b x1 D) FU (0 : Int32)
def f_X6_sameDistance (b : Nat) (x1 : Int32) (x2 : Int32) (D : Dt) : Option (Int32) :=
  rd D 14 b 16 x1 (fun v1 => if v1 = (-1 : Int32) then (some (-1 : Int32)) else ((f_X5_hasOld b x2 D).bind (fun o2 => if o2 = 0 then (some (-1 : Int32)) else (rd D 14 b 16 x1 (fun v3 => rd D 6 b 12 x2 (fun v4 => rd D 4 b 12 x2 (fun v5 => rd D 4 b 12 x2 (fun v6 => rd D 5 b 12 x2 (fun v7 => (f_X9_canLease v6 v7 (v5 + (v3 - v4)) D).bind (fun o8 => if o8 = 0 then (if (0 : Int32) = 0 then (some (-1 : Int32)) else (some (v5 + (v3 - v4)))) else ((f_X2_holderOf b (v5 + (v3 - v4)) D).bind (fun o9 => if o9 = (-1 : Int32) then (if (1 : Int32) = 0 then (some (-1 : Int32)) else (some (v5 + (v3 - v4)))) else (if (0 : Int32) = 0 then (some (-1 : Int32)) else (some (v5 + (v3 - v4))))))))))))))))
def l_X2_smallestFree_10 (b : Nat) (x1 : Int32) (x2 : Int32) (D : Dt) (o1 : Int32) (z10 : Int32) : Option ((Int32) ⊕ (Int32)) :=
  if (x1 + o1) ≤ z10 then (some (Sum.inr (-1 : Int32))) else ((f_X9_canLease x1 x2 z10 D).bind (fun o2 => if o2 = 0 then (some (Sum.inl (z10 + (1 : Int32)))) else ((f_X2_holderOf b z10 D).bind (fun o3 => if o3 = (-1 : Int32) then (some (Sum.inr z10)) else (some (Sum.inl (z10 + (1 : Int32))))))))
def f_X2_smallestFree (b : Nat) (x1 : Int32) (x2 : Int32) (D : Dt) : Option (Int32) :=
  (f_X9_sizeOf x2 D).bind (fun o1 => lp (l_X2_smallestFree_10 b x1 x2 D o1) FU x1)
def f_X6_addressFor (b : Nat) (x1 : Int32) (D : Dt) : Option (Int32) :=
  rd D 12 b 16 x1 (fun v1 => if v1 = (-1 : Int32) then ((f_X2_renewsOld b x1 D).bind (fun o2 => if o2 = 0 then (rd D 10 b 16 x1 (fun v3 => (f_X5_hasBlock b v3 D).bind (fun o4 => if o4 = 0 then (some (-1 : Int32)) else ((f_X6_sameDistance b x1 v3 D).bind (fun o5 => if o5 = (-1 : Int32) then (rd D 4 b 12 v3 (fun v6 => rd D 5 b 12 v3 (fun v7 => (f_X2_smallestFree b v6 v7 D).bind (fun o8 => some o8)))) else (some o5)))))) else (rd D 14 b 16 x1 (fun v9 => some v9)))) else (rd D 12 b 16 x1 (fun v10 => some v10)))
def f_X6_grant (b : Nat) (x1 : Int32) (x2 : Int32) (D : Dt) : Option (Dt) :=
  rd D 10 b 16 x1 (fun v1 => (f_X2_renewsOld b x1 D).bind (fun o2 => if o2 = 0 then (wr D 12 b 16 x1 x2 (fun D3 => wr D3 13 b 16 x1 ((D 0 b 2) + (D 0 b 3)) (fun D4 => some D4))) else ((f_X5_hasOld b v1 D).bind (fun o5 => if o5 = 0 then (wr D 12 b 16 x1 x2 (fun D6 => wr D6 13 b 16 x1 ((D 0 b 2) + (D 0 b 3)) (fun D7 => some D7))) else (rd D 8 b 12 v1 (fun v8 => wr D 15 b 16 x1 (if v8 < ((D 0 b 2) + (D 0 b 3)) then v8 else ((D 0 b 2) + (D 0 b 3))) (fun D9 => some D9)))))))
def f_X9_request (x1 : Int32) (D : Dt) : Option (Int32 × Dt) :=
  (f_X9_isHost x1 D).bind (fun o1 => if o1 = 0 then (some ((-1 : Int32), D)) else ((f_X2_isMember 0 x1 D).bind (fun o2 => if o2 = 0 then (some ((-2 : Int32), D)) else ((f_X6_addressFor 0 x1 D).bind (fun o3 => if o3 = (-1 : Int32) then (some ((-3 : Int32), D)) else ((f_X1_keep 0 D).bind (fun D4 => (f_X6_grant 0 x1 o3 D4).bind (fun D5 => some (o3, D5)))))))))
def f_X2_property (b : Nat) (x1 : Int32) (x2 : Int32) (D : Dt) : Option (Int32) :=
  if x2 = (0 : Int32) then (rd D 10 b 16 x1 (fun v1 => some v1)) else (if x2 = (1 : Int32) then (rd D 11 b 16 x1 (fun v2 => some v2)) else (if x2 = (2 : Int32) then (rd D 12 b 16 x1 (fun v3 => some v3)) else (if x2 = (3 : Int32) then (rd D 12 b 16 x1 (fun v4 => if v4 = (-1 : Int32) then (some (-1 : Int32)) else (rd D 13 b 16 x1 (fun v5 => some v5)))) else (if x2 = (4 : Int32) then (rd D 14 b 16 x1 (fun v6 => some v6)) else (rd D 14 b 16 x1 (fun v7 => if v7 = (-1 : Int32) then (some (-1 : Int32)) else (rd D 15 b 16 x1 (fun v8 => some v8))))))))
def f_X9_host (x1 : Int32) (x2 : Int32) (D : Dt) : Option (Int32) :=
  (f_X9_isHost x1 D).bind (fun o1 => if o1 = 0 then (some (-1 : Int32)) else ((f_X9_isIn x2 (0 : Int32) (5 : Int32) D).bind (fun o2 => if o2 = 0 then (some (-1 : Int32)) else ((f_X2_isMember 0 x1 D).bind (fun o3 => if o3 = 0 then (some (-9 : Int32)) else ((f_X2_property 0 x1 x2 D).bind (fun o4 => if o4 = (-1 : Int32) then (some (-9 : Int32)) else (some o4))))))))
def f_X9_leaseOf (x1 : Int32) (D : Dt) : Option (Int32) :=
  (f_X9_isIn x1 (0 : Int32) (65535 : Int32) D).bind (fun o1 => if o1 = 0 then (some (-1 : Int32)) else ((f_X2_holderOf 0 x1 D).bind (fun o2 => if o2 = (-1 : Int32) then (some (-9 : Int32)) else (some o2))))
def j_X2_dropEnded_40_t3 (b : Nat) (x1 : Int32) (z4 : Int32 × Int32 × Dt) (t3 : Int32 × Dt) : Option ((Int32 × Int32 × Dt) ⊕ (Int32 × Dt)) :=
  rd t3.2 14 b 16 z4.2.1 (fun v4 => if v4 = (-1 : Int32) then (some (Sum.inl (t3.1, z4.2.1 + (1 : Int32), t3.2))) else (rd t3.2 15 b 16 z4.2.1 (fun v5 => if x1 < v5 then (some (Sum.inl (t3.1, z4.2.1 + (1 : Int32), t3.2))) else (wr t3.2 14 b 16 z4.2.1 (-1 : Int32) (fun D6 => some (Sum.inl (t3.1 + (1 : Int32), z4.2.1 + (1 : Int32), D6)))))))
def l_X2_dropEnded_4 (b : Nat) (x1 : Int32) (z4 : Int32 × Int32 × Dt) : Option ((Int32 × Int32 × Dt) ⊕ (Int32 × Dt)) :=
  if (16 : Int32) ≤ z4.2.1 then (some (Sum.inr (z4.1, z4.2.2))) else (rd z4.2.2 12 b 16 z4.2.1 (fun v2 => if v2 = (-1 : Int32) then (j_X2_dropEnded_40_t3 b x1 z4 (z4.1, z4.2.2)) else (rd z4.2.2 13 b 16 z4.2.1 (fun v7 => if x1 < v7 then (j_X2_dropEnded_40_t3 b x1 z4 (z4.1, z4.2.2)) else (wr z4.2.2 12 b 16 z4.2.1 (-1 : Int32) (fun D8 => j_X2_dropEnded_40_t3 b x1 z4 (z4.1 + (1 : Int32), D8)))))))
def f_X2_dropEnded (b : Nat) (x1 : Int32) (D : Dt) : Option (Int32 × Dt) :=
  (lp (l_X2_dropEnded_4 b x1) FU ((0 : Int32), (0 : Int32), D)).bind (fun e1 => some (e1.1, e1.2))
def l_X6_advance_24 (b : Nat) (z24 : Int32 × Int32 × Dt) : Option ((Int32 × Int32 × Dt) ⊕ (Int32 × Dt)) :=
  if (12 : Int32) ≤ z24.2.1 then (some (Sum.inr (z24.1, z24.2.2))) else ((f_X5_hasOld b z24.2.1 z24.2.2).bind (fun o4 => if o4 = 0 then (some (Sum.inl (z24.1, z24.2.1 + (1 : Int32), z24.2.2))) else (rd z24.2.2 8 b 12 z24.2.1 (fun v5 => if (z24.2.2 0 b 2) < v5 then (some (Sum.inl (z24.1, z24.2.1 + (1 : Int32), z24.2.2))) else ((f_X6_giveUpOld b z24.2.1 z24.2.2).bind (fun o6 => some (Sum.inl (z24.1 + o6.1, z24.2.1 + (1 : Int32), o6.2))))))))
def f_X6_advance (b : Nat) (x1 : Int32) (D : Dt) : Option (Int32 × Dt) :=
  pu D 0 b 2 ((D 0 b 2) + x1) (fun D1 => (f_X2_dropEnded b (D1 0 b 2) D1).bind (fun o2 => (lp (l_X6_advance_24 b) FU (o2.1, (0 : Int32), o2.2)).bind (fun e3 => some (e3.1, e3.2))))
def f_X9_pass (x1 : Int32) (D : Dt) : Option (Int32 × Dt) :=
  (f_X9_isIn x1 (1 : Int32) (1000 : Int32) D).bind (fun o1 => if o1 = 0 then (some ((-1 : Int32), D)) else (if ((D 0 0 2) + x1) ≤ (9999 : Int32) then ((f_X1_keep 0 D).bind (fun D2 => (f_X6_advance 0 x1 D2).bind (fun o3 => some (o3.1, o3.2)))) else (some ((-3 : Int32), D))))
def j_X9_setTimes_62_t4 (x1 : Int32) (x2 : Int32) (D3 : Dt) (t4 : Int32) : Option (Int32 × Dt) :=
  pu D3 0 0 3 x1 (fun D5 => pu D5 0 0 4 x2 (fun D6 => if t4 = 0 then (some ((0 : Int32), D6)) else (some ((1 : Int32), D6))))
def f_X9_setTimes (x1 : Int32) (x2 : Int32) (D : Dt) : Option (Int32 × Dt) :=
  (f_X9_isIn x1 (1 : Int32) (500 : Int32) D).bind (fun o1 => if o1 = 0 then (some ((-1 : Int32), D)) else ((f_X9_isIn x2 (0 : Int32) (500 : Int32) D).bind (fun o2 => if o2 = 0 then (some ((-1 : Int32), D)) else ((f_X1_keep 0 D).bind (fun D3 => if (D3 0 0 3) = x1 then (if (D3 0 0 4) = x2 then (j_X9_setTimes_62_t4 x1 x2 D3 (0 : Int32)) else (j_X9_setTimes_62_t4 x1 x2 D3 (1 : Int32))) else (j_X9_setTimes_62_t4 x1 x2 D3 (1 : Int32)))))))
def j_X2_firstEnd_33_t3 (b : Nat) (D : Dt) (z6 : Int32 × Int32) (t3 : Int32) : Option ((Int32 × Int32) ⊕ (Int32)) :=
  rd D 14 b 16 z6.2 (fun v4 => if v4 = (-1 : Int32) then (some (Sum.inl (t3, z6.2 + (1 : Int32)))) else (rd D 15 b 16 z6.2 (fun v5 => some (Sum.inl (if v5 < t3 then v5 else t3, z6.2 + (1 : Int32))))))
def l_X2_firstEnd_6 (b : Nat) (D : Dt) (z6 : Int32 × Int32) : Option ((Int32 × Int32) ⊕ (Int32)) :=
  if (16 : Int32) ≤ z6.2 then (some (Sum.inr z6.1)) else (rd D 12 b 16 z6.2 (fun v2 => if v2 = (-1 : Int32) then (j_X2_firstEnd_33_t3 b D z6 z6.1) else (rd D 13 b 16 z6.2 (fun v6 => j_X2_firstEnd_33_t3 b D z6 (if v6 < z6.1 then v6 else z6.1)))))
def f_X2_firstEnd (b : Nat) (D : Dt) : Option (Int32) :=
  (lp (l_X2_firstEnd_6 b D) FU ((10999 : Int32), (0 : Int32))).bind (fun e1 => some e1)
def l_X5_firstOverlapEnd_6 (b : Nat) (D : Dt) (z6 : Int32 × Int32) : Option ((Int32 × Int32) ⊕ (Int32)) :=
  if (12 : Int32) ≤ z6.2 then (some (Sum.inr z6.1)) else ((f_X5_hasOld b z6.2 D).bind (fun o2 => if o2 = 0 then (some (Sum.inl (z6.1, z6.2 + (1 : Int32)))) else (rd D 8 b 12 z6.2 (fun v3 => some (Sum.inl (if v3 < z6.1 then v3 else z6.1, z6.2 + (1 : Int32)))))))
def f_X5_firstOverlapEnd (b : Nat) (D : Dt) : Option (Int32) :=
  (lp (l_X5_firstOverlapEnd_6 b D) FU ((10999 : Int32), (0 : Int32))).bind (fun e1 => some e1)
def f_X9_nextEvent (D : Dt) : Option (Int32) :=
  (f_X2_firstEnd 0 D).bind (fun o1 => (f_X5_firstOverlapEnd 0 D).bind (fun o2 => if (if o2 < o1 then o2 else o1) = (10999 : Int32) then (some (-9 : Int32)) else (some (if o2 < o1 then o2 else o1))))
def l_X5_currentBlocks_4 (b : Nat) (D : Dt) (z4 : Int32 × Int32) : Option ((Int32 × Int32) ⊕ (Int32)) :=
  if (12 : Int32) ≤ z4.2 then (some (Sum.inr z4.1)) else ((f_X5_hasBlock b z4.2 D).bind (fun o2 => if o2 = 0 then (some (Sum.inl (z4.1 + (0 : Int32), z4.2 + (1 : Int32)))) else (some (Sum.inl (z4.1 + (1 : Int32), z4.2 + (1 : Int32))))))
def f_X5_currentBlocks (b : Nat) (D : Dt) : Option (Int32) :=
  (lp (l_X5_currentBlocks_4 b D) FU ((0 : Int32), (0 : Int32))).bind (fun e1 => some e1)
def l_X5_oldBlocks_4 (b : Nat) (D : Dt) (z4 : Int32 × Int32) : Option ((Int32 × Int32) ⊕ (Int32)) :=
  if (12 : Int32) ≤ z4.2 then (some (Sum.inr z4.1)) else ((f_X5_hasOld b z4.2 D).bind (fun o2 => if o2 = 0 then (some (Sum.inl (z4.1 + (0 : Int32), z4.2 + (1 : Int32)))) else (some (Sum.inl (z4.1 + (1 : Int32), z4.2 + (1 : Int32))))))
def f_X5_oldBlocks (b : Nat) (D : Dt) : Option (Int32) :=
  (lp (l_X5_oldBlocks_4 b D) FU ((0 : Int32), (0 : Int32))).bind (fun e1 => some e1)
def f_X2_members (b : Nat) (D : Dt) : Option (Int32) :=
  (f_X2_membersOf b (-1 : Int32) D).bind (fun o1 => some ((16 : Int32) - o1))
def l_X2_leases_4 (b : Nat) (D : Dt) (z4 : Int32 × Int32) : Option ((Int32 × Int32) ⊕ (Int32)) :=
  if (16 : Int32) ≤ z4.2 then (some (Sum.inr z4.1)) else ((f_X2_leasesHeld b z4.2 D).bind (fun o2 => some (Sum.inl (z4.1 + o2, z4.2 + (1 : Int32)))))
def f_X2_leases (b : Nat) (D : Dt) : Option (Int32) :=
  (lp (l_X2_leases_4 b D) FU ((0 : Int32), (0 : Int32))).bind (fun e1 => some e1)
def f_X9_count (x1 : Int32) (D : Dt) : Option (Int32 × Dt) :=
  if x1 = (0 : Int32) then (some (D 0 0 2, D)) else (if x1 = (1 : Int32) then (some (D 1 0 1, D)) else (if x1 = (2 : Int32) then ((f_X5_currentBlocks 0 D).bind (fun o1 => some (o1, D))) else (if x1 = (3 : Int32) then ((f_X5_oldBlocks 0 D).bind (fun o2 => some (o2, D))) else (if x1 = (4 : Int32) then ((f_X2_members 0 D).bind (fun o3 => some (o3, D))) else (if x1 = (5 : Int32) then ((f_X2_leases 0 D).bind (fun o4 => some (o4, D))) else (if x1 = (6 : Int32) then (some (D 0 0 5, D)) else (if x1 = (7 : Int32) then ((f_X7_take 0 0 D).bind (fun D5 => (f_X0_addresses 0 D5).bind (fun o6 => some (o6, D5)))) else (if x1 = (8 : Int32) then (some (D 24 0 2, D)) else (some ((-1 : Int32), D))))))))))
def l_X7_listRoutes_18 (b : Nat) (b2 : Nat) (z18 : Int32 × Int32 × Int32 × Dt) : Option ((Int32 × Int32 × Int32 × Dt) ⊕ (Int32 × Int32 × Dt)) :=
  if (24 : Int32) ≤ z18.2.2.1 then (some (Sum.inr (z18.1, z18.2.1, z18.2.2.2))) else (if (z18.2.2.2 16 b 2) ≤ z18.2.2.1 then (some (Sum.inr (z18.1, z18.2.1, z18.2.2.2))) else (rd z18.2.2.2 17 b 24 z18.2.2.1 (fun v4 => if v4 = z18.2.1 then (rd z18.2.2.2 18 b 24 z18.2.2.1 (fun v5 => some (Sum.inl (z18.1, v5, z18.2.2.1 + (1 : Int32), z18.2.2.2)))) else ((f_X0_addStretch b2 z18.1 z18.2.1 z18.2.2.2).bind (fun D6 => rd D6 17 b 24 z18.2.2.1 (fun v7 => rd D6 18 b 24 z18.2.2.1 (fun v8 => some (Sum.inl (v7, v8, z18.2.2.1 + (1 : Int32), D6)))))))))
def f_X7_listRoutes (b : Nat) (b1 : Nat) (b2 : Nat) (D : Dt) : Option (Dt) :=
  (f_X7_listUsed b b1 D).bind (fun D1 => pu D1 19 b2 2 (0 : Int32) (fun D2 => (lp (l_X7_listRoutes_18 b b2) FU ((0 : Int32), (0 : Int32), (0 : Int32), D2)).bind (fun e3 => (f_X0_addStretch b2 e3.1 e3.2.1 e3.2.2).bind (fun D9 => some D9))))
def f_X9_routeCount (D : Dt) : Option (Int32 × Dt) :=
  (f_X7_listRoutes 0 0 3 D).bind (fun D1 => some (D1 19 3 2, D1))
def f_X9_route (x1 : Int32) (x2 : Int32) (D : Dt) : Option (Int32 × Dt) :=
  if x1 < 0 then (some ((-1 : Int32), D)) else ((f_X9_isIn x2 (0 : Int32) (1 : Int32) D).bind (fun o1 => if o1 = 0 then (some ((-1 : Int32), D)) else ((f_X7_listRoutes 0 0 3 D).bind (fun D2 => (f_X0_holds 3 x1 D2).bind (fun o3 => if o3 = 0 then (some ((-9 : Int32), D2)) else (if x2 = 0 then (rd D2 20 3 292 x1 (fun v5 => some (v5, D2))) else (rd D2 21 3 292 x1 (fun v4 => some (v4, D2)))))))))
def f_X3_imagine (b1 : Nat) (D : Dt) : Option (Dt) :=
  (f_X5_copyFrom 8 b1 D).bind (fun D1 => (f_X7_take 1 8 D1).bind (fun D2 => some D2))
def f_X3_tryMove (x1 : Int32) (D : Dt) : Option (Int32 × Dt) :=
  rd D 4 8 12 x1 (fun v1 => rd D 5 8 12 x1 (fun v2 => (f_X0_placeBy 1 (D 1 8 0) v2 D).bind (fun o3 => pu D 27 0 3 o3 (fun D4 => if (D4 27 0 3) = (-1 : Int32) then (some ((0 : Int32), D4)) else (wr D4 4 8 12 x1 (D4 27 0 3) (fun D5 => (f_X7_take 2 8 D5).bind (fun D6 => (f_X0_fragmentationIndex 2 D6).bind (fun o7 => pu D6 27 0 4 o7 (fun D8 => wr D8 4 8 12 x1 v1 (fun D9 => some ((1 : Int32), D9)))))))))))
def f_X9_fragmentationAfter (x1 : Int32) (D : Dt) : Option (Int32 × Dt) :=
  (f_X9_isNetwork x1 D).bind (fun o1 => if o1 = 0 then (some ((-1 : Int32), D)) else ((f_X5_isMovable 0 x1 D).bind (fun o2 => if o2 = 0 then (some ((-2 : Int32), D)) else ((f_X3_imagine 0 D).bind (fun D3 => (f_X3_tryMove x1 D3).bind (fun o4 => if o4.1 = 0 then (some ((-9 : Int32), o4.2)) else (some (o4.2 27 0 4, o4.2))))))))
def l_X3_findBest_21 (z21 : Int32 × Dt) : Option ((Int32 × Dt) ⊕ (Dt)) :=
  if (12 : Int32) ≤ z21.1 then (some (Sum.inr z21.2)) else ((f_X5_isMovable 8 z21.1 z21.2).bind (fun o5 => if o5 = 0 then (some (Sum.inl (z21.1 + (1 : Int32), z21.2))) else ((f_X3_tryMove z21.1 z21.2).bind (fun o6 => if o6.1 = 0 then (some (Sum.inl (z21.1 + (1 : Int32), o6.2))) else (if (o6.2 27 0 7) ≤ (o6.2 27 0 4) then (some (Sum.inl (z21.1 + (1 : Int32), o6.2))) else (pu o6.2 27 0 5 z21.1 (fun D7 => pu D7 27 0 6 (D7 27 0 3) (fun D8 => pu D8 27 0 7 (D8 27 0 4) (fun D9 => some (Sum.inl (z21.1 + (1 : Int32), D9)))))))))))
def f_X3_findBest (D : Dt) : Option (Int32 × Dt) :=
  pu D 27 0 5 (-1 : Int32) (fun D1 => (f_X0_fragmentationIndex 1 D1).bind (fun o2 => pu D1 27 0 7 o2 (fun D3 => (lp l_X3_findBest_21 FU ((0 : Int32), D3)).bind (fun e4 => if (e4 27 0 5) = (-1 : Int32) then (some ((0 : Int32), e4)) else (some ((1 : Int32), e4))))))
def f_X9_bestMove (D : Dt) : Option (Int32 × Dt) :=
  (f_X3_imagine 0 D).bind (fun D1 => (f_X3_findBest D1).bind (fun o2 => if o2.1 = 0 then (some ((-9 : Int32), o2.2)) else (some (o2.2 27 0 5, o2.2))))
def l_X3_fillPlan_12 (x2 : Int32) (z12 : Int32 × Dt) : Option ((Int32 × Dt) ⊕ (Dt)) :=
  if x2 ≤ z12.1 then (some (Sum.inr z12.2)) else (if (12 : Int32) ≤ z12.1 then (some (Sum.inr z12.2)) else ((f_X3_findBest z12.2).bind (fun o4 => if o4.1 = 0 then (some (Sum.inr o4.2)) else (wr o4.2 28 0 12 z12.1 (o4.2 27 0 5) (fun D5 => wr D5 29 0 12 z12.1 (D5 27 0 6) (fun D6 => wr D6 30 0 12 z12.1 (D6 27 0 7) (fun D7 => pu D7 27 0 11 ((D7 27 0 11) + (1 : Int32)) (fun D8 => (f_X9_isNetwork (D8 27 0 5) D8).bind (fun o9 => if o9 = 0 then (some (Sum.inl (z12.1 + (1 : Int32), D8))) else (wr D8 4 8 12 (D8 27 0 5) (D8 27 0 6) (fun D10 => (f_X7_take 1 8 D10).bind (fun D11 => some (Sum.inl (z12.1 + (1 : Int32), D11))))))))))))))
def f_X3_fillPlan (b1 : Nat) (x2 : Int32) (D : Dt) : Option (Dt) :=
  pu D 27 0 11 (0 : Int32) (fun D1 => (f_X3_imagine b1 D1).bind (fun D2 => (lp (l_X3_fillPlan_12 x2) FU ((0 : Int32), D2)).bind (fun e3 => some e3)))
def f_X9_makePlan (x1 : Int32) (D : Dt) : Option (Int32 × Dt) :=
  (f_X9_isIn x1 (1 : Int32) (12 : Int32) D).bind (fun o1 => if o1 = 0 then (some ((-1 : Int32), D)) else ((f_X3_fillPlan 0 x1 D).bind (fun D2 => some (D2 27 0 11, D2))))
def f_X3_isPlanned (x1 : Int32) (D : Dt) : Option (Int32) :=
  if x1 < 0 then (some (0 : Int32)) else (if (D 27 0 11) ≤ x1 then (some (0 : Int32)) else (if (12 : Int32) ≤ x1 then (some (0 : Int32)) else (some (1 : Int32))))
def f_X3_planPart (x1 : Int32) (x2 : Int32) (D : Dt) : Option (Int32) :=
  if x2 = (0 : Int32) then (rd D 28 0 12 x1 (fun v1 => some v1)) else (if x2 = (1 : Int32) then (rd D 29 0 12 x1 (fun v2 => some v2)) else (rd D 30 0 12 x1 (fun v3 => some v3)))
def f_X9_plan (x1 : Int32) (x2 : Int32) (D : Dt) : Option (Int32) :=
  if x1 < 0 then (some (-1 : Int32)) else ((f_X9_isIn x2 (0 : Int32) (2 : Int32) D).bind (fun o1 => if o1 = 0 then (some (-1 : Int32)) else ((f_X3_isPlanned x1 D).bind (fun o2 => if o2 = 0 then (some (-9 : Int32)) else ((f_X3_planPart x1 x2 D).bind (fun o3 => some o3))))))
def f_X1_giveBack (b1 : Nat) (D : Dt) : Option (Dt) :=
  gd (decide (¬ (6 : Int32) = 0)) (letV ((((D 24 0 1) + (6 : Int32)) - (1 : Int32)) - (((D 24 0 1) + (6 : Int32)) - (1 : Int32)) / (6 : Int32) * (6 : Int32)) (fun v1 => (f_X1_stateAt v1 D).bind (fun o2 => gd (decide (2 ≤ o2.1) && decide (o2.1 < 8)) (if (o2.2 24 0 2) ≤ 0 then (some o2.2) else ((f_X6_copyFrom b1 o2.1 o2.2).bind (fun D3 => pu D3 24 0 1 v1 (fun D4 => pu D4 24 0 2 ((D4 24 0 2) - (1 : Int32)) (fun D5 => some D5))))))))
def f_X9_undo (D : Dt) : Option (Int32 × Dt) :=
  if (D 24 0 2) = 0 then (some ((-2 : Int32), D)) else ((f_X1_giveBack 0 D).bind (fun D1 => some (D1 24 0 2, D1)))
def f_X10_in (x0 : Int32) (x1 : Int32) (x2 : Int32) (D : Dt) : Option (Int32) :=
  if x0 < x1 then (some (0 : Int32)) else (if x2 < x0 then (some (0 : Int32)) else (some (1 : Int32)))
def f_X10_net (x0 : Int32) (D : Dt) : Option (Int32) :=
  some ((14 : Int32) + ((5 : Int32) * x0))
def f_X10_hostAt (x0 : Int32) (D : Dt) : Option (Int32) :=
  some ((74 : Int32) + ((6 : Int32) * x0))
def f_X10_leaves (x1 : Int32) (D : Dt) : Option (Dt) :=
  (f_X10_hostAt x1 D).bind (fun o1 => wr D 33 0 170 o1 (-1 : Int32) (fun D2 => (f_X10_hostAt x1 D2).bind (fun o3 => wr D2 33 0 170 (o3 + (2 : Int32)) (-1 : Int32) (fun D4 => (f_X10_hostAt x1 D4).bind (fun o5 => wr D4 33 0 170 (o5 + (4 : Int32)) (-1 : Int32) (fun D6 => some D6))))))
def l_X10_empties_2 (z2 : Int32 × Dt) : Option ((Int32 × Dt) ⊕ (Dt)) :=
  if (170 : Int32) ≤ z2.1 then (some (Sum.inr z2.2)) else (wr z2.2 33 0 170 z2.1 (0 : Int32) (fun D2 => some (Sum.inl (z2.1 + (1 : Int32), D2))))
def l_X10_empties_40 (z40 : Int32 × Dt) : Option ((Int32 × Dt) ⊕ (Dt)) :=
  if (12 : Int32) ≤ z40.1 then (some (Sum.inr z40.2)) else ((f_X10_net z40.1 z40.2).bind (fun o6 => wr z40.2 33 0 170 o6 (-1 : Int32) (fun D7 => (f_X10_net z40.1 D7).bind (fun o8 => wr D7 33 0 170 (o8 + (2 : Int32)) (-1 : Int32) (fun D9 => some (Sum.inl (z40.1 + (1 : Int32), D9)))))))
def l_X10_empties_76 (z76 : Int32 × Dt) : Option ((Int32 × Dt) ⊕ (Dt)) :=
  if (16 : Int32) ≤ z76.1 then (some (Sum.inr z76.2)) else ((f_X10_leaves z76.1 z76.2).bind (fun D11 => some (Sum.inl (z76.1 + (1 : Int32), D11))))
def f_X10_empties (D : Dt) : Option (Dt) :=
  (lp l_X10_empties_2 FU ((0 : Int32), D)).bind (fun e1 => wr e1 33 0 170 (1 : Int32) (60 : Int32) (fun D3 => wr D3 33 0 170 (2 : Int32) (100 : Int32) (fun D4 => (lp l_X10_empties_40 FU ((0 : Int32), D4)).bind (fun e5 => (lp l_X10_empties_76 FU ((0 : Int32), e5)).bind (fun e10 => some e10)))))
def l_X10_note_52 (z52 : Int32 × Dt) : Option ((Int32 × Dt) ⊕ (Dt)) :=
  if (170 : Int32) ≤ z52.1 then (some (Sum.inr z52.2)) else (rd z52.2 33 0 170 z52.1 (fun v3 => wr z52.2 34 0 1020 (((170 : Int32) * (z52.2 32 0 2)) + z52.1) v3 (fun D4 => some (Sum.inl (z52.1 + (1 : Int32), D4)))))
def j_X10_note_50_t1 (t1 : Dt) : Option (Dt) :=
  (lp l_X10_note_52 FU ((0 : Int32), t1)).bind (fun e2 => pu e2 32 0 2 ((e2 32 0 2) + (1 : Int32)) (fun D5 => some D5))
def l_X10_note_11 (z11 : Int32 × Dt) : Option ((Int32 × Dt) ⊕ (Dt)) :=
  if (850 : Int32) ≤ z11.1 then (some (Sum.inr z11.2)) else (rd z11.2 34 0 1020 (z11.1 + (170 : Int32)) (fun v7 => wr z11.2 34 0 1020 z11.1 v7 (fun D8 => some (Sum.inl (z11.1 + (1 : Int32), D8)))))
def f_X10_note (D : Dt) : Option (Dt) :=
  if (D 32 0 2) = (6 : Int32) then ((lp l_X10_note_11 FU ((0 : Int32), D)).bind (fun e6 => pu e6 32 0 2 ((e6 32 0 2) - (1 : Int32)) (fun D9 => j_X10_note_50_t1 D9))) else (j_X10_note_50_t1 D)
def l_X10_undo_22 (z22 : Int32 × Dt) : Option ((Int32 × Dt) ⊕ (Dt)) :=
  if (170 : Int32) ≤ z22.1 then (some (Sum.inr z22.2)) else (rd z22.2 34 0 1020 (((170 : Int32) * (z22.2 32 0 2)) + z22.1) (fun v3 => wr z22.2 33 0 170 z22.1 v3 (fun D4 => some (Sum.inl (z22.1 + (1 : Int32), D4)))))
def f_X10_undo (D : Dt) : Option (Int32 × Dt) :=
  if (D 32 0 2) = 0 then (some ((-2 : Int32), D)) else (pu D 32 0 2 ((D 32 0 2) - (1 : Int32)) (fun D1 => (lp l_X10_undo_22 FU ((0 : Int32), D1)).bind (fun e2 => some (e2 32 0 2, e2))))
def l_X10_keepsApart_2 (z2 : Int32 × Dt) : Option ((Int32 × Dt) ⊕ (Dt)) :=
  if (170 : Int32) ≤ z2.1 then (some (Sum.inr z2.2)) else (rd z2.2 33 0 170 z2.1 (fun v2 => wr z2.2 36 0 170 z2.1 v2 (fun D3 => some (Sum.inl (z2.1 + (1 : Int32), D3)))))
def f_X10_keepsApart (D : Dt) : Option (Dt) :=
  (lp l_X10_keepsApart_2 FU ((0 : Int32), D)).bind (fun e1 => some e1)
def l_X10_exchanges_2 (z2 : Int32 × Dt) : Option ((Int32 × Dt) ⊕ (Dt)) :=
  if (170 : Int32) ≤ z2.1 then (some (Sum.inr z2.2)) else (rd z2.2 33 0 170 z2.1 (fun v2 => rd z2.2 36 0 170 z2.1 (fun v3 => wr z2.2 33 0 170 z2.1 v3 (fun D4 => wr D4 36 0 170 z2.1 v2 (fun D5 => some (Sum.inl (z2.1 + (1 : Int32), D5)))))))
def f_X10_exchanges (D : Dt) : Option (Dt) :=
  (lp l_X10_exchanges_2 FU ((0 : Int32), D)).bind (fun e1 => some e1)
def f_X10_size (x0 : Int32) (D : Dt) : Option (Int32) :=
  some ((1 : Int32) <<< (((16 : Int32) - x0) &&& 31))
def f_X10_blockAt (x1 : Int32) (D : Dt) : Option (Int32) :=
  gd (decide (¬ (2 : Int32) = 0)) ((f_X10_net (x1 / (2 : Int32)) D).bind (fun o1 => gd (decide (¬ (2 : Int32) = 0)) (rd D 33 0 170 (o1 + ((2 : Int32) * (x1 - x1 / (2 : Int32) * (2 : Int32)))) (fun v2 => some v2))))
def f_X10_lengthAt (x1 : Int32) (D : Dt) : Option (Int32) :=
  gd (decide (¬ (2 : Int32) = 0)) ((f_X10_net (x1 / (2 : Int32)) D).bind (fun o1 => gd (decide (¬ (2 : Int32) = 0)) (rd D 33 0 170 ((o1 + ((2 : Int32) * (x1 - x1 / (2 : Int32) * (2 : Int32)))) + (1 : Int32)) (fun v2 => some v2))))
def j_X10_assignedIn_75_t7 (z5 : Int32 × Int32) (t3 : Int32) (t7 : Int32) : Option ((Int32 × Int32) ⊕ (Int32)) :=
  if t7 ≤ t3 then (some (Sum.inl (z5.1 + (0 : Int32), z5.2 + (1 : Int32)))) else (some (Sum.inl (z5.1 + (t7 - t3), z5.2 + (1 : Int32))))
def j_X10_assignedIn_37_t3 (x1 : Int32) (x2 : Int32) (D : Dt) (z5 : Int32 × Int32) (o2 : Int32) (t3 : Int32) : Option ((Int32 × Int32) ⊕ (Int32)) :=
  (f_X10_lengthAt z5.2 D).bind (fun o4 => (f_X10_size o4 D).bind (fun o5 => (f_X10_size x2 D).bind (fun o6 => if (x1 + o6) ≤ (o2 + o5) then ((f_X10_size x2 D).bind (fun o8 => j_X10_assignedIn_75_t7 z5 t3 (x1 + o8))) else (j_X10_assignedIn_75_t7 z5 t3 (o2 + o5)))))
def l_X10_assignedIn_5 (x1 : Int32) (x2 : Int32) (D : Dt) (z5 : Int32 × Int32) : Option ((Int32 × Int32) ⊕ (Int32)) :=
  if (24 : Int32) ≤ z5.2 then (some (Sum.inr z5.1)) else ((f_X10_blockAt z5.2 D).bind (fun o2 => if o2 < 0 then (some (Sum.inl (z5.1, z5.2 + (1 : Int32)))) else (if o2 ≤ x1 then (j_X10_assignedIn_37_t3 x1 x2 D z5 o2 x1) else (j_X10_assignedIn_37_t3 x1 x2 D z5 o2 o2))))
def f_X10_assignedIn (x1 : Int32) (x2 : Int32) (D : Dt) : Option (Int32) :=
  (lp (l_X10_assignedIn_5 x1 x2 D) FU ((0 : Int32), (0 : Int32))).bind (fun e1 => some e1)
def l_X10_behind_6 (x1 : Int32) (D : Dt) (z6 : Int32 × Int32) : Option ((Int32 × Int32) ⊕ (Int32)) :=
  if (24 : Int32) ≤ z6.2 then (some (Sum.inr z6.1)) else ((f_X10_blockAt z6.2 D).bind (fun o2 => if o2 < 0 then (some (Sum.inl (z6.1, z6.2 + (1 : Int32)))) else (if x1 < o2 then (some (Sum.inl (z6.1, z6.2 + (1 : Int32)))) else ((f_X10_lengthAt z6.2 D).bind (fun o3 => (f_X10_size o3 D).bind (fun o4 => if (o2 + o4) ≤ x1 then (some (Sum.inl (z6.1, z6.2 + (1 : Int32)))) else ((f_X10_lengthAt z6.2 D).bind (fun o5 => (f_X10_size o5 D).bind (fun o6 => some (Sum.inl (o2 + o6, z6.2 + (1 : Int32))))))))))))
def f_X10_behind (x1 : Int32) (D : Dt) : Option (Int32) :=
  (lp (l_X10_behind_6 x1 D) FU (x1 + (1 : Int32), (0 : Int32))).bind (fun e1 => some e1)
def l_X10_findsFree_51 (z31 : Int32 × Dt) (z51 : Int32) : Option ((Int32) ⊕ (Int32)) :=
  if (17 : Int32) ≤ z51 then (some (Sum.inr z51)) else ((f_X10_size z51 z31.2).bind (fun o7 => gd (decide (¬ o7 = 0)) (if (z31.1 - z31.1 / o7 * o7) = 0 then ((f_X10_assignedIn z31.1 z51 z31.2).bind (fun o8 => if o8 ≤ 0 then (some (Sum.inr z51)) else (some (Sum.inl (z51 + (1 : Int32)))))) else (some (Sum.inl (z51 + (1 : Int32)))))))
def l_X10_findsFree_31 (x1 : Int32) (v1 : Int32) (o3 : Int32) (z31 : Int32 × Dt) : Option ((Int32 × Dt) ⊕ (Dt)) :=
  if (v1 + o3) ≤ z31.1 then (some (Sum.inr z31.2)) else (rd z31.2 33 0 170 (((6 : Int32) + ((2 : Int32) * x1)) + (1 : Int32)) (fun v5 => (lp (l_X10_findsFree_51 z31) FU v5).bind (fun e6 => if (17 : Int32) ≤ e6 then ((f_X10_behind z31.1 z31.2).bind (fun o9 => some (Sum.inl (o9, z31.2)))) else (wr z31.2 37 0 800 (z31.2 32 0 8) z31.1 (fun D10 => wr D10 38 0 800 (D10 32 0 8) e6 (fun D11 => pu D11 32 0 8 ((D11 32 0 8) + (1 : Int32)) (fun D12 => (f_X10_size e6 D12).bind (fun o13 => pu D12 32 0 9 ((D12 32 0 9) + o13) (fun D14 => (f_X10_size e6 D14).bind (fun o15 => some (Sum.inl (z31.1 + o15, D14))))))))))))
def f_X10_findsFree (x1 : Int32) (D : Dt) : Option (Dt) :=
  rd D 33 0 170 ((6 : Int32) + ((2 : Int32) * x1)) (fun v1 => rd D 33 0 170 (((6 : Int32) + ((2 : Int32) * x1)) + (1 : Int32)) (fun v2 => (f_X10_size v2 D).bind (fun o3 => (lp (l_X10_findsFree_31 x1 v1 o3) FU (v1, D)).bind (fun e4 => some e4))))
def l_X10_findsAllFree_12 (z12 : Int32 × Dt) : Option ((Int32 × Dt) ⊕ (Dt)) :=
  rd z12.2 33 0 170 (5 : Int32) (fun v4 => if v4 ≤ z12.1 then (some (Sum.inr z12.2)) else ((f_X10_findsFree z12.1 z12.2).bind (fun D5 => some (Sum.inl (z12.1 + (1 : Int32), D5)))))
def f_X10_findsAllFree (D : Dt) : Option (Dt) :=
  pu D 32 0 8 (0 : Int32) (fun D1 => pu D1 32 0 9 (0 : Int32) (fun D2 => (lp l_X10_findsAllFree_12 FU ((0 : Int32), D2)).bind (fun e3 => some e3)))
def f_X10_isBetter (x1 : Int32) (x2 : Int32) (D : Dt) : Option (Int32) :=
  rd D 38 0 800 x1 (fun v1 => rd D 38 0 800 x2 (fun v2 => rd D 37 0 800 x1 (fun v3 => rd D 37 0 800 x2 (fun v4 => rd D 33 0 170 (3 : Int32) (fun v5 => if v5 = (0 : Int32) then (if 0 ≤ (v3 - v4) then (some (0 : Int32)) else (some (1 : Int32))) else (if v5 = (1 : Int32) then (if 0 < (v1 - v2) then (some (1 : Int32)) else (if (v1 - v2) = 0 then (if 0 ≤ (v3 - v4) then (some (0 : Int32)) else (some (1 : Int32))) else (some (0 : Int32)))) else (if v5 = (2 : Int32) then (if (v1 - v2) < 0 then (some (1 : Int32)) else (if (v1 - v2) = 0 then (if 0 ≤ (v3 - v4) then (some (0 : Int32)) else (some (1 : Int32))) else (some (0 : Int32)))) else (if 0 < (v1 - v2) then (some (1 : Int32)) else (if (v1 - v2) = 0 then (if (v3 - v4) ≤ 0 then (some (0 : Int32)) else (some (1 : Int32))) else (some (0 : Int32)))))))))))
def l_X10_places_8 (x1 : Int32) (D1 : Dt) (z8 : Int32 × Int32) : Option ((Int32 × Int32) ⊕ (Int32)) :=
  if (D1 32 0 8) ≤ z8.2 then (some (Sum.inr z8.1)) else (rd D1 38 0 800 z8.2 (fun v3 => if x1 < v3 then (some (Sum.inl (z8.1, z8.2 + (1 : Int32)))) else (if z8.1 < 0 then (some (Sum.inl (z8.2, z8.2 + (1 : Int32)))) else ((f_X10_isBetter z8.2 z8.1 D1).bind (fun o4 => if o4 = 0 then (some (Sum.inl (z8.1, z8.2 + (1 : Int32)))) else (some (Sum.inl (z8.2, z8.2 + (1 : Int32)))))))))
def f_X10_places (x1 : Int32) (D : Dt) : Option (Int32 × Dt) :=
  (f_X10_findsAllFree D).bind (fun D1 => (lp (l_X10_places_8 x1 D1) FU ((-1 : Int32), (0 : Int32))).bind (fun e2 => if 0 ≤ e2 then (rd D1 37 0 800 e2 (fun v5 => rd D1 33 0 170 (3 : Int32) (fun v6 => if v6 = (3 : Int32) then (rd D1 38 0 800 e2 (fun v7 => (f_X10_size v7 D1).bind (fun o8 => (f_X10_size x1 D1).bind (fun o9 => some (v5 + (o8 - o9), D1))))) else (some (v5 + (0 : Int32), D1))))) else (some ((-1 : Int32), D1))))
def f_X10_isPool (x1 : Int32) (D : Dt) : Option (Int32) :=
  rd D 33 0 170 (5 : Int32) (fun v1 => (f_X10_in x1 (0 : Int32) (v1 - (1 : Int32)) D).bind (fun o2 => gd (isb o2) (some o2)))
def f_X10_appendCharacter (x1 : Int32) (D : Dt) : Option (Int32 × Dt) :=
  (f_X10_in x1 (0 : Int32) (255 : Int32) D).bind (fun o1 => if o1 = 0 then (some ((-1 : Int32), D)) else (if (D 32 0 4) = (150 : Int32) then (some ((-3 : Int32), D)) else (wr D 35 0 150 (D 32 0 4) (vp_nar .byte x1.toInt8.toInt32) (fun D2 => pu D2 32 0 4 ((D2 32 0 4) + (1 : Int32)) (fun D3 => some (D3 32 0 4, D3))))))
def f_X10_clearText (D : Dt) : Option (Int32 × Dt) :=
  pu D 32 0 4 (0 : Int32) (fun D1 => some (D 32 0 4, D1))
def f_X10_here (D : Dt) : Option (Int32) :=
  if (D 32 0 4) ≤ (D 32 0 10) then (some (-1 : Int32)) else (rd D 35 0 150 (D 32 0 10) (fun v1 => some (v1 &&& (255 : Int32))))
def l_X10_readsToken_0 (z0 : Dt) : Option ((Dt) ⊕ (Dt)) :=
  (f_X10_here z0).bind (fun o2 => if o2 = (32 : Int32) then (pu z0 32 0 10 ((z0 32 0 10) + (1 : Int32)) (fun D3 => some (Sum.inl D3))) else (some (Sum.inr z0)))
def j_X10_readsToken_289_t11 (D5 : Dt) (t11 : Int32) : Option (Dt) :=
  pu D5 32 0 12 t11 (fun D12 => (f_X10_here D12).bind (fun o13 => if 0 ≤ o13 then (pu D12 32 0 10 ((D12 32 0 10) + (1 : Int32)) (fun D14 => some D14)) else (pu D12 32 0 10 ((D12 32 0 10) + (0 : Int32)) (fun D15 => some D15))))
def l_X10_readsToken_154 (z154 : Dt) : Option ((Dt) ⊕ (Dt)) :=
  (f_X10_here z154).bind (fun o20 => (f_X10_in o20 (48 : Int32) (57 : Int32) z154).bind (fun o21 => if o21 = 0 then (some (Sum.inr z154)) else (if 0 ≤ (lg_cmp (mkL (z154 32 0 13) (z154 32 0 113)) (100000 : Int64)) then (puL z154 (mkL (z154 32 0 13) (z154 32 0 113)) (fun D22 => pu D22 32 0 10 ((D22 32 0 10) + (1 : Int32)) (fun D23 => some (Sum.inl D23)))) else ((f_X10_here z154).bind (fun o24 => puL z154 ((((10 : Int64) * (mkL (z154 32 0 13) (z154 32 0 113))) + o24.toInt64) - (48 : Int64)) (fun D25 => pu D25 32 0 10 ((D25 32 0 10) + (1 : Int32)) (fun D26 => some (Sum.inl D26))))))))
def j_X10_readsToken_153_t18 (D5 : Dt) (t18 : Int32) : Option (Dt) :=
  (lp l_X10_readsToken_154 FU D5).bind (fun e19 => if (5 : Int32) < ((e19 32 0 10) - (e19 32 0 11)) then (pu e19 32 0 12 (4 : Int32) (fun D27 => some D27)) else (if t18 = 0 then (pu e19 32 0 12 (2 : Int32) (fun D28 => some D28)) else (if ((e19 32 0 10) - (e19 32 0 11)) ≤ (1 : Int32) then (pu e19 32 0 12 (2 : Int32) (fun D29 => some D29)) else (pu e19 32 0 12 (4 : Int32) (fun D30 => some D30)))))
def l_X10_readsToken_54 (z54 : Dt) : Option ((Dt) ⊕ (Dt)) :=
  (f_X10_here z54).bind (fun o33 => (f_X10_in o33 (97 : Int32) (122 : Int32) z54).bind (fun o34 => if o34 = 0 then (some (Sum.inr z54)) else (if (8 : Int32) ≤ ((z54 32 0 10) - (z54 32 0 11)) then (puL z54 (-1 : Int64) (fun D35 => pu D35 32 0 10 ((D35 32 0 10) + (1 : Int32)) (fun D36 => some (Sum.inl D36)))) else ((f_X10_here z54).bind (fun o37 => puL z54 (((((27 : Int64) * (mkL (z54 32 0 13) (z54 32 0 113))) + o37.toInt64) - (97 : Int64)) + (1 : Int64)) (fun D38 => pu D38 32 0 10 ((D38 32 0 10) + (1 : Int32)) (fun D39 => some (Sum.inl D39))))))))
def f_X10_readsToken (D : Dt) : Option (Dt) :=
  (lp l_X10_readsToken_0 FU D).bind (fun e1 => pu e1 32 0 11 (e1 32 0 10) (fun D4 => puL D4 (0 : Int64) (fun D5 => (f_X10_here D5).bind (fun o6 => (f_X10_in o6 (97 : Int32) (122 : Int32) D5).bind (fun o7 => if o7 = 0 then ((f_X10_here D5).bind (fun o8 => (f_X10_in o8 (48 : Int32) (57 : Int32) D5).bind (fun o9 => if o9 = 0 then ((f_X10_here D5).bind (fun o10 => if 0 ≤ o10 then ((f_X10_here D5).bind (fun o16 => if o16 = (59 : Int32) then (j_X10_readsToken_289_t11 D5 (3 : Int32)) else (j_X10_readsToken_289_t11 D5 (4 : Int32)))) else (j_X10_readsToken_289_t11 D5 (0 : Int32)))) else ((f_X10_here D5).bind (fun o17 => if o17 = (48 : Int32) then (j_X10_readsToken_153_t18 D5 (1 : Int32)) else (j_X10_readsToken_153_t18 D5 (0 : Int32))))))) else (pu D5 32 0 12 (1 : Int32) (fun D31 => (lp l_X10_readsToken_54 FU D31).bind (fun e32 => some e32))))))))
def f_X10_takes (x1 : Int32) (D : Dt) : Option (Dt) :=
  if (D 32 0 14) = 0 then (if x1 = 0 then (gd (isb (1 : Int32)) (pu D 32 0 14 (1 : Int32) (fun D5 => if (D5 32 0 14) = 0 then ((f_X10_readsToken D5).bind (fun D6 => some D6)) else (some D5)))) else (gd (isb (0 : Int32)) (pu D 32 0 14 (0 : Int32) (fun D3 => if (D3 32 0 14) = 0 then ((f_X10_readsToken D3).bind (fun D4 => some D4)) else (some D3))))) else (gd (isb (1 : Int32)) (pu D 32 0 14 (1 : Int32) (fun D1 => if (D1 32 0 14) = 0 then ((f_X10_readsToken D1).bind (fun D2 => some D2)) else (some D1))))
def f_X10_number (D : Dt) : Option (Int32) :=
  if (D 32 0 12) = (2 : Int32) then (some ((mkL (D 32 0 13) (D 32 0 113)).toInt32)) else (some (-1 : Int32))
def l_X10_touchesPool_5 (x1 : Int32) (x2 : Int32) (D : Dt) (z5 : Int32 × Int32) : Option ((Int32 × Int32) ⊕ (Int32)) :=
  rd D 33 0 170 (5 : Int32) (fun v2 => if v2 ≤ z5.2 then (some (Sum.inr z5.1)) else (rd D 33 0 170 ((6 : Int32) + ((2 : Int32) * z5.2)) (fun v3 => if z5.1 = 0 then ((f_X10_size x2 D).bind (fun o4 => if (x1 + o4) ≤ v3 then (some (Sum.inl ((0 : Int32), z5.2 + (1 : Int32)))) else (rd D 33 0 170 (((6 : Int32) + ((2 : Int32) * z5.2)) + (1 : Int32)) (fun v5 => (f_X10_size v5 D).bind (fun o6 => if (v3 + o6) ≤ x1 then (some (Sum.inl ((0 : Int32), z5.2 + (1 : Int32)))) else (some (Sum.inl ((1 : Int32), z5.2 + (1 : Int32))))))))) else (some (Sum.inl ((1 : Int32), z5.2 + (1 : Int32)))))))
def f_X10_touchesPool (x1 : Int32) (x2 : Int32) (D : Dt) : Option (Int32) :=
  (lp (l_X10_touchesPool_5 x1 x2 D) FU ((0 : Int32), (0 : Int32))).bind (fun e1 => gd (isb e1) (some e1))
def j_X10_readsPool_55_t6 (o1 : Int32) (D3 : Dt) (o4 : Int32) (t6 : Int32) : Option (Dt) :=
  (f_X10_takes t6 D3).bind (fun D7 => if (D7 32 0 14) = 0 then (rd D7 33 0 170 (5 : Int32) (fun v8 => wr D7 33 0 170 ((6 : Int32) + ((2 : Int32) * v8)) o1 (fun D9 => rd D9 33 0 170 (5 : Int32) (fun v10 => wr D9 33 0 170 (((6 : Int32) + ((2 : Int32) * v10)) + (1 : Int32)) o4 (fun D11 => rd D11 33 0 170 (5 : Int32) (fun v12 => wr D11 33 0 170 (5 : Int32) (v12 + (1 : Int32)) (fun D13 => some D13))))))) else (some D7))
def f_X10_readsPool (D : Dt) : Option (Dt) :=
  (f_X10_number D).bind (fun o1 => (f_X10_in o1 (0 : Int32) (65535 : Int32) D).bind (fun o2 => (f_X10_takes o2 D).bind (fun D3 => (f_X10_number D3).bind (fun o4 => (f_X10_in o4 (4 : Int32) (14 : Int32) D3).bind (fun o5 => if o5 = 0 then (j_X10_readsPool_55_t6 o1 D3 o4 (0 : Int32)) else ((f_X10_size o4 D3).bind (fun o14 => gd (decide (¬ o14 = 0)) (if (o1 - o1 / o14 * o14) = 0 then ((f_X10_touchesPool o1 o4 D3).bind (fun o15 => if o15 = 0 then (j_X10_readsPool_55_t6 o1 D3 o4 (1 : Int32)) else (j_X10_readsPool_55_t6 o1 D3 o4 (0 : Int32)))) else (j_X10_readsPool_55_t6 o1 D3 o4 (0 : Int32))))))))))
def j_X10_readsNet_78_t7 (o1 : Int32) (o5 : Int32) (t6 : Int32 × Dt) (t7 : Int32) : Option (Dt) :=
  (f_X10_takes t7 t6.2).bind (fun D8 => if (D8 32 0 14) = 0 then ((f_X10_net o1 D8).bind (fun o9 => wr D8 33 0 170 o9 t6.1 (fun D10 => (f_X10_net o1 D10).bind (fun o11 => wr D10 33 0 170 (o11 + (1 : Int32)) o5 (fun D12 => some D12))))) else (some D8))
def j_X10_readsNet_67_t6 (o1 : Int32) (o5 : Int32) (t6 : Int32 × Dt) : Option (Dt) :=
  if t6.1 < 0 then (j_X10_readsNet_78_t7 o1 o5 t6 (0 : Int32)) else (j_X10_readsNet_78_t7 o1 o5 t6 (1 : Int32))
def j_X10_readsNet_33_t3 (D : Dt) (o1 : Int32) (t3 : Int32) : Option (Dt) :=
  (f_X10_takes t3 D).bind (fun D4 => (f_X10_number D4).bind (fun o5 => if (D4 32 0 14) = 0 then ((f_X10_in o5 (5 : Int32) (16 : Int32) D4).bind (fun o13 => if o13 = 0 then (j_X10_readsNet_67_t6 o1 o5 ((-1 : Int32), D4)) else ((f_X10_places o5 D4).bind (fun o14 => j_X10_readsNet_67_t6 o1 o5 (o14.1, o14.2))))) else (j_X10_readsNet_67_t6 o1 o5 ((-1 : Int32), D4))))
def f_X10_readsNet (D : Dt) : Option (Dt) :=
  (f_X10_number D).bind (fun o1 => (f_X10_in o1 (0 : Int32) (11 : Int32) D).bind (fun o2 => if o2 = 0 then (j_X10_readsNet_33_t3 D o1 (0 : Int32)) else ((f_X10_net o1 D).bind (fun o15 => rd D 33 0 170 o15 (fun v16 => if 0 ≤ v16 then (j_X10_readsNet_33_t3 D o1 (0 : Int32)) else (j_X10_readsNet_33_t3 D o1 (1 : Int32)))))))
def j_X10_readsHost_117_t10 (o1 : Int32) (o5 : Int32) (t9 : Int32) (t10 : Dt) : Option (Dt) :=
  if (t10 32 0 14) = 0 then ((f_X10_hostAt o1 t10).bind (fun o11 => wr t10 33 0 170 o11 o5 (fun D12 => (f_X10_hostAt o1 D12).bind (fun o13 => if t9 = 0 then (wr D12 33 0 170 (o13 + (1 : Int32)) (0 : Int32) (fun D14 => some D14)) else (wr D12 33 0 170 (o13 + (1 : Int32)) (1 : Int32) (fun D15 => some D15)))))) else (some t10)
def j_X10_readsHost_92_t9 (o1 : Int32) (o5 : Int32) (D8 : Dt) (t9 : Int32) : Option (Dt) :=
  if t9 = 0 then (j_X10_readsHost_117_t10 o1 o5 t9 D8) else (if (lg_cmp (mkL (D8 32 0 13) (D8 32 0 113)) (283437709 : Int64)) = 0 then ((f_X10_takes (1 : Int32) D8).bind (fun D17 => j_X10_readsHost_117_t10 o1 o5 t9 D17)) else ((f_X10_takes (0 : Int32) D8).bind (fun D16 => j_X10_readsHost_117_t10 o1 o5 t9 D16)))
def j_X10_readsHost_69_t7 (o1 : Int32) (D4 : Dt) (o5 : Int32) (t7 : Int32) : Option (Dt) :=
  (f_X10_takes t7 D4).bind (fun D8 => if (D8 32 0 14) = 0 then (if (D8 32 0 12) = (1 : Int32) then (j_X10_readsHost_92_t9 o1 o5 D8 (1 : Int32)) else (j_X10_readsHost_92_t9 o1 o5 D8 (0 : Int32))) else (j_X10_readsHost_92_t9 o1 o5 D8 (0 : Int32)))
def j_X10_readsHost_33_t3 (D : Dt) (o1 : Int32) (t3 : Int32) : Option (Dt) :=
  (f_X10_takes t3 D).bind (fun D4 => (f_X10_number D4).bind (fun o5 => (f_X10_in o5 (0 : Int32) (11 : Int32) D4).bind (fun o6 => if o6 = 0 then (j_X10_readsHost_69_t7 o1 D4 o5 (0 : Int32)) else ((f_X10_net o5 D4).bind (fun o18 => rd D4 33 0 170 o18 (fun v19 => if v19 < 0 then (j_X10_readsHost_69_t7 o1 D4 o5 (0 : Int32)) else (j_X10_readsHost_69_t7 o1 D4 o5 (1 : Int32))))))))
def f_X10_readsHost (D : Dt) : Option (Dt) :=
  (f_X10_number D).bind (fun o1 => (f_X10_in o1 (0 : Int32) (15 : Int32) D).bind (fun o2 => if o2 = 0 then (j_X10_readsHost_33_t3 D o1 (0 : Int32)) else ((f_X10_hostAt o1 D).bind (fun o20 => rd D 33 0 170 o20 (fun v21 => if 0 ≤ v21 then (j_X10_readsHost_33_t3 D o1 (0 : Int32)) else (j_X10_readsHost_33_t3 D o1 (1 : Int32)))))))
def f_X10_readsPolicy (D : Dt) : Option (Dt) :=
  (f_X10_number D).bind (fun o1 => (f_X10_in o1 (0 : Int32) (3 : Int32) D).bind (fun o2 => (f_X10_takes o2 D).bind (fun D3 => if (D3 32 0 14) = 0 then (wr D3 33 0 170 (3 : Int32) o1 (fun D4 => some D4)) else (rd D3 33 0 170 (3 : Int32) (fun v5 => wr D3 33 0 170 (3 : Int32) v5 (fun D6 => some D6))))))
def j_X10_readsItem_107_t2 (D : Dt) (t2 : Int32) : Option (Dt) :=
  (f_X10_takes t2 D).bind (fun D3 => (f_X10_readsPolicy D3).bind (fun D4 => if (D4 32 0 12) = (3 : Int32) then ((f_X10_takes (1 : Int32) D4).bind (fun D6 => some D6)) else ((f_X10_takes (0 : Int32) D4).bind (fun D5 => some D5))))
def j_X10_readsItem_43_t16 (D : Dt) (t16 : Int32) : Option (Dt) :=
  (f_X10_takes t16 D).bind (fun D17 => (f_X10_readsPool D17).bind (fun D18 => if (D18 32 0 12) = (3 : Int32) then ((f_X10_takes (1 : Int32) D18).bind (fun D20 => some D20)) else ((f_X10_takes (0 : Int32) D18).bind (fun D19 => some D19))))
def j_X10_readsItem_18_t1 (D : Dt) (t1 : Int64) : Option (Dt) :=
  if (lg_cmp t1 (326280 : Int64)) = 0 then (rd D 33 0 170 (5 : Int32) (fun v15 => if (4 : Int32) ≤ v15 then (j_X10_readsItem_43_t16 D (0 : Int32)) else (j_X10_readsItem_43_t16 D (1 : Int32)))) else (if (lg_cmp t1 (10361 : Int64)) = 0 then ((f_X10_takes (1 : Int32) D).bind (fun D11 => (f_X10_readsNet D11).bind (fun D12 => if (D12 32 0 12) = (3 : Int32) then ((f_X10_takes (1 : Int32) D12).bind (fun D14 => some D14)) else ((f_X10_takes (0 : Int32) D12).bind (fun D13 => some D13))))) else (if (lg_cmp t1 (168932 : Int64)) = 0 then ((f_X10_takes (1 : Int32) D).bind (fun D7 => (f_X10_readsHost D7).bind (fun D8 => if (D8 32 0 12) = (3 : Int32) then ((f_X10_takes (1 : Int32) D8).bind (fun D10 => some D10)) else ((f_X10_takes (0 : Int32) D8).bind (fun D9 => some D9))))) else (if (lg_cmp t1 (237796990 : Int64)) = 0 then (j_X10_readsItem_107_t2 D (1 : Int32)) else (j_X10_readsItem_107_t2 D (0 : Int32)))))
def f_X10_readsItem (D : Dt) : Option (Dt) :=
  if (D 32 0 12) = (1 : Int32) then (j_X10_readsItem_18_t1 D (mkL (D 32 0 13) (D 32 0 113))) else (j_X10_readsItem_18_t1 D (-1 : Int64))
def l_X10_load_24 (z24 : Int32 × Dt) : Option ((Int32 × Dt) ⊕ (Int32 × Dt)) :=
  if (z24.2 32 0 14) = 0 then (if (z24.2 32 0 12) = 0 then (some (Sum.inr (z24.1, z24.2))) else ((f_X10_readsItem z24.2).bind (fun D7 => some (Sum.inl (z24.1 + (1 : Int32), D7))))) else (some (Sum.inr (z24.1, z24.2)))
def f_X10_load (D : Dt) : Option (Int32 × Dt) :=
  (f_X10_keepsApart D).bind (fun D1 => (f_X10_empties D1).bind (fun D2 => pu D2 32 0 10 (0 : Int32) (fun D3 => gd (isb (0 : Int32)) (pu D3 32 0 14 (0 : Int32) (fun D4 => (f_X10_readsToken D4).bind (fun D5 => (lp l_X10_load_24 FU ((0 : Int32), D5)).bind (fun e6 => (f_X10_exchanges e6.2).bind (fun D8 => if (D8 32 0 14) = 0 then ((f_X10_note D8).bind (fun D9 => (f_X10_exchanges D9).bind (fun D10 => pu D10 32 0 4 (0 : Int32) (fun D11 => some (e6.1, D11))))) else (some ((-10 : Int32) - (D8 32 0 11), D8))))))))))
def f_X10_addPool (x1 : Int32) (x2 : Int32) (D : Dt) : Option (Int32 × Dt) :=
  (f_X10_in x1 (0 : Int32) (65535 : Int32) D).bind (fun o1 => if o1 = 0 then (some ((-1 : Int32), D)) else ((f_X10_in x2 (4 : Int32) (14 : Int32) D).bind (fun o2 => if o2 = 0 then (some ((-1 : Int32), D)) else ((f_X10_size x2 D).bind (fun o3 => gd (decide (¬ o3 = 0)) (if (x1 - x1 / o3 * o3) = 0 then ((f_X10_touchesPool x1 x2 D).bind (fun o4 => if o4 = 0 then (rd D 33 0 170 (5 : Int32) (fun v5 => if v5 = (4 : Int32) then (some ((-3 : Int32), D)) else ((f_X10_note D).bind (fun D6 => rd D6 33 0 170 (5 : Int32) (fun v7 => wr D6 33 0 170 ((6 : Int32) + ((2 : Int32) * v7)) x1 (fun D8 => rd D8 33 0 170 (5 : Int32) (fun v9 => wr D8 33 0 170 (((6 : Int32) + ((2 : Int32) * v9)) + (1 : Int32)) x2 (fun D10 => rd D10 33 0 170 (5 : Int32) (fun v11 => wr D10 33 0 170 (5 : Int32) (v11 + (1 : Int32)) (fun D12 => rd D12 33 0 170 (5 : Int32) (fun v13 => some (v13 - (1 : Int32), D12)))))))))))) else (some ((-2 : Int32), D)))) else (some ((-1 : Int32), D))))))))
def l_X10_removePool_65 (z65 : Int32 × Dt) : Option ((Int32 × Dt) ⊕ (Dt)) :=
  rd z65.2 33 0 170 (5 : Int32) (fun v9 => if ((6 : Int32) + ((2 : Int32) * v9)) ≤ z65.1 then (some (Sum.inr z65.2)) else (rd z65.2 33 0 170 (z65.1 + (2 : Int32)) (fun v10 => wr z65.2 33 0 170 z65.1 v10 (fun D11 => some (Sum.inl (z65.1 + (1 : Int32), D11))))))
def f_X10_removePool (x1 : Int32) (D : Dt) : Option (Int32 × Dt) :=
  (f_X10_isPool x1 D).bind (fun o1 => if o1 = 0 then (some ((-1 : Int32), D)) else (rd D 33 0 170 ((6 : Int32) + ((2 : Int32) * x1)) (fun v2 => rd D 33 0 170 (((6 : Int32) + ((2 : Int32) * x1)) + (1 : Int32)) (fun v3 => (f_X10_assignedIn v2 v3 D).bind (fun o4 => if o4 ≤ 0 then ((f_X10_note D).bind (fun D5 => rd D5 33 0 170 (5 : Int32) (fun v6 => wr D5 33 0 170 (5 : Int32) (v6 - (1 : Int32)) (fun D7 => (lp l_X10_removePool_65 FU ((6 : Int32) + ((2 : Int32) * x1), D7)).bind (fun e8 => rd e8 33 0 170 (5 : Int32) (fun v12 => some (v12, e8))))))) else (some ((-2 : Int32), D)))))))
def f_X10_setPolicy (x1 : Int32) (D : Dt) : Option (Int32 × Dt) :=
  (f_X10_in x1 (0 : Int32) (3 : Int32) D).bind (fun o1 => if o1 = 0 then (some ((-1 : Int32), D)) else ((f_X10_note D).bind (fun D2 => rd D2 33 0 170 (3 : Int32) (fun v3 => wr D2 33 0 170 (3 : Int32) x1 (fun D4 => some (v3, D4))))))
def f_X10_pool (x1 : Int32) (x2 : Int32) (D : Dt) : Option (Int32 × Dt) :=
  (f_X10_isPool x1 D).bind (fun o1 => if o1 = 0 then (some ((-1 : Int32), D)) else ((f_X10_in x2 (0 : Int32) (3 : Int32) D).bind (fun o2 => if o2 = 0 then (some ((-1 : Int32), D)) else (pu D 32 0 8 (0 : Int32) (fun D3 => pu D3 32 0 9 (0 : Int32) (fun D4 => (f_X10_findsFree x1 D4).bind (fun D5 => if (2 : Int32) ≤ x2 then (if x2 = (2 : Int32) then (some (D5 32 0 9, D5)) else (some (D5 32 0 8, D5))) else (rd D5 33 0 170 (((6 : Int32) + ((2 : Int32) * x1)) + x2) (fun v6 => some (v6, D5))))))))))
def l_X10_freeBlocks_20 (x1 : Int32) (D2 : Dt) (z20 : Int32 × Int32) : Option ((Int32 × Int32) ⊕ (Int32)) :=
  if (D2 32 0 8) ≤ z20.2 then (some (Sum.inr z20.1)) else (rd D2 38 0 800 z20.2 (fun v4 => if v4 = x1 then (some (Sum.inl (z20.1 + (1 : Int32), z20.2 + (1 : Int32)))) else (some (Sum.inl (z20.1 + (0 : Int32), z20.2 + (1 : Int32))))))
def f_X10_freeBlocks (x1 : Int32) (D : Dt) : Option (Int32 × Dt) :=
  (f_X10_in x1 (0 : Int32) (16 : Int32) D).bind (fun o1 => if o1 = 0 then (some ((-1 : Int32), D)) else ((f_X10_findsAllFree D).bind (fun D2 => (lp (l_X10_freeBlocks_20 x1 D2) FU ((0 : Int32), (0 : Int32))).bind (fun e3 => some (e3, D2)))))
def l_X10_greatest_9 (D1 : Dt) (z9 : Int32 × Int32) : Option ((Int32 × Int32) ⊕ (Int32)) :=
  if (D1 32 0 8) ≤ z9.2 then (some (Sum.inr z9.1)) else (if z9.1 = (-9 : Int32) then (rd D1 38 0 800 z9.2 (fun v3 => some (Sum.inl (v3, z9.2 + (1 : Int32))))) else (rd D1 38 0 800 z9.2 (fun v4 => if z9.1 ≤ v4 then (some (Sum.inl (z9.1, z9.2 + (1 : Int32)))) else (rd D1 38 0 800 z9.2 (fun v5 => some (Sum.inl (v5, z9.2 + (1 : Int32))))))))
def f_X10_greatest (D : Dt) : Option (Int32 × Dt) :=
  (f_X10_findsAllFree D).bind (fun D1 => (lp (l_X10_greatest_9 D1) FU ((-9 : Int32), (0 : Int32))).bind (fun e2 => some (e2, D1)))
def f_X10_largestFree (D : Dt) : Option (Int32 × Dt) :=
  (f_X10_greatest D).bind (fun o1 => some (o1.1, o1.2))
def l_X10_capacity_20 (x1 : Int32) (D2 : Dt) (z20 : Int32 × Int32) : Option ((Int32 × Int32) ⊕ (Int32)) :=
  if (D2 32 0 8) ≤ z20.2 then (some (Sum.inr z20.1)) else (rd D2 38 0 800 z20.2 (fun v4 => if x1 < v4 then (some (Sum.inl (z20.1 + (0 : Int32), z20.2 + (1 : Int32)))) else (rd D2 38 0 800 z20.2 (fun v5 => letV (z20.1 + ((1 : Int32) <<< ((x1 - v5) &&& 31))) (fun v6 => some (Sum.inl (v6, z20.2 + (1 : Int32))))))))
def f_X10_capacity (x1 : Int32) (D : Dt) : Option (Int32 × Dt) :=
  (f_X10_in x1 (0 : Int32) (16 : Int32) D).bind (fun o1 => if o1 = 0 then (some ((-1 : Int32), D)) else ((f_X10_findsAllFree D).bind (fun D2 => (lp (l_X10_capacity_20 x1 D2) FU ((0 : Int32), (0 : Int32))).bind (fun e3 => some (e3, D2)))))
def f_X10_index (D : Dt) : Option (Int32 × Dt) :=
  (f_X10_greatest D).bind (fun o1 => if (o1.2 32 0 9) = 0 then (some ((0 : Int32), o1.2)) else ((f_X10_size o1.1 o1.2).bind (fun o2 => gd (decide (¬ (o1.2 32 0 9) = 0)) (some ((1000 : Int32) - (((1000 : Int32) * o2) / (o1.2 32 0 9)), o1.2)))))
def f_X10_fragmentation (D : Dt) : Option (Int32 × Dt) :=
  (f_X10_index D).bind (fun o1 => some (o1.1, o1.2))
def f_X10_isNet (x0 : Int32) (D : Dt) : Option (Int32) :=
  (f_X10_in x0 (0 : Int32) (11 : Int32) D).bind (fun o1 => gd (isb o1) (some o1))
def f_X10_hasBlock (x1 : Int32) (D : Dt) : Option (Int32) :=
  (f_X10_net x1 D).bind (fun o1 => rd D 33 0 170 o1 (fun v2 => if v2 < 0 then (some (0 : Int32)) else (some (1 : Int32))))
def f_X10_hasOld (x1 : Int32) (D : Dt) : Option (Int32) :=
  (f_X10_net x1 D).bind (fun o1 => rd D 33 0 170 (o1 + (2 : Int32)) (fun v2 => if v2 < 0 then (some (0 : Int32)) else (some (1 : Int32))))
def f_X10_assign (x1 : Int32) (x2 : Int32) (D : Dt) : Option (Int32 × Dt) :=
  (f_X10_isNet x1 D).bind (fun o1 => if o1 = 0 then (some ((-1 : Int32), D)) else ((f_X10_in x2 (5 : Int32) (16 : Int32) D).bind (fun o2 => if o2 = 0 then (some ((-1 : Int32), D)) else ((f_X10_hasBlock x1 D).bind (fun o3 => if o3 = 0 then ((f_X10_places x2 D).bind (fun o4 => if 0 ≤ o4.1 then ((f_X10_note o4.2).bind (fun D5 => (f_X10_net x1 D5).bind (fun o6 => wr D5 33 0 170 o6 o4.1 (fun D7 => (f_X10_net x1 D7).bind (fun o8 => wr D7 33 0 170 (o8 + (1 : Int32)) x2 (fun D9 => some (o4.1, D9))))))) else (some ((-3 : Int32), o4.2)))) else (some ((-2 : Int32), D)))))))
def l_X10_hostsOf_4 (x1 : Int32) (D : Dt) (z4 : Int32 × Int32) : Option ((Int32 × Int32) ⊕ (Int32)) :=
  if (16 : Int32) ≤ z4.2 then (some (Sum.inr z4.1)) else ((f_X10_hostAt z4.2 D).bind (fun o2 => rd D 33 0 170 o2 (fun v3 => if v3 = x1 then (some (Sum.inl (z4.1 + (1 : Int32), z4.2 + (1 : Int32)))) else (some (Sum.inl (z4.1 + (0 : Int32), z4.2 + (1 : Int32)))))))
def f_X10_hostsOf (x1 : Int32) (D : Dt) : Option (Int32) :=
  (lp (l_X10_hostsOf_4 x1 D) FU ((0 : Int32), (0 : Int32))).bind (fun e1 => some e1)
def l_X10_release_13 (x1 : Int32) (D : Dt) (z13 : Int32 × Int32) : Option ((Int32 × Int32) ⊕ (Int32)) :=
  if (16 : Int32) ≤ z13.2 then (some (Sum.inr z13.1)) else (if z13.1 = 0 then ((f_X10_hostAt z13.2 D).bind (fun o3 => rd D 33 0 170 o3 (fun v4 => if v4 = x1 then ((f_X10_hostAt z13.2 D).bind (fun o5 => rd D 33 0 170 (o5 + (2 : Int32)) (fun v6 => if 0 ≤ v6 then (some (Sum.inl ((1 : Int32), z13.2 + (1 : Int32)))) else ((f_X10_hostAt z13.2 D).bind (fun o7 => rd D 33 0 170 (o7 + (4 : Int32)) (fun v8 => if v8 < 0 then (some (Sum.inl ((0 : Int32), z13.2 + (1 : Int32)))) else (some (Sum.inl ((1 : Int32), z13.2 + (1 : Int32)))))))))) else (some (Sum.inl ((0 : Int32), z13.2 + (1 : Int32))))))) else (some (Sum.inl ((1 : Int32), z13.2 + (1 : Int32)))))
def l_X10_release_126 (x1 : Int32) (z126 : Int32 × Dt) : Option ((Int32 × Dt) ⊕ (Dt)) :=
  if (16 : Int32) ≤ z126.1 then (some (Sum.inr z126.2)) else ((f_X10_hostAt z126.1 z126.2).bind (fun o17 => rd z126.2 33 0 170 o17 (fun v18 => if v18 = x1 then ((f_X10_leaves z126.1 z126.2).bind (fun D19 => some (Sum.inl (z126.1 + (1 : Int32), D19)))) else (some (Sum.inl (z126.1 + (1 : Int32), z126.2))))))
def f_X10_release (x1 : Int32) (D : Dt) : Option (Int32 × Dt) :=
  (f_X10_isNet x1 D).bind (fun o1 => if o1 = 0 then (some ((-1 : Int32), D)) else ((lp (l_X10_release_13 x1 D) FU ((0 : Int32), (0 : Int32))).bind (fun e2 => (f_X10_hasBlock x1 D).bind (fun o9 => if o9 = 0 then (some ((-2 : Int32), D)) else (if e2 = 0 then ((f_X10_note D).bind (fun D10 => (f_X10_hostsOf x1 D10).bind (fun o11 => (f_X10_net x1 D10).bind (fun o12 => wr D10 33 0 170 o12 (-1 : Int32) (fun D13 => (f_X10_net x1 D13).bind (fun o14 => wr D13 33 0 170 (o14 + (2 : Int32)) (-1 : Int32) (fun D15 => (lp (l_X10_release_126 x1) FU ((0 : Int32), D15)).bind (fun e16 => some (o11, e16))))))))) else (some ((-2 : Int32), D)))))))
def f_X10_canLease (x0 : Int32) (x1 : Int32) (x2 : Int32) (D : Dt) : Option (Int32) :=
  (f_X10_size x2 D).bind (fun o1 => (f_X10_in x0 x1 ((x1 + o1) - (1 : Int32)) D).bind (fun o2 => if o2 = 0 then (some (0 : Int32)) else ((f_X10_size x2 D).bind (fun o3 => if o3 < (4 : Int32) then (some (1 : Int32)) else (if x0 ≤ x1 then (some (0 : Int32)) else (if ((x1 + o1) - (1 : Int32)) ≤ x0 then (some (0 : Int32)) else (some (1 : Int32))))))))
def l_X10_isInPool_5 (x1 : Int32) (x2 : Int32) (D : Dt) (z5 : Int32 × Int32) : Option ((Int32 × Int32) ⊕ (Int32)) :=
  rd D 33 0 170 (5 : Int32) (fun v2 => if v2 ≤ z5.2 then (some (Sum.inr z5.1)) else (rd D 33 0 170 ((6 : Int32) + ((2 : Int32) * z5.2)) (fun v3 => if z5.1 = 0 then (if x1 < v3 then (some (Sum.inl ((0 : Int32), z5.2 + (1 : Int32)))) else ((f_X10_size x2 D).bind (fun o4 => rd D 33 0 170 (((6 : Int32) + ((2 : Int32) * z5.2)) + (1 : Int32)) (fun v5 => (f_X10_size v5 D).bind (fun o6 => if (v3 + o6) < (x1 + o4) then (some (Sum.inl ((0 : Int32), z5.2 + (1 : Int32)))) else (some (Sum.inl ((1 : Int32), z5.2 + (1 : Int32))))))))) else (some (Sum.inl ((1 : Int32), z5.2 + (1 : Int32)))))))
def f_X10_isInPool (x1 : Int32) (x2 : Int32) (D : Dt) : Option (Int32) :=
  (lp (l_X10_isInPool_5 x1 x2 D) FU ((0 : Int32), (0 : Int32))).bind (fun e1 => gd (isb e1) (some e1))
def l_X10_resize_116 (x1 : Int32) (x2 : Int32) (D : Dt) (o3 : Int32) (v6 : Int32) (v7 : Int32) (o8 : Int32) (z116 : Int32) : Option ((Int32) ⊕ (Int32 × Dt)) :=
  if (16 : Int32) ≤ z116 then ((f_X10_note D).bind (fun D10 => wr D10 33 0 170 o3 (v6 - (v7 - v7 / o8 * o8)) (fun D11 => wr D11 33 0 170 (o3 + (1 : Int32)) x2 (fun D12 => some (Sum.inr (v6 - (v7 - v7 / o8 * o8), D12)))))) else ((f_X10_hostAt z116 D).bind (fun o13 => rd D 33 0 170 (o13 + (2 : Int32)) (fun v14 => (f_X10_hostAt z116 D).bind (fun o15 => rd D 33 0 170 o15 (fun v16 => if v16 = x1 then (if v14 < 0 then (some (Sum.inl (z116 + (1 : Int32)))) else ((f_X10_canLease v14 (v6 - (v7 - v7 / o8 * o8)) x2 D).bind (fun o17 => if o17 = 0 then (some (Sum.inr ((-2 : Int32), D))) else (some (Sum.inl (z116 + (1 : Int32))))))) else (some (Sum.inl (z116 + (1 : Int32)))))))))
def l_X10_resize_116_22 (x1 : Int32) (x2 : Int32) (D : Dt) (o3 : Int32) (v6 : Int32) (v7 : Int32) (o8 : Int32) (z116_22 : Int32) : Option ((Int32) ⊕ (Int32 × Dt)) :=
  if (16 : Int32) ≤ z116_22 then ((f_X10_note D).bind (fun D23 => wr D23 33 0 170 o3 (v6 - (v7 - v7 / o8 * o8)) (fun D24 => wr D24 33 0 170 (o3 + (1 : Int32)) x2 (fun D25 => some (Sum.inr (v6 - (v7 - v7 / o8 * o8), D25)))))) else ((f_X10_hostAt z116_22 D).bind (fun o26 => rd D 33 0 170 (o26 + (2 : Int32)) (fun v27 => (f_X10_hostAt z116_22 D).bind (fun o28 => rd D 33 0 170 o28 (fun v29 => if v29 = x1 then (if v27 < 0 then (some (Sum.inl (z116_22 + (1 : Int32)))) else ((f_X10_canLease v27 (v6 - (v7 - v7 / o8 * o8)) x2 D).bind (fun o30 => if o30 = 0 then (some (Sum.inr ((-2 : Int32), D))) else (some (Sum.inl (z116_22 + (1 : Int32))))))) else (some (Sum.inl (z116_22 + (1 : Int32)))))))))
def f_X10_resize (x1 : Int32) (x2 : Int32) (D : Dt) : Option (Int32 × Dt) :=
  (f_X10_isNet x1 D).bind (fun o1 => if o1 = 0 then (some ((-1 : Int32), D)) else ((f_X10_in x2 (5 : Int32) (16 : Int32) D).bind (fun o2 => if o2 = 0 then (some ((-1 : Int32), D)) else ((f_X10_net x1 D).bind (fun o3 => (f_X10_hasBlock x1 D).bind (fun o4 => if o4 = 0 then (some ((-2 : Int32), D)) else (rd D 33 0 170 (o3 + (1 : Int32)) (fun v5 => if v5 = x2 then (some ((-2 : Int32), D)) else (rd D 33 0 170 o3 (fun v6 => rd D 33 0 170 o3 (fun v7 => (f_X10_size x2 D).bind (fun o8 => gd (decide (¬ o8 = 0)) (rd D 33 0 170 (o3 + (1 : Int32)) (fun v9 => if v9 ≤ x2 then (lp (l_X10_resize_116 x1 x2 D o3 v6 v7 o8) FU (0 : Int32)) else ((f_X10_isInPool (v6 - (v7 - v7 / o8 * o8)) x2 D).bind (fun o18 => if o18 = 0 then (some ((-2 : Int32), D)) else ((f_X10_assignedIn (v6 - (v7 - v7 / o8 * o8)) x2 D).bind (fun o19 => rd D 33 0 170 (o3 + (1 : Int32)) (fun v20 => (f_X10_size v20 D).bind (fun o21 => if o19 ≤ o21 then (lp (l_X10_resize_116_22 x1 x2 D o3 v6 v7 o8) FU (0 : Int32)) else (some ((-2 : Int32), D))))))))))))))))))))))
def l_X10_givesUp_4 (x1 : Int32) (z4 : Int32 × Int32 × Dt) : Option ((Int32 × Int32 × Dt) ⊕ (Int32 × Dt)) :=
  if (16 : Int32) ≤ z4.2.1 then (some (Sum.inr (z4.1, z4.2.2))) else ((f_X10_hostAt z4.2.1 z4.2.2).bind (fun o2 => rd z4.2.2 33 0 170 o2 (fun v3 => if v3 = x1 then ((f_X10_hostAt z4.2.1 z4.2.2).bind (fun o4 => rd z4.2.2 33 0 170 (o4 + (4 : Int32)) (fun v5 => if v5 < 0 then (some (Sum.inl (z4.1, z4.2.1 + (1 : Int32), z4.2.2))) else ((f_X10_hostAt z4.2.1 z4.2.2).bind (fun o6 => wr z4.2.2 33 0 170 (o6 + (4 : Int32)) (-1 : Int32) (fun D7 => some (Sum.inl (z4.1 + (1 : Int32), z4.2.1 + (1 : Int32), D7)))))))) else (some (Sum.inl (z4.1, z4.2.1 + (1 : Int32), z4.2.2))))))
def f_X10_givesUp (x1 : Int32) (D : Dt) : Option (Int32 × Dt) :=
  (lp (l_X10_givesUp_4 x1) FU ((0 : Int32), (0 : Int32), D)).bind (fun e1 => (f_X10_net x1 e1.2).bind (fun o8 => wr e1.2 33 0 170 (o8 + (2 : Int32)) (-1 : Int32) (fun D9 => rd D9 33 0 170 (4 : Int32) (fun v10 => wr D9 33 0 170 (4 : Int32) (v10 + e1.1) (fun D11 => some (e1.1, D11))))))
def l_X10_moves_85 (x1 : Int32) (z85 : Int32 × Dt) : Option ((Int32 × Dt) ⊕ (Dt)) :=
  if (16 : Int32) ≤ z85.1 then (some (Sum.inr z85.2)) else ((f_X10_hostAt z85.1 z85.2).bind (fun o12 => rd z85.2 33 0 170 o12 (fun v13 => if v13 = x1 then (rd z85.2 33 0 170 (o12 + (2 : Int32)) (fun v14 => wr z85.2 33 0 170 (o12 + (4 : Int32)) v14 (fun D15 => rd D15 33 0 170 ((o12 + (2 : Int32)) + (1 : Int32)) (fun v16 => wr D15 33 0 170 ((o12 + (4 : Int32)) + (1 : Int32)) v16 (fun D17 => wr D17 33 0 170 (o12 + (2 : Int32)) (-1 : Int32) (fun D18 => some (Sum.inl (z85.1 + (1 : Int32), D18)))))))) else (some (Sum.inl (z85.1 + (1 : Int32), z85.2))))))
def f_X10_moves (x1 : Int32) (x2 : Int32) (x3 : Int32) (D : Dt) : Option (Dt) :=
  (f_X10_net x1 D).bind (fun o1 => rd D 33 0 170 o1 (fun v2 => wr D 33 0 170 (o1 + (2 : Int32)) v2 (fun D3 => rd D3 33 0 170 (o1 + (1 : Int32)) (fun v4 => wr D3 33 0 170 ((o1 + (2 : Int32)) + (1 : Int32)) v4 (fun D5 => rd D5 33 0 170 (0 : Int32) (fun v6 => rd D5 33 0 170 (2 : Int32) (fun v7 => wr D5 33 0 170 (o1 + (4 : Int32)) (v6 + v7) (fun D8 => wr D8 33 0 170 o1 x2 (fun D9 => wr D9 33 0 170 (o1 + (1 : Int32)) x3 (fun D10 => (lp (l_X10_moves_85 x1) FU ((0 : Int32), D10)).bind (fun e11 => rd e11 33 0 170 (2 : Int32) (fun v19 => if v19 = 0 then ((f_X10_givesUp x1 e11).bind (fun o20 => some o20.2)) else (some e11)))))))))))))
def f_X10_renumber (x1 : Int32) (x2 : Int32) (D : Dt) : Option (Int32 × Dt) :=
  (f_X10_isNet x1 D).bind (fun o1 => if o1 = 0 then (some ((-1 : Int32), D)) else ((f_X10_in x2 (5 : Int32) (16 : Int32) D).bind (fun o2 => if o2 = 0 then (some ((-1 : Int32), D)) else ((f_X10_hasBlock x1 D).bind (fun o3 => if o3 = 0 then (some ((-2 : Int32), D)) else ((f_X10_hasOld x1 D).bind (fun o4 => if o4 = 0 then ((f_X10_places x2 D).bind (fun o5 => if 0 ≤ o5.1 then ((f_X10_note o5.2).bind (fun D6 => (f_X10_moves x1 o5.1 x2 D6).bind (fun D7 => some (o5.1, D7)))) else (some ((-3 : Int32), o5.2)))) else (some ((-2 : Int32), D)))))))))
def j_X10_highest_51_t4 (D : Dt) (z4 : Int32 × Int32) (v3 : Int32) (t4 : Int32) : Option ((Int32 × Int32) ⊕ (Int32)) :=
  if t4 = 0 then (some (Sum.inl (z4.1, z4.2 + (1 : Int32)))) else (if z4.1 < 0 then (some (Sum.inl (z4.2, z4.2 + (1 : Int32)))) else ((f_X10_net z4.1 D).bind (fun o5 => rd D 36 0 170 o5 (fun v6 => if v3 ≤ v6 then (some (Sum.inl (z4.1, z4.2 + (1 : Int32)))) else (some (Sum.inl (z4.2, z4.2 + (1 : Int32))))))))
def l_X10_highest_4 (x1 : Int32) (D : Dt) (z4 : Int32 × Int32) : Option ((Int32 × Int32) ⊕ (Int32)) :=
  if (12 : Int32) ≤ z4.2 then (some (Sum.inr z4.1)) else ((f_X10_net z4.2 D).bind (fun o2 => rd D 36 0 170 o2 (fun v3 => if v3 < 0 then (j_X10_highest_51_t4 D z4 v3 (0 : Int32)) else ((f_X10_net z4.2 D).bind (fun o7 => rd D 36 0 170 (o7 + (2 : Int32)) (fun v8 => if 0 ≤ v8 then (j_X10_highest_51_t4 D z4 v3 (0 : Int32)) else (if x1 ≤ v3 then (j_X10_highest_51_t4 D z4 v3 (0 : Int32)) else (j_X10_highest_51_t4 D z4 v3 (1 : Int32)))))))))
def f_X10_highest (x1 : Int32) (D : Dt) : Option (Int32) :=
  (lp (l_X10_highest_4 x1 D) FU ((-1 : Int32), (0 : Int32))).bind (fun e1 => some e1)
def l_X10_wave_25 (x1 : Int32) (z25 : Int32 × Int32 × Dt) : Option ((Int32 × Int32 × Dt) ⊕ (Int32 × Dt)) :=
  if z25.2.1 < 0 then (some (Sum.inr (z25.1, z25.2.2))) else (if x1 ≤ z25.1 then (some (Sum.inr (z25.1, z25.2.2))) else ((f_X10_net z25.2.1 z25.2.2).bind (fun o5 => rd z25.2.2 33 0 170 (o5 + (1 : Int32)) (fun v6 => (f_X10_places v6 z25.2.2).bind (fun o7 => if o7.1 < 0 then ((f_X10_net z25.2.1 o7.2).bind (fun o8 => rd o7.2 36 0 170 o8 (fun v9 => (f_X10_highest v9 o7.2).bind (fun o10 => some (Sum.inl (z25.1, o10, o7.2)))))) else ((f_X10_net z25.2.1 o7.2).bind (fun o11 => rd o7.2 33 0 170 o11 (fun v12 => if v12 ≤ o7.1 then ((f_X10_net z25.2.1 o7.2).bind (fun o13 => rd o7.2 36 0 170 o13 (fun v14 => (f_X10_highest v14 o7.2).bind (fun o15 => some (Sum.inl (z25.1, o15, o7.2)))))) else ((f_X10_net z25.2.1 o7.2).bind (fun o16 => rd o7.2 33 0 170 (o16 + (1 : Int32)) (fun v17 => (f_X10_moves z25.2.1 o7.1 v17 o7.2).bind (fun D18 => (f_X10_net z25.2.1 D18).bind (fun o19 => rd D18 36 0 170 o19 (fun v20 => (f_X10_highest v20 D18).bind (fun o21 => some (Sum.inl (z25.1 + (1 : Int32), o21, D18)))))))))))))))))
def f_X10_wave (x1 : Int32) (D : Dt) : Option (Int32 × Dt) :=
  (f_X10_in x1 (1 : Int32) (12 : Int32) D).bind (fun o1 => if o1 = 0 then (some ((-1 : Int32), D)) else ((f_X10_keepsApart D).bind (fun D2 => (f_X10_highest (65536 : Int32) D2).bind (fun o3 => (lp (l_X10_wave_25 x1) FU ((0 : Int32), o3, D2)).bind (fun e4 => if e4.1 = 0 then (some ((-2 : Int32), e4.2)) else ((f_X10_exchanges e4.2).bind (fun D22 => (f_X10_note D22).bind (fun D23 => (f_X10_exchanges D23).bind (fun D24 => some (e4.1, D24))))))))))
def f_X10_network (x1 : Int32) (x2 : Int32) (D : Dt) : Option (Int32) :=
  (f_X10_isNet x1 D).bind (fun o1 => if o1 = 0 then (some (-1 : Int32)) else ((f_X10_in x2 (0 : Int32) (5 : Int32) D).bind (fun o2 => if o2 = 0 then (some (-1 : Int32)) else (if x2 = (5 : Int32) then ((f_X10_hostsOf x1 D).bind (fun o9 => some o9)) else (if (2 : Int32) ≤ x2 then ((f_X10_hasOld x1 D).bind (fun o3 => if o3 = 0 then (some (-9 : Int32)) else ((f_X10_net x1 D).bind (fun o4 => rd D 33 0 170 (o4 + x2) (fun v5 => some v5))))) else ((f_X10_hasBlock x1 D).bind (fun o6 => if o6 = 0 then (some (-9 : Int32)) else ((f_X10_net x1 D).bind (fun o7 => rd D 33 0 170 (o7 + x2) (fun v8 => some v8))))))))))
def l_X10_owner_14 (x1 : Int32) (D : Dt) (z14 : Int32) : Option ((Int32) ⊕ (Int32)) :=
  if (24 : Int32) ≤ z14 then (some (Sum.inr (-9 : Int32))) else ((f_X10_blockAt z14 D).bind (fun o2 => if o2 < 0 then (some (Sum.inl (z14 + (1 : Int32)))) else ((f_X10_blockAt z14 D).bind (fun o3 => (f_X10_blockAt z14 D).bind (fun o4 => (f_X10_lengthAt z14 D).bind (fun o5 => (f_X10_size o5 D).bind (fun o6 => (f_X10_in x1 o3 ((o4 + o6) - (1 : Int32)) D).bind (fun o7 => if o7 = 0 then (some (Sum.inl (z14 + (1 : Int32)))) else (gd (decide (¬ (2 : Int32) = 0)) (some (Sum.inr (z14 / (2 : Int32)))))))))))))
def f_X10_owner (x1 : Int32) (D : Dt) : Option (Int32) :=
  (f_X10_in x1 (0 : Int32) (65535 : Int32) D).bind (fun o1 => if o1 = 0 then (some (-1 : Int32)) else (lp (l_X10_owner_14 x1 D) FU (0 : Int32)))
def f_X10_isHost (x0 : Int32) (D : Dt) : Option (Int32) :=
  (f_X10_in x0 (0 : Int32) (15 : Int32) D).bind (fun o1 => gd (isb o1) (some o1))
def f_X10_addHost (x1 : Int32) (x2 : Int32) (x3 : Int32) (D : Dt) : Option (Int32 × Dt) :=
  (f_X10_isHost x1 D).bind (fun o1 => if o1 = 0 then (some ((-1 : Int32), D)) else ((f_X10_isNet x2 D).bind (fun o2 => if o2 = 0 then (some ((-1 : Int32), D)) else ((f_X10_in x3 (0 : Int32) (1 : Int32) D).bind (fun o3 => if o3 = 0 then (some ((-1 : Int32), D)) else ((f_X10_hostAt x1 D).bind (fun o4 => rd D 33 0 170 o4 (fun v5 => if 0 ≤ v5 then (some ((-2 : Int32), D)) else ((f_X10_hasBlock x2 D).bind (fun o6 => if o6 = 0 then (some ((-2 : Int32), D)) else ((f_X10_note D).bind (fun D7 => (f_X10_hostAt x1 D7).bind (fun o8 => wr D7 33 0 170 o8 x2 (fun D9 => (f_X10_hostAt x1 D9).bind (fun o10 => wr D9 33 0 170 (o10 + (1 : Int32)) x3 (fun D11 => (f_X10_hostsOf x2 D11).bind (fun o12 => some (o12, D11))))))))))))))))))
def j_X10_removeHost_46_t6 (x1 : Int32) (o2 : Int32) (D4 : Dt) (t6 : Int32) : Option (Int32 × Dt) :=
  rd D4 33 0 170 (o2 + (4 : Int32)) (fun v7 => if v7 < 0 then ((f_X10_leaves x1 D4).bind (fun D8 => some (t6 + (0 : Int32), D8))) else ((f_X10_leaves x1 D4).bind (fun D9 => some (t6 + (1 : Int32), D9))))
def f_X10_removeHost (x1 : Int32) (D : Dt) : Option (Int32 × Dt) :=
  (f_X10_isHost x1 D).bind (fun o1 => if o1 = 0 then (some ((-1 : Int32), D)) else ((f_X10_hostAt x1 D).bind (fun o2 => rd D 33 0 170 o2 (fun v3 => if 0 ≤ v3 then ((f_X10_note D).bind (fun D4 => rd D4 33 0 170 (o2 + (2 : Int32)) (fun v5 => if v5 < 0 then (j_X10_removeHost_46_t6 x1 o2 D4 (0 : Int32)) else (j_X10_removeHost_46_t6 x1 o2 D4 (1 : Int32))))) else (some ((-2 : Int32), D))))))
def l_X10_holder_2 (x1 : Int32) (D : Dt) (z2 : Int32) : Option ((Int32) ⊕ (Int32)) :=
  if (16 : Int32) ≤ z2 then (some (Sum.inr (-9 : Int32))) else ((f_X10_hostAt z2 D).bind (fun o1 => rd D 33 0 170 (o1 + (2 : Int32)) (fun v2 => if v2 = x1 then (some (Sum.inr z2)) else ((f_X10_hostAt z2 D).bind (fun o3 => rd D 33 0 170 (o3 + (4 : Int32)) (fun v4 => if v4 = x1 then (some (Sum.inr z2)) else (some (Sum.inl (z2 + (1 : Int32))))))))))
def f_X10_holder (x1 : Int32) (D : Dt) : Option (Int32) :=
  lp (l_X10_holder_2 x1 D) FU (0 : Int32)
def l_X10_newAddress_96 (D : Dt) (o3 : Int32) (z96 : Int32) : Option ((Int32) ⊕ (Int32)) :=
  rd D 33 0 170 o3 (fun v6 => rd D 33 0 170 (o3 + (1 : Int32)) (fun v7 => (f_X10_size v7 D).bind (fun o8 => if (v6 + o8) ≤ z96 then (some (Sum.inr (-1 : Int32))) else (rd D 33 0 170 o3 (fun v9 => rd D 33 0 170 (o3 + (1 : Int32)) (fun v10 => (f_X10_canLease z96 v9 v10 D).bind (fun o11 => if o11 = 0 then (some (Sum.inl (z96 + (1 : Int32)))) else ((f_X10_holder z96 D).bind (fun o12 => if o12 = (-9 : Int32) then (some (Sum.inr z96)) else (some (Sum.inl (z96 + (1 : Int32)))))))))))))
def l_X10_newAddress_96_20 (D : Dt) (o3 : Int32) (z96_20 : Int32) : Option ((Int32) ⊕ (Int32)) :=
  rd D 33 0 170 o3 (fun v21 => rd D 33 0 170 (o3 + (1 : Int32)) (fun v22 => (f_X10_size v22 D).bind (fun o23 => if (v21 + o23) ≤ z96_20 then (some (Sum.inr (-1 : Int32))) else (rd D 33 0 170 o3 (fun v24 => rd D 33 0 170 (o3 + (1 : Int32)) (fun v25 => (f_X10_canLease z96_20 v24 v25 D).bind (fun o26 => if o26 = 0 then (some (Sum.inl (z96_20 + (1 : Int32)))) else ((f_X10_holder z96_20 D).bind (fun o27 => if o27 = (-9 : Int32) then (some (Sum.inr z96_20)) else (some (Sum.inl (z96_20 + (1 : Int32)))))))))))))
def l_X10_newAddress_96_30 (D : Dt) (o3 : Int32) (z96_30 : Int32) : Option ((Int32) ⊕ (Int32)) :=
  rd D 33 0 170 o3 (fun v31 => rd D 33 0 170 (o3 + (1 : Int32)) (fun v32 => (f_X10_size v32 D).bind (fun o33 => if (v31 + o33) ≤ z96_30 then (some (Sum.inr (-1 : Int32))) else (rd D 33 0 170 o3 (fun v34 => rd D 33 0 170 (o3 + (1 : Int32)) (fun v35 => (f_X10_canLease z96_30 v34 v35 D).bind (fun o36 => if o36 = 0 then (some (Sum.inl (z96_30 + (1 : Int32)))) else ((f_X10_holder z96_30 D).bind (fun o37 => if o37 = (-9 : Int32) then (some (Sum.inr z96_30)) else (some (Sum.inl (z96_30 + (1 : Int32)))))))))))))
def f_X10_newAddress (x1 : Int32) (D : Dt) : Option (Int32) :=
  (f_X10_hostAt x1 D).bind (fun o1 => rd D 33 0 170 o1 (fun v2 => (f_X10_net v2 D).bind (fun o3 => rd D 33 0 170 (o1 + (4 : Int32)) (fun v4 => if v4 < 0 then (rd D 33 0 170 o3 (fun v5 => lp (l_X10_newAddress_96 D o3) FU v5)) else (rd D 33 0 170 o3 (fun v13 => rd D 33 0 170 (o1 + (4 : Int32)) (fun v14 => rd D 33 0 170 (o3 + (2 : Int32)) (fun v15 => rd D 33 0 170 o3 (fun v16 => rd D 33 0 170 (o3 + (1 : Int32)) (fun v17 => (f_X10_canLease ((v13 + v14) - v15) v16 v17 D).bind (fun o18 => if o18 = 0 then (rd D 33 0 170 o3 (fun v19 => lp (l_X10_newAddress_96_20 D o3) FU v19)) else ((f_X10_holder ((v13 + v14) - v15) D).bind (fun o28 => if o28 = (-9 : Int32) then (some ((v13 + v14) - v15)) else (rd D 33 0 170 o3 (fun v29 => lp (l_X10_newAddress_96_30 D o3) FU v29)))))))))))))))
def j_X10_request_154_t8 (D : Dt) (o2 : Int32) (v4 : Int32) (v5 : Int32) (t8 : Int32) : Option (Int32 × Dt) :=
  if 0 ≤ t8 then ((f_X10_note D).bind (fun D9 => wr D9 33 0 170 (o2 + (2 : Int32)) t8 (fun D10 => wr D10 33 0 170 ((o2 + (2 : Int32)) + (1 : Int32)) (v4 + v5) (fun D11 => some (t8, D11))))) else (some ((-3 : Int32), D))
def j_X10_request_154_t16 (D : Dt) (o2 : Int32) (v4 : Int32) (v5 : Int32) (t16 : Int32) : Option (Int32 × Dt) :=
  if 0 ≤ t16 then ((f_X10_note D).bind (fun D17 => wr D17 33 0 170 (o2 + (2 : Int32)) t16 (fun D18 => wr D18 33 0 170 ((o2 + (2 : Int32)) + (1 : Int32)) (v4 + v5) (fun D19 => some (t16, D19))))) else (some ((-3 : Int32), D))
def j_X10_request_154_t24 (D : Dt) (o2 : Int32) (v4 : Int32) (v5 : Int32) (t24 : Int32) : Option (Int32 × Dt) :=
  if 0 ≤ t24 then ((f_X10_note D).bind (fun D25 => wr D25 33 0 170 (o2 + (2 : Int32)) t24 (fun D26 => wr D26 33 0 170 ((o2 + (2 : Int32)) + (1 : Int32)) (v4 + v5) (fun D27 => some (t24, D27))))) else (some ((-3 : Int32), D))
def f_X10_request (x1 : Int32) (D : Dt) : Option (Int32 × Dt) :=
  (f_X10_isHost x1 D).bind (fun o1 => if o1 = 0 then (some ((-1 : Int32), D)) else ((f_X10_hostAt x1 D).bind (fun o2 => rd D 33 0 170 o2 (fun v3 => if 0 ≤ v3 then (rd D 33 0 170 (0 : Int32) (fun v4 => rd D 33 0 170 (1 : Int32) (fun v5 => rd D 33 0 170 (o2 + (2 : Int32)) (fun v6 => if 0 ≤ v6 then (rd D 33 0 170 (o2 + (2 : Int32)) (fun v7 => if v7 < 0 then ((f_X10_newAddress x1 D).bind (fun o12 => j_X10_request_154_t8 D o2 v4 v5 o12)) else (rd D 33 0 170 (o2 + (2 : Int32)) (fun v13 => j_X10_request_154_t8 D o2 v4 v5 v13)))) else (rd D 33 0 170 (o2 + (1 : Int32)) (fun v14 => if v14 = (1 : Int32) then (rd D 33 0 170 (o2 + (4 : Int32)) (fun v22 => if v22 < 0 then (rd D 33 0 170 (o2 + (2 : Int32)) (fun v23 => if v23 < 0 then ((f_X10_newAddress x1 D).bind (fun o28 => j_X10_request_154_t24 D o2 v4 v5 o28)) else (rd D 33 0 170 (o2 + (2 : Int32)) (fun v29 => j_X10_request_154_t24 D o2 v4 v5 v29)))) else ((f_X10_note D).bind (fun D30 => rd D30 33 0 170 o2 (fun v31 => (f_X10_net v31 D30).bind (fun o32 => rd D30 33 0 170 (o32 + (4 : Int32)) (fun v33 => if v33 ≤ (v4 + v5) then (wr D30 33 0 170 ((o2 + (4 : Int32)) + (1 : Int32)) v33 (fun D34 => rd D34 33 0 170 (o2 + (4 : Int32)) (fun v35 => some (v35, D34)))) else (wr D30 33 0 170 ((o2 + (4 : Int32)) + (1 : Int32)) (v4 + v5) (fun D36 => rd D36 33 0 170 (o2 + (4 : Int32)) (fun v37 => some (v37, D36))))))))))) else (rd D 33 0 170 (o2 + (2 : Int32)) (fun v15 => if v15 < 0 then ((f_X10_newAddress x1 D).bind (fun o20 => j_X10_request_154_t16 D o2 v4 v5 o20)) else (rd D 33 0 170 (o2 + (2 : Int32)) (fun v21 => j_X10_request_154_t16 D o2 v4 v5 v21)))))))))) else (some ((-2 : Int32), D))))))
def f_X10_host (x1 : Int32) (x2 : Int32) (D : Dt) : Option (Int32) :=
  (f_X10_isHost x1 D).bind (fun o1 => if o1 = 0 then (some (-1 : Int32)) else ((f_X10_in x2 (0 : Int32) (5 : Int32) D).bind (fun o2 => if o2 = 0 then (some (-1 : Int32)) else ((f_X10_hostAt x1 D).bind (fun o3 => rd D 33 0 170 o3 (fun v4 => if v4 < 0 then (if (0 : Int32) = 0 then (some (-9 : Int32)) else (rd D 33 0 170 (o3 + x2) (fun v5 => some v5))) else (if x2 < (2 : Int32) then (if (1 : Int32) = 0 then (some (-9 : Int32)) else (rd D 33 0 170 (o3 + x2) (fun v6 => some v6))) else (gd (decide (¬ (2 : Int32) = 0)) (rd D 33 0 170 ((o3 + x2) - (x2 - x2 / (2 : Int32) * (2 : Int32))) (fun v7 => if v7 < 0 then (if (0 : Int32) = 0 then (some (-9 : Int32)) else (rd D 33 0 170 (o3 + x2) (fun v8 => some v8))) else (if (1 : Int32) = 0 then (some (-9 : Int32)) else (rd D 33 0 170 (o3 + x2) (fun v9 => some v9)))))))))))))
def f_X10_leaseOf (x1 : Int32) (D : Dt) : Option (Int32) :=
  (f_X10_in x1 (0 : Int32) (65535 : Int32) D).bind (fun o1 => if o1 = 0 then (some (-1 : Int32)) else ((f_X10_holder x1 D).bind (fun o2 => some o2)))
def l_X10_pass_62 (z48 : Int32 × Int32 × Dt) (z62 : Int32 × Int32 × Dt) : Option ((Int32 × Int32 × Dt) ⊕ (Int32 × Dt)) :=
  (f_X10_hostAt z48.2.1 z62.2.2).bind (fun o9 => if (o9 + (4 : Int32)) < z62.2.1 then (some (Sum.inr (z62.1, z62.2.2))) else (rd z62.2.2 33 0 170 z62.2.1 (fun v10 => if v10 < 0 then (some (Sum.inl (z62.1, z62.2.1 + (2 : Int32), z62.2.2))) else (rd z62.2.2 33 0 170 (z62.2.1 + (1 : Int32)) (fun v11 => rd z62.2.2 33 0 170 (0 : Int32) (fun v12 => if v12 < v11 then (some (Sum.inl (z62.1, z62.2.1 + (2 : Int32), z62.2.2))) else (wr z62.2.2 33 0 170 z62.2.1 (-1 : Int32) (fun D13 => some (Sum.inl (z62.1 + (1 : Int32), z62.2.1 + (2 : Int32), D13))))))))))
def l_X10_pass_48 (z48 : Int32 × Int32 × Dt) : Option ((Int32 × Int32 × Dt) ⊕ (Int32 × Dt)) :=
  if (16 : Int32) ≤ z48.2.1 then (some (Sum.inr (z48.1, z48.2.2))) else ((f_X10_hostAt z48.2.1 z48.2.2).bind (fun o7 => (lp (l_X10_pass_62 z48) FU (z48.1, o7 + (2 : Int32), z48.2.2)).bind (fun e8 => some (Sum.inl (e8.1, z48.2.1 + (1 : Int32), e8.2)))))
def l_X10_pass_126 (z126 : Int32 × Int32 × Dt) : Option ((Int32 × Int32 × Dt) ⊕ (Int32 × Dt)) :=
  if (12 : Int32) ≤ z126.2.1 then (some (Sum.inr (z126.1, z126.2.2))) else ((f_X10_hasOld z126.2.1 z126.2.2).bind (fun o15 => if o15 = 0 then (some (Sum.inl (z126.1 + (0 : Int32), z126.2.1 + (1 : Int32), z126.2.2))) else ((f_X10_net z126.2.1 z126.2.2).bind (fun o16 => rd z126.2.2 33 0 170 (o16 + (4 : Int32)) (fun v17 => rd z126.2.2 33 0 170 (0 : Int32) (fun v18 => if v18 < v17 then (some (Sum.inl (z126.1 + (0 : Int32), z126.2.1 + (1 : Int32), z126.2.2))) else ((f_X10_givesUp z126.2.1 z126.2.2).bind (fun o19 => some (Sum.inl (z126.1 + o19.1, z126.2.1 + (1 : Int32), o19.2))))))))))
def f_X10_pass (x1 : Int32) (D : Dt) : Option (Int32 × Dt) :=
  (f_X10_in x1 (1 : Int32) (1000 : Int32) D).bind (fun o1 => if o1 = 0 then (some ((-1 : Int32), D)) else (rd D 33 0 170 (0 : Int32) (fun v2 => if (v2 + x1) ≤ (9999 : Int32) then ((f_X10_note D).bind (fun D3 => rd D3 33 0 170 (0 : Int32) (fun v4 => wr D3 33 0 170 (0 : Int32) (v4 + x1) (fun D5 => (lp l_X10_pass_48 FU ((0 : Int32), (0 : Int32), D5)).bind (fun e6 => (lp l_X10_pass_126 FU (e6.1, (0 : Int32), e6.2)).bind (fun e14 => some (e14.1, e14.2))))))) else (some ((-3 : Int32), D)))))
def j_X10_setTimes_53_t5 (x1 : Int32) (x2 : Int32) (D3 : Dt) (t5 : Int32) : Option (Int32 × Dt) :=
  wr D3 33 0 170 (1 : Int32) x1 (fun D6 => wr D6 33 0 170 (2 : Int32) x2 (fun D7 => if t5 = 0 then (some ((0 : Int32), D7)) else (some ((1 : Int32), D7))))
def f_X10_setTimes (x1 : Int32) (x2 : Int32) (D : Dt) : Option (Int32 × Dt) :=
  (f_X10_in x1 (1 : Int32) (500 : Int32) D).bind (fun o1 => if o1 = 0 then (some ((-1 : Int32), D)) else ((f_X10_in x2 (0 : Int32) (500 : Int32) D).bind (fun o2 => if o2 = 0 then (some ((-1 : Int32), D)) else ((f_X10_note D).bind (fun D3 => rd D3 33 0 170 (1 : Int32) (fun v4 => if v4 = x1 then (rd D3 33 0 170 (2 : Int32) (fun v8 => if v8 = x2 then (j_X10_setTimes_53_t5 x1 x2 D3 (0 : Int32)) else (j_X10_setTimes_53_t5 x1 x2 D3 (1 : Int32)))) else (j_X10_setTimes_53_t5 x1 x2 D3 (1 : Int32))))))))
def j_X10_leases_30_t4 (D : Dt) (z4 : Int32 × Int32) (t4 : Int32) : Option ((Int32 × Int32) ⊕ (Int32)) :=
  (f_X10_hostAt z4.2 D).bind (fun o5 => rd D 33 0 170 (o5 + (4 : Int32)) (fun v6 => if v6 < 0 then (some (Sum.inl (z4.1 + (t4 + (0 : Int32)), z4.2 + (1 : Int32)))) else (some (Sum.inl (z4.1 + (t4 + (1 : Int32)), z4.2 + (1 : Int32))))))
def l_X10_leases_4 (D : Dt) (z4 : Int32 × Int32) : Option ((Int32 × Int32) ⊕ (Int32)) :=
  if (16 : Int32) ≤ z4.2 then (some (Sum.inr z4.1)) else ((f_X10_hostAt z4.2 D).bind (fun o2 => rd D 33 0 170 (o2 + (2 : Int32)) (fun v3 => if v3 < 0 then (j_X10_leases_30_t4 D z4 (0 : Int32)) else (j_X10_leases_30_t4 D z4 (1 : Int32)))))
def f_X10_leases (D : Dt) : Option (Int32) :=
  (lp (l_X10_leases_4 D) FU ((0 : Int32), (0 : Int32))).bind (fun e1 => some e1)
def l_X10_nextEvent_18 (D : Dt) (z5 : Int32 × Int32) (z18 : Int32 × Int32) : Option ((Int32 × Int32) ⊕ (Int32)) :=
  (f_X10_hostAt z5.2 D).bind (fun o4 => if (o4 + (4 : Int32)) < z18.2 then (some (Sum.inr z18.1)) else (rd D 33 0 170 z18.2 (fun v5 => if v5 < 0 then (some (Sum.inl (z18.1, z18.2 + (2 : Int32)))) else (if z18.1 = (-9 : Int32) then (rd D 33 0 170 (z18.2 + (1 : Int32)) (fun v6 => some (Sum.inl (v6, z18.2 + (2 : Int32))))) else (rd D 33 0 170 (z18.2 + (1 : Int32)) (fun v7 => if z18.1 ≤ v7 then (some (Sum.inl (z18.1, z18.2 + (2 : Int32)))) else (rd D 33 0 170 (z18.2 + (1 : Int32)) (fun v8 => some (Sum.inl (v8, z18.2 + (2 : Int32)))))))))))
def l_X10_nextEvent_5 (D : Dt) (z5 : Int32 × Int32) : Option ((Int32 × Int32) ⊕ (Int32)) :=
  if (16 : Int32) ≤ z5.2 then (some (Sum.inr z5.1)) else ((f_X10_hostAt z5.2 D).bind (fun o2 => (lp (l_X10_nextEvent_18 D z5) FU (z5.1, o2 + (2 : Int32))).bind (fun e3 => some (Sum.inl (e3, z5.2 + (1 : Int32))))))
def l_X10_nextEvent_82 (D : Dt) (z82 : Int32 × Int32) : Option ((Int32 × Int32) ⊕ (Int32)) :=
  if (12 : Int32) ≤ z82.2 then (some (Sum.inr z82.1)) else ((f_X10_net z82.2 D).bind (fun o10 => rd D 33 0 170 (o10 + (4 : Int32)) (fun v11 => (f_X10_hasOld z82.2 D).bind (fun o12 => if o12 = 0 then (some (Sum.inl (z82.1, z82.2 + (1 : Int32)))) else (if z82.1 = (-9 : Int32) then (some (Sum.inl (v11, z82.2 + (1 : Int32)))) else (if z82.1 ≤ v11 then (some (Sum.inl (z82.1, z82.2 + (1 : Int32)))) else (some (Sum.inl (v11, z82.2 + (1 : Int32))))))))))
def f_X10_nextEvent (D : Dt) : Option (Int32) :=
  (lp (l_X10_nextEvent_5 D) FU ((-9 : Int32), (0 : Int32))).bind (fun e1 => (lp (l_X10_nextEvent_82 D) FU (e1, (0 : Int32))).bind (fun e9 => some e9))
def l_X10_netsWith_4 (x1 : Int32) (D : Dt) (z4 : Int32 × Int32) : Option ((Int32 × Int32) ⊕ (Int32)) :=
  if (12 : Int32) ≤ z4.2 then (some (Sum.inr z4.1)) else ((f_X10_net z4.2 D).bind (fun o2 => rd D 33 0 170 (o2 + x1) (fun v3 => if v3 < 0 then (some (Sum.inl (z4.1 + (0 : Int32), z4.2 + (1 : Int32)))) else (some (Sum.inl (z4.1 + (1 : Int32), z4.2 + (1 : Int32)))))))
def f_X10_netsWith (x1 : Int32) (D : Dt) : Option (Int32) :=
  (lp (l_X10_netsWith_4 x1 D) FU ((0 : Int32), (0 : Int32))).bind (fun e1 => some e1)
def f_X10_count (x1 : Int32) (D : Dt) : Option (Int32 × Dt) :=
  (f_X10_findsAllFree D).bind (fun D1 => if x1 = (0 : Int32) then (rd D1 33 0 170 (0 : Int32) (fun v2 => some (v2, D1))) else (if x1 = (1 : Int32) then (rd D1 33 0 170 (5 : Int32) (fun v3 => some (v3, D1))) else (if x1 = (2 : Int32) then ((f_X10_netsWith (0 : Int32) D1).bind (fun o4 => some (o4, D1))) else (if x1 = (3 : Int32) then ((f_X10_netsWith (2 : Int32) D1).bind (fun o5 => some (o5, D1))) else (if x1 = (4 : Int32) then ((f_X10_hostsOf (-1 : Int32) D1).bind (fun o6 => some ((16 : Int32) - o6, D1))) else (if x1 = (5 : Int32) then ((f_X10_leases D1).bind (fun o7 => some (o7, D1))) else (if x1 = (6 : Int32) then (rd D1 33 0 170 (4 : Int32) (fun v8 => some (v8, D1))) else (if x1 = (7 : Int32) then (some (D1 32 0 9, D1)) else (if x1 = (8 : Int32) then (some (D1 32 0 2, D1)) else (some ((-1 : Int32), D1)))))))))))
def l_X10_nextBlock_5 (x1 : Int32) (D : Dt) (z5 : Int32 × Int32) : Option ((Int32 × Int32) ⊕ (Int32)) :=
  if (24 : Int32) ≤ z5.2 then (some (Sum.inr z5.1)) else ((f_X10_blockAt z5.2 D).bind (fun o2 => if o2 < x1 then (some (Sum.inl (z5.1, z5.2 + (1 : Int32)))) else ((f_X10_blockAt z5.2 D).bind (fun o3 => if z5.1 ≤ o3 then (some (Sum.inl (z5.1, z5.2 + (1 : Int32)))) else ((f_X10_blockAt z5.2 D).bind (fun o4 => some (Sum.inl (o4, z5.2 + (1 : Int32)))))))))
def f_X10_nextBlock (x1 : Int32) (D : Dt) : Option (Int32) :=
  (lp (l_X10_nextBlock_5 x1 D) FU ((65536 : Int32), (0 : Int32))).bind (fun e1 => some e1)
def l_X10_findsRoute_17 (D : Dt) (z8 : Int32 × Int32) (z17 : Int32) : Option ((Int32) ⊕ (Int32)) :=
  (f_X10_size z17 D).bind (fun o3 => gd (decide (¬ o3 = 0)) (if (z8.2 - z8.2 / o3 * o3) = 0 then ((f_X10_assignedIn z8.2 z17 D).bind (fun o4 => (f_X10_size z17 D).bind (fun o5 => if o5 ≤ o4 then (some (Sum.inr z17)) else (some (Sum.inl (z17 + (1 : Int32))))))) else (some (Sum.inl (z17 + (1 : Int32))))))
def l_X10_findsRoute_8 (x1 : Int32) (D : Dt) (z8 : Int32 × Int32) : Option ((Int32 × Int32) ⊕ (Int32 × Dt)) :=
  if (65536 : Int32) ≤ z8.2 then (if 0 ≤ x1 then (some (Sum.inr ((-9 : Int32), D))) else (some (Sum.inr (z8.1, D)))) else ((lp (l_X10_findsRoute_17 D z8) FU (0 : Int32)).bind (fun e2 => if z8.1 = x1 then (pu D 32 0 15 e2 (fun D8 => some (Sum.inr (z8.2, D8)))) else ((f_X10_size e2 D).bind (fun o6 => (f_X10_nextBlock (z8.2 + o6) D).bind (fun o7 => some (Sum.inl (z8.1 + (1 : Int32), o7)))))))
def f_X10_findsRoute (x1 : Int32) (D : Dt) : Option (Int32 × Dt) :=
  (f_X10_nextBlock (0 : Int32) D).bind (fun o1 => lp (l_X10_findsRoute_8 x1 D) FU ((0 : Int32), o1))
def f_X10_routeCount (D : Dt) : Option (Int32 × Dt) :=
  (f_X10_findsRoute (-1 : Int32) D).bind (fun o1 => some (o1.1, o1.2))
def f_X10_route (x1 : Int32) (x2 : Int32) (D : Dt) : Option (Int32 × Dt) :=
  if x1 < 0 then (some ((-1 : Int32), D)) else ((f_X10_in x2 (0 : Int32) (1 : Int32) D).bind (fun o1 => if o1 = 0 then (some ((-1 : Int32), D)) else ((f_X10_findsRoute x1 D).bind (fun o2 => if o2.1 = (-9 : Int32) then (some (o2.1, o2.2)) else (if x2 = 0 then (some (o2.1, o2.2)) else (some (o2.2 32 0 15, o2.2)))))))
def f_X10_indexAfter (x1 : Int32) (D : Dt) : Option (Int32 × Dt) :=
  (f_X10_net x1 D).bind (fun o1 => rd D 33 0 170 o1 (fun v2 => (f_X10_net x1 D).bind (fun o3 => rd D 33 0 170 (o3 + (1 : Int32)) (fun v4 => (f_X10_places v4 D).bind (fun o5 => pu o5.2 32 0 16 o5.1 (fun D6 => if 0 ≤ (D6 32 0 16) then ((f_X10_net x1 D6).bind (fun o7 => wr D6 33 0 170 o7 (D6 32 0 16) (fun D8 => (f_X10_index D8).bind (fun o9 => (f_X10_net x1 o9.2).bind (fun o10 => wr o9.2 33 0 170 o10 v2 (fun D11 => some (o9.1, D11))))))) else (some ((-9 : Int32), D6))))))))
def f_X10_fragmentationAfter (x1 : Int32) (D : Dt) : Option (Int32 × Dt) :=
  (f_X10_isNet x1 D).bind (fun o1 => if o1 = 0 then (some ((-1 : Int32), D)) else ((f_X10_hasBlock x1 D).bind (fun o2 => if o2 = 0 then (some ((-2 : Int32), D)) else ((f_X10_hasOld x1 D).bind (fun o3 => if o3 = 0 then ((f_X10_indexAfter x1 D).bind (fun o4 => some (o4.1, o4.2))) else (some ((-2 : Int32), D)))))))
def j_X10_best_42_t4 (z10 : Int32 × Int32 × Int32 × Dt) (t4 : Int32 × Dt) : Option ((Int32 × Int32 × Int32 × Dt) ⊕ (Int32 × Dt)) :=
  if t4.1 = (-9 : Int32) then (some (Sum.inl (z10.1, z10.2.1, z10.2.2.1 + (1 : Int32), t4.2))) else (if z10.2.1 ≤ t4.1 then (some (Sum.inl (z10.1, z10.2.1, z10.2.2.1 + (1 : Int32), t4.2))) else (some (Sum.inl (z10.2.2.1, t4.1, z10.2.2.1 + (1 : Int32), t4.2))))
def l_X10_best_10 (z10 : Int32 × Int32 × Int32 × Dt) : Option ((Int32 × Int32 × Int32 × Dt) ⊕ (Int32 × Dt)) :=
  if (12 : Int32) ≤ z10.2.2.1 then (some (Sum.inr (z10.1, z10.2.2.2))) else ((f_X10_hasBlock z10.2.2.1 z10.2.2.2).bind (fun o3 => if o3 = 0 then (j_X10_best_42_t4 z10 ((-9 : Int32), z10.2.2.2)) else ((f_X10_hasOld z10.2.2.1 z10.2.2.2).bind (fun o5 => if o5 = 0 then ((f_X10_indexAfter z10.2.2.1 z10.2.2.2).bind (fun o6 => j_X10_best_42_t4 z10 (o6.1, o6.2))) else (j_X10_best_42_t4 z10 ((-9 : Int32), z10.2.2.2))))))
def f_X10_best (D : Dt) : Option (Int32 × Dt) :=
  (f_X10_index D).bind (fun o1 => (lp l_X10_best_10 FU ((-9 : Int32), o1.1, (0 : Int32), o1.2)).bind (fun e2 => some (e2.1, e2.2)))
def f_X10_bestMove (D : Dt) : Option (Int32 × Dt) :=
  (f_X10_best D).bind (fun o1 => some (o1.1, o1.2))
def l_X10_makePlan_26 (x1 : Int32) (z26 : Int32 × Dt) : Option ((Int32 × Dt) ⊕ (Dt)) :=
  if z26.1 = (-9 : Int32) then (some (Sum.inr z26.2)) else ((f_X10_indexAfter z26.1 z26.2).bind (fun o6 => (f_X10_net z26.1 o6.2).bind (fun o7 => wr o6.2 33 0 170 o7 (o6.2 32 0 16) (fun D8 => wr D8 39 0 36 ((3 : Int32) * (D8 32 0 18)) z26.1 (fun D9 => wr D9 39 0 36 (((3 : Int32) * (D9 32 0 18)) + (1 : Int32)) (D9 32 0 16) (fun D10 => wr D10 39 0 36 (((3 : Int32) * (D10 32 0 18)) + (2 : Int32)) o6.1 (fun D11 => pu D11 32 0 18 ((D11 32 0 18) + (1 : Int32)) (fun D12 => if x1 ≤ (D12 32 0 18) then (some (Sum.inl ((-9 : Int32), D12))) else ((f_X10_best D12).bind (fun o13 => some (Sum.inl (o13.1, o13.2))))))))))))
def f_X10_makePlan (x1 : Int32) (D : Dt) : Option (Int32 × Dt) :=
  (f_X10_in x1 (1 : Int32) (12 : Int32) D).bind (fun o1 => if o1 = 0 then (some ((-1 : Int32), D)) else ((f_X10_keepsApart D).bind (fun D2 => pu D2 32 0 18 (0 : Int32) (fun D3 => (f_X10_best D3).bind (fun o4 => (lp (l_X10_makePlan_26 x1) FU (o4.1, o4.2)).bind (fun e5 => (f_X10_exchanges e5).bind (fun D14 => some (D14 32 0 18, D14))))))))
def f_X10_plan (x1 : Int32) (x2 : Int32) (D : Dt) : Option (Int32) :=
  if x1 < 0 then (some (-1 : Int32)) else ((f_X10_in x2 (0 : Int32) (2 : Int32) D).bind (fun o1 => if o1 = 0 then (some (-1 : Int32)) else (if (D 32 0 18) ≤ x1 then (some (-9 : Int32)) else (rd D 39 0 36 (((3 : Int32) * x1) + x2) (fun v2 => some v2)))))
