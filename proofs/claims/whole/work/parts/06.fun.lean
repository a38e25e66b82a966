/-- java/lang/Integer.bitCount(I)I -/
def f_Jint_bitCount (x0 : Int32) : Int32 :=
  zlet (x0 - ((zushr x0 (1 : Int32)) &&& (1431655765 : Int32))) fun y_1 =>
  zlet ((y_1 &&& (858993459 : Int32)) + ((zushr y_1 (2 : Int32)) &&& (858993459 : Int32))) fun y_2 =>
  zlet ((y_2 + (zushr y_2 (4 : Int32))) &&& (252645135 : Int32)) fun y_3 =>
  zlet (y_3 + (zushr y_3 (8 : Int32))) fun y_4 =>
  zlet (y_4 + (zushr y_4 (16 : Int32))) fun y_5 =>
  y_5 &&& (63 : Int32)
def f_Jarr_fill_l5 (n_arg0 : Nat) (x1 : Int32) (x3 : Int32) (x2 : Int32) (v_arg0 : Nat → Int32) : Option ((Int32 × (Nat → Int32)) ⊕ ((Nat → Int32))) :=
  if x3 ≤ x2 then (
    some (.inr (v_arg0)))
  else (
    if x2 < 0 ∨ n_arg0 ≤ x2.toNatClampNeg then none else
    zlet (upd v_arg0 x2.toNatClampNeg x1) fun u_3 =>
    zlet (x2 + 1) fun y_4 =>
    some (.inl (y_4, u_3)))
/-- java/util/Arrays.fill([II)V -/
def f_Jarr_fill (n_arg0 : Nat) (x1 : Int32) (v_arg0 : Nat → Int32) : Option ((Nat → Int32)) :=
  zlet (Int32.ofNat n_arg0) fun y_1 =>
  zb1 (zloop (fun q => f_Jarr_fill_l5 n_arg0 x1 y_1 q.1 q.2) zF ((0 : Int32), v_arg0)) fun q_2 =>
  some q_2
/-- PathSums.has(II)Z -/
def f_Ps_has (x0 : Int32) (x1 : Int32) : Int32 :=
  if ((zushr x0 x1) &&& (1 : Int32)) = 0 then (
    (0 : Int32))
  else (
    (1 : Int32))
/-- PathSums$Polynomial.placeOf(I)I -/
def f_Po_placeOf (x0 : Int32) : Int32 :=
  zlet (x0 &&& (-x0)) fun y_1 =>
  zlet ((x0 &&& (y_1 ^^^ (-1 : Int32))) &&& (-(x0 &&& (y_1 ^^^ (-1 : Int32))))) fun y_2 =>
  zlet ((x0 &&& (y_1 ^^^ (-1 : Int32))) &&& (y_2 ^^^ (-1 : Int32))) fun y_3 =>
  if x0 < 0 then (
    (-1 : Int32))
  else (
    if (16777215 : Int32) < x0 then (
      (-1 : Int32))
    else (
      if (y_3 &&& (y_3 - (1 : Int32))) = 0 then (
        if x0 = 0 then (
          (0 : Int32))
        else (
          zlet (f_Jint_bitCount (y_1 - (1 : Int32))) fun y_9 =>
          if y_2 = 0 then (
            (1 : Int32) + y_9)
          else (
            zlet (f_Jint_bitCount (y_2 - (1 : Int32))) fun y_12 =>
            zlet (((y_12 * (y_12 - (1 : Int32))) / (2 : Int32)) + y_9) fun y_13 =>
            if y_3 = 0 then (
              (25 : Int32) + y_13)
            else (
              zlet (f_Jint_bitCount (y_3 - (1 : Int32))) fun y_16 =>
              ((301 : Int32) + (((y_16 * (y_16 - (1 : Int32))) * (y_16 - (2 : Int32))) / (6 : Int32))) + y_13))))
      else (
        (-1 : Int32))))
/-- PathSums$Polynomial.numberOf(I)I -/
def f_Po_numberOf (x1 : Int32) (v_numbers : Nat → Int32) : Option (Int32) :=
  zlet (f_Po_placeOf x1) fun y_2 =>
  if y_2 < 0 then (
    some (0 : Int32))
  else (
    if (2325 : Int32) ≤ y_2 then (
      some (0 : Int32))
    else (
      if y_2 < 0 ∨ 2325 ≤ y_2.toNatClampNeg then none else
      some (v_numbers y_2.toNatClampNeg)))
/-- PathSums$Polynomial.add(II)V -/
def f_Po_add (x1 : Int32) (x2 : Int32) (v_monomials : Int32) (v_numbers : Nat → Int32) : Option (Int32 × (Nat → Int32)) :=
  zlet (f_Po_placeOf x1) fun y_2 =>
  if y_2 < 0 then (
    some (v_monomials, v_numbers))
  else (
    if y_2 < (2325 : Int32) then (
      if y_2 < 0 ∨ 2325 ≤ y_2.toNatClampNeg then none else
      zlet (v_numbers y_2.toNatClampNeg) fun y_6 =>
      zlet ((y_6 + x2) &&& (7 : Int32)) fun y_7 =>
      if y_2 < 0 ∨ 2325 ≤ y_2.toNatClampNeg then none else
      zlet (upd v_numbers y_2.toNatClampNeg y_7) fun u_9 =>
      if y_7 = 0 then (
        if y_6 = 0 then (
          zlet (v_monomials + ((0 : Int32) - (0 : Int32))) fun y_12 =>
          some (y_12, u_9))
        else (
          zlet (v_monomials + ((0 : Int32) - (1 : Int32))) fun y_13 =>
          some (y_13, u_9)))
      else (
        if y_6 = 0 then (
          zlet (v_monomials + ((1 : Int32) - (0 : Int32))) fun y_15 =>
          some (y_15, u_9))
        else (
          zlet (v_monomials + ((1 : Int32) - (1 : Int32))) fun y_16 =>
          some (y_16, u_9))))
    else (
      some (v_monomials, v_numbers)))
/-- PathSums$Polynomial.clear()V -/
def f_Po_clear (v_monomials : Int32) (v_numbers : Nat → Int32) : Option (Int32 × (Nat → Int32)) :=
  zb1 (f_Jarr_fill 2325 (0 : Int32) v_numbers) fun q_2 =>
  some ((0 : Int32), q_2)
def f_Po_addTriplesBelow_l3 (x1 : Int32) (x2 : Int32) (x3 : Int32) (x4 : Int32) (v_monomials : Int32) (v_numbers : Nat → Int32) : Option ((Int32 × Int32 × (Nat → Int32)) ⊕ (Int32 × (Nat → Int32))) :=
  if x1 ≤ x4 then (
    some (.inr (v_monomials, v_numbers)))
  else (
    if (f_Ps_has x2 x4) = 0 then (
      zlet (x4 + 1) fun y_4 =>
      some (.inl (y_4, v_monomials, v_numbers)))
    else (
      zb2 (f_Po_add (x3 ||| ((1 : Int32) <<< (x4 &&& 31))) (4 : Int32) v_monomials v_numbers) fun q_6 q_7 =>
      zlet (x4 + 1) fun y_8 =>
      some (.inl (y_8, q_6, q_7))))
/-- PathSums$Polynomial.addTriplesBelow(III)V -/
def f_Po_addTriplesBelow (x1 : Int32) (x2 : Int32) (x3 : Int32) (v_monomials : Int32) (v_numbers : Nat → Int32) : Option (Int32 × (Nat → Int32)) :=
  zb2 (zloop (fun q => f_Po_addTriplesBelow_l3 x1 x2 x3 q.1 q.2.1 q.2.2) zF ((0 : Int32), v_monomials, v_numbers)) fun q_1 q_2 =>
  some (q_1, q_2)
def f_Po_addPairsBelow_l3 (x1 : Int32) (x2 : Int32) (x3 : Int32) (x4 : Int32) (x5 : Int32) (v_monomials : Int32) (v_numbers : Nat → Int32) : Option ((Int32 × Int32 × (Nat → Int32)) ⊕ (Int32 × (Nat → Int32))) :=
  if x1 ≤ x5 then (
    some (.inr (v_monomials, v_numbers)))
  else (
    if (f_Ps_has x3 x5) = 0 then (
      zlet (x5 + 1) fun y_4 =>
      some (.inl (y_4, v_monomials, v_numbers)))
    else (
      zb2 (f_Po_add (x4 ||| ((1 : Int32) <<< (x5 &&& 31))) ((-2 : Int32) * x2) v_monomials v_numbers) fun q_6 q_7 =>
      if (f_Ps_has x2 (0 : Int32)) = 0 then (
        zlet (x5 + 1) fun y_10 =>
        some (.inl (y_10, q_6, q_7)))
      else (
        zb2 (f_Po_addTriplesBelow x5 x3 (x4 ||| ((1 : Int32) <<< (x5 &&& 31))) q_6 q_7) fun q_12 q_13 =>
        zlet (x5 + 1) fun y_14 =>
        some (.inl (y_14, q_12, q_13)))))
/-- PathSums$Polynomial.addPairsBelow(IIII)V -/
def f_Po_addPairsBelow (x1 : Int32) (x2 : Int32) (x3 : Int32) (x4 : Int32) (v_monomials : Int32) (v_numbers : Nat → Int32) : Option (Int32 × (Nat → Int32)) :=
  zb2 (zloop (fun q => f_Po_addPairsBelow_l3 x1 x2 x3 x4 q.1 q.2.1 q.2.2) zF ((0 : Int32), v_monomials, v_numbers)) fun q_1 q_2 =>
  some (q_1, q_2)
def f_Po_addXor_l25 (x2 : Int32) (x3 : Int32) (x4 : Int32) (x5 : Int32) (v_monomials : Int32) (v_numbers : Nat → Int32) : Option ((Int32 × Int32 × (Nat → Int32)) ⊕ (Int32 × (Nat → Int32))) :=
  if (24 : Int32) ≤ x5 then (
    some (.inr (v_monomials, v_numbers)))
  else (
    if (f_Ps_has x2 x5) = 0 then (
      zlet (x5 + 1) fun y_4 =>
      some (.inl (y_4, v_monomials, v_numbers)))
    else (
      zb2 (f_Po_add (x3 ||| ((1 : Int32) <<< (x5 &&& 31))) x4 v_monomials v_numbers) fun q_6 q_7 =>
      if (x4 &&& (3 : Int32)) = 0 then (
        zlet (x5 + 1) fun y_9 =>
        some (.inl (y_9, q_6, q_7)))
      else (
        zb2 (f_Po_addPairsBelow x5 x4 x2 (x3 ||| ((1 : Int32) <<< (x5 &&& 31))) q_6 q_7) fun q_11 q_12 =>
        zlet (x5 + 1) fun y_13 =>
        some (.inl (y_13, q_11, q_12)))))
def f_Po_addXor_j22 (x2 : Int32) (x3 : Int32) (x4 : Int32) (v_monomials : Int32) (v_numbers : Nat → Int32) : Option (Int32 × (Nat → Int32)) :=
  zb2 (zloop (fun q => f_Po_addXor_l25 x2 x3 x4 q.1 q.2.1 q.2.2) zF ((0 : Int32), v_monomials, v_numbers)) fun q_1 q_2 =>
  some (q_1, q_2)
/-- PathSums$Polynomial.addXor(III)V -/
def f_Po_addXor (x1 : Int32) (x2 : Int32) (x3 : Int32) (v_monomials : Int32) (v_numbers : Nat → Int32) : Option (Int32 × (Nat → Int32)) :=
  if (f_Ps_has x2 (24 : Int32)) = 0 then (
    f_Po_addXor_j22 x2 x3 x1 v_monomials v_numbers)
  else (
    zb2 (f_Po_add x3 x1 v_monomials v_numbers) fun q_4 q_5 =>
    zlet (-x1) fun y_6 =>
    f_Po_addXor_j22 x2 x3 y_6 q_4 q_5)
def f_Po_addFourTimes_l47 (x1 : Int32) (x2 : Int32) (x3 : Int32) (x4 : Int32) (x5 : Int32) (x6 : Int32) (v_monomials : Int32) (v_numbers : Nat → Int32) : Option ((Int32 × Int32 × (Nat → Int32)) ⊕ (Int32 × (Nat → Int32))) :=
  if (24 : Int32) < x6 then (
    some (.inr (v_monomials, v_numbers)))
  else (
    if (f_Ps_has x3 x6) = 0 then (
      zlet (x6 + 1) fun y_4 =>
      some (.inl (y_4, v_monomials, v_numbers)))
    else (
      zb2 (f_Po_add (((((1 : Int32) <<< (x4 &&& 31)) ||| ((1 : Int32) <<< (x5 &&& 31))) ||| ((1 : Int32) <<< (x6 &&& 31))) &&& (16777215 : Int32)) (4 : Int32) v_monomials v_numbers) fun q_6 q_7 =>
      zlet (x6 + 1) fun y_8 =>
      some (.inl (y_8, q_6, q_7))))
def f_Po_addFourTimes_l25 (x1 : Int32) (x2 : Int32) (x3 : Int32) (x4 : Int32) (x5 : Int32) (v_monomials : Int32) (v_numbers : Nat → Int32) : Option ((Int32 × Int32 × (Nat → Int32)) ⊕ (Int32 × (Nat → Int32))) :=
  if (24 : Int32) < x5 then (
    some (.inr (v_monomials, v_numbers)))
  else (
    if (f_Ps_has x2 x5) = 0 then (
      zlet (x5 + 1) fun y_4 =>
      some (.inl (y_4, v_monomials, v_numbers)))
    else (
      zb2 (zloop (fun q => f_Po_addFourTimes_l47 x1 x2 x3 x4 x5 q.1 q.2.1 q.2.2) zF ((0 : Int32), v_monomials, v_numbers)) fun q_5 q_6 =>
      zlet (x5 + 1) fun y_8 =>
      some (.inl (y_8, q_5, q_6))))
def f_Po_addFourTimes_l3 (x1 : Int32) (x2 : Int32) (x3 : Int32) (x4 : Int32) (v_monomials : Int32) (v_numbers : Nat → Int32) : Option ((Int32 × Int32 × (Nat → Int32)) ⊕ (Int32 × (Nat → Int32))) :=
  if (24 : Int32) < x4 then (
    some (.inr (v_monomials, v_numbers)))
  else (
    if (f_Ps_has x1 x4) = 0 then (
      zlet (x4 + 1) fun y_4 =>
      some (.inl (y_4, v_monomials, v_numbers)))
    else (
      zb2 (zloop (fun q => f_Po_addFourTimes_l25 x1 x2 x3 x4 q.1 q.2.1 q.2.2) zF ((0 : Int32), v_monomials, v_numbers)) fun q_5 q_6 =>
      zlet (x4 + 1) fun y_8 =>
      some (.inl (y_8, q_5, q_6))))
/-- PathSums$Polynomial.addFourTimes(III)V -/
def f_Po_addFourTimes (x1 : Int32) (x2 : Int32) (x3 : Int32) (v_monomials : Int32) (v_numbers : Nat → Int32) : Option (Int32 × (Nat → Int32)) :=
  zb2 (zloop (fun q => f_Po_addFourTimes_l3 x1 x2 x3 q.1 q.2.1 q.2.2) zF ((0 : Int32), v_monomials, v_numbers)) fun q_1 q_2 =>
  some (q_1, q_2)
def f_Po_replaceBit_l11 (x1 : Int32) (x2 : Int32) (x3 : Int32) (x4 : Int32) (v_monomials : Int32) (v_numbers : Nat → Int32) : Option ((Int32 × Int32 × (Nat → Int32)) ⊕ (Int32 × (Nat → Int32))) :=
  if x3 < x4 then (
    some (.inr (v_monomials, v_numbers)))
  else (
    zlet ((((1 : Int32) <<< (x1 &&& 31)) ||| ((1 : Int32) <<< (x3 &&& 31))) ||| ((1 : Int32) <<< (x4 &&& 31))) fun y_2 =>
    zb1 (f_Po_numberOf y_2 v_numbers) fun r_4 =>
    if r_4 = 0 then (
      zlet (x4 + 1) fun y_6 =>
      some (.inl (y_6, v_monomials, v_numbers)))
    else (
      zb2 (f_Po_add y_2 (-r_4) v_monomials v_numbers) fun q_8 q_9 =>
      zb2 (f_Po_addXor r_4 x2 (y_2 &&& (((1 : Int32) <<< (x1 &&& 31)) ^^^ (-1 : Int32))) q_8 q_9) fun q_11 q_12 =>
      zlet (x4 + 1) fun y_13 =>
      some (.inl (y_13, q_11, q_12))))
def f_Po_replaceBit_l2 (x1 : Int32) (x2 : Int32) (x3 : Int32) (v_monomials : Int32) (v_numbers : Nat → Int32) : Option ((Int32 × Int32 × (Nat → Int32)) ⊕ (Int32 × (Nat → Int32))) :=
  if (24 : Int32) ≤ x3 then (
    some (.inr (v_monomials, v_numbers)))
  else (
    zb2 (zloop (fun q => f_Po_replaceBit_l11 x1 x2 x3 q.1 q.2.1 q.2.2) zF ((0 : Int32), v_monomials, v_numbers)) fun q_2 q_3 =>
    zlet (x3 + 1) fun y_5 =>
    some (.inl (y_5, q_2, q_3)))
/-- PathSums$Polynomial.replaceBit(II)V -/
def f_Po_replaceBit (x1 : Int32) (x2 : Int32) (v_monomials : Int32) (v_numbers : Nat → Int32) : Option (Int32 × (Nat → Int32)) :=
  zb2 (zloop (fun q => f_Po_replaceBit_l2 x1 x2 q.1 q.2.1 q.2.2) zF ((0 : Int32), v_monomials, v_numbers)) fun q_1 q_2 =>
  some (q_1, q_2)
def f_Po_partnersOf_l13 (x1 : Int32) (x3 : Int32) (v_numbers : Nat → Int32) (x2 : Int32) (x4 : Int32) : Option ((Int32 × Int32) ⊕ ((Int32) ⊕ (Int32))) :=
  if x3 < x4 then (
    some (.inr (.inl (x2))))
  else (
    zlet ((((1 : Int32) <<< (x1 &&& 31)) ||| ((1 : Int32) <<< (x3 &&& 31))) ||| ((1 : Int32) <<< (x4 &&& 31))) fun y_2 =>
    if y_2 = ((1 : Int32) <<< (x1 &&& 31)) then (
      zlet (x2 ||| (0 : Int32)) fun y_4 =>
      zlet (x4 + 1) fun y_5 =>
      some (.inl (y_4, y_5)))
    else (
      zb1 (f_Po_numberOf y_2 v_numbers) fun r_7 =>
      if r_7 = 0 then (
        if r_7 = 0 then (
          zlet (x2 ||| (0 : Int32)) fun y_10 =>
          zlet (x4 + 1) fun y_11 =>
          some (.inl (y_10, y_11)))
        else (
          zlet (x2 ||| (y_2 &&& (((1 : Int32) <<< (x1 &&& 31)) ^^^ (-1 : Int32)))) fun y_12 =>
          zlet (x4 + 1) fun y_13 =>
          some (.inl (y_12, y_13))))
      else (
        if r_7 = (4 : Int32) then (
          if (f_Jint_bitCount y_2) ≤ (2 : Int32) then (
            if r_7 = 0 then (
              zlet (x2 ||| (0 : Int32)) fun y_18 =>
              zlet (x4 + 1) fun y_19 =>
              some (.inl (y_18, y_19)))
            else (
              zlet (x2 ||| (y_2 &&& (((1 : Int32) <<< (x1 &&& 31)) ^^^ (-1 : Int32)))) fun y_20 =>
              zlet (x4 + 1) fun y_21 =>
              some (.inl (y_20, y_21))))
          else (
            some (.inr (.inr (-1 : Int32)))))
        else (
          some (.inr (.inr (-1 : Int32)))))))
def f_Po_partnersOf_l4 (x1 : Int32) (v_numbers : Nat → Int32) (x2 : Int32) (x3 : Int32) : Option ((Int32 × Int32) ⊕ ((Int32) ⊕ (Int32))) :=
  if (24 : Int32) ≤ x3 then (
    some (.inr (.inl (x2))))
  else (
    zs1 (zloop (fun q => f_Po_partnersOf_l13 x1 x3 v_numbers q.1 q.2) zF (x2, (0 : Int32))) fun y_2 =>
    zlet (x3 + 1) fun y_4 =>
    some (.inl (y_2, y_4)))
/-- PathSums$Polynomial.partnersOf(I)I -/
def f_Po_partnersOf (x1 : Int32) (v_numbers : Nat → Int32) : Option (Int32) :=
  zr1 (zloop (fun q => f_Po_partnersOf_l4 x1 v_numbers q.1 q.2) zF ((0 : Int32), (0 : Int32))) fun y_1 =>
  some y_1
/-- PathSums$DoneRules.keep(III)V -/
def f_Dr_keep (x1 : Int32) (x2 : Int32) (x3 : Int32) (v_count : Int32) (v_kinds : Nat → Int32) (v_ys : Nat → Int32) (v_zs : Nat → Int32) : Option (Int32 × (Nat → Int32) × (Nat → Int32) × (Nat → Int32)) :=
  if v_count < 0 then (
    some (v_count, v_kinds, v_ys, v_zs))
  else (
    if v_count < (24 : Int32) then (
      if v_count < 0 ∨ 24 ≤ v_count.toNatClampNeg then none else
      zlet (upd v_kinds v_count.toNatClampNeg x1) fun u_4 =>
      if v_count < 0 ∨ 24 ≤ v_count.toNatClampNeg then none else
      zlet (upd v_ys v_count.toNatClampNeg x2) fun u_6 =>
      if v_count < 0 ∨ 24 ≤ v_count.toNatClampNeg then none else
      zlet (upd v_zs v_count.toNatClampNeg x3) fun u_8 =>
      zlet (v_count + (1 : Int32)) fun y_9 =>
      some (y_9, u_4, u_6, u_8))
    else (
      some (v_count, v_kinds, v_ys, v_zs)))
/-- PathSums$DoneRules.look(II)I -/
def f_Dr_look (x1 : Int32) (x2 : Int32) (v_count : Int32) (v_kinds : Nat → Int32) (v_ys : Nat → Int32) (v_zs : Nat → Int32) : Option (Int32) :=
  if x1 < 0 then (
    some (-1 : Int32))
  else (
    if v_count ≤ x1 then (
      some (-1 : Int32))
    else (
      if x1 < (24 : Int32) then (
        if x2 = 0 then (
          if x1 < 0 ∨ 24 ≤ x1.toNatClampNeg then none else
          some (v_kinds x1.toNatClampNeg))
        else (
        if x2 = 1 then (
          if x1 < 0 ∨ 24 ≤ x1.toNatClampNeg then none else
          some (v_ys x1.toNatClampNeg))
        else (
        if x2 = 2 then (
          if x1 < 0 ∨ 24 ≤ x1.toNatClampNeg then none else
          some (v_zs x1.toNatClampNeg))
        else (
        some (-1 : Int32)))))
      else (
        some (-1 : Int32))))
def f_Wa_wiresWith_l4 (x0 : Int32) (v_arg1 : Nat → Int32) (x2 : Int32) (x3 : Int32) : Option ((Int32 × Int32) ⊕ (Int32)) :=
  if (6 : Int32) ≤ x3 then (
    some (.inr (x2)))
  else (
    if (6 : Int32) ≤ x3 then (
      some (.inr (x2)))
    else (
      if x3 < 0 ∨ 6 ≤ x3.toNatClampNeg then none else
      zlet (x2 ||| (((zushr (v_arg1 x3.toNatClampNeg) x0) &&& (1 : Int32)) <<< (x3 &&& 31))) fun y_4 =>
      zlet (x3 + 1) fun y_5 =>
      some (.inl (y_4, y_5))))
/-- PathSums$Ways.wiresWith(I[I)I -/
def f_Wa_wiresWith (x0 : Int32) (v_arg1 : Nat → Int32) : Option (Int32) :=
  zb1 (zloop (fun q => f_Wa_wiresWith_l4 x0 v_arg1 q.1 q.2) zF ((0 : Int32), (0 : Int32))) fun y_1 =>
  some y_1
def f_Wa_choose_l7 (x1 : Int32) (v_arg1 : Nat → Int32) (x3 : Int32) (v_chosen : Int32) (v_wayOf : Nat → Int32) (v_wiresOf : Nat → Int32) : Option ((Int32 × Int32 × (Nat → Int32) × (Nat → Int32)) ⊕ (Int32 × (Nat → Int32) × (Nat → Int32))) :=
  if (24 : Int32) ≤ x3 then (
    some (.inr (v_chosen, v_wayOf, v_wiresOf)))
  else (
    if x3 < 0 ∨ 24 ≤ x3.toNatClampNeg then none else
    zlet (upd v_wayOf x3.toNatClampNeg (0 : Int32)) fun u_3 =>
    if (f_Ps_has x1 x3) = 0 then (
      zlet (x3 + 1) fun y_6 =>
      some (.inl (y_6, v_chosen, u_3, v_wiresOf)))
    else (
      if (12 : Int32) ≤ v_chosen then (
        zlet (x3 + 1) fun y_8 =>
        some (.inl (y_8, v_chosen, u_3, v_wiresOf)))
      else (
        if x3 < 0 ∨ 24 ≤ x3.toNatClampNeg then none else
        zlet (upd u_3 x3.toNatClampNeg ((1 : Int32) <<< (v_chosen &&& 31))) fun u_10 =>
        zb1 (f_Wa_wiresWith x3 v_arg1) fun r_12 =>
        if v_chosen < 0 ∨ 12 ≤ v_chosen.toNatClampNeg then none else
        zlet (upd v_wiresOf v_chosen.toNatClampNeg r_12) fun u_14 =>
        zlet (v_chosen + (1 : Int32)) fun y_15 =>
        zlet (x3 + 1) fun y_16 =>
        some (.inl (y_16, y_15, u_10, u_14)))))
/-- PathSums$Ways.choose(I[I)V -/
def f_Wa_choose (x1 : Int32) (v_chosen : Int32) (v_wayOf : Nat → Int32) (v_arg1 : Nat → Int32) (v_wiresOf : Nat → Int32) : Option (Int32 × (Nat → Int32) × (Nat → Int32)) :=
  zb3 (zloop (fun q => f_Wa_choose_l7 x1 v_arg1 q.1 q.2.1 q.2.2.1 q.2.2.2) zF ((0 : Int32), (0 : Int32), v_wayOf, v_wiresOf)) fun q_1 q_2 q_3 =>
  some (q_1, q_2, q_3)
/-- PathSums$Ways.addNumber(II)V -/
def f_Wa_addNumber (x1 : Int32) (x2 : Int32) (v_phases : Nat → Int32) : Option ((Nat → Int32)) :=
  if x1 < 0 then (
    some v_phases)
  else (
    if (4096 : Int32) ≤ x1 then (
      some v_phases)
    else (
      if x1 < 0 ∨ 4096 ≤ x1.toNatClampNeg then none else
      if x1 < 0 ∨ 4096 ≤ x1.toNatClampNeg then none else
      zlet (upd v_phases x1.toNatClampNeg ((v_phases x1.toNatClampNeg) + x2)) fun u_5 =>
      some u_5))
def f_Wa_layProductsBelow_l59 (x1 : Int32) (x3 : Int32) (x4 : Int32) (x5 : Int32) (x6 : Int32) (v_wayOf : Nat → Int32) (v_arg1_numbers : Nat → Int32) (x7 : Int32) (v_phases : Nat → Int32) : Option ((Int32 × (Nat → Int32)) ⊕ ((Nat → Int32))) :=
  if x4 ≤ x7 then (
    some (.inr (v_phases)))
  else (
    if (f_Ps_has x3 x7) = 0 then (
      zlet (x7 + 1) fun y_4 =>
      some (.inl (y_4, v_phases)))
    else (
      if x7 < 0 ∨ 24 ≤ x7.toNatClampNeg then none else
      zb1 (f_Po_numberOf (x5 ||| ((1 : Int32) <<< (x7 &&& 31))) v_arg1_numbers) fun r_7 =>
      zb1 (f_Wa_addNumber (x6 ||| (v_wayOf x7.toNatClampNeg)) r_7 v_phases) fun q_9 =>
      zlet (x7 + 1) fun y_10 =>
      some (.inl (y_10, q_9))))
def f_Wa_layProductsBelow_l3 (x1 : Int32) (x3 : Int32) (v_wayOf : Nat → Int32) (v_arg1_numbers : Nat → Int32) (x4 : Int32) (v_phases : Nat → Int32) : Option ((Int32 × (Nat → Int32)) ⊕ ((Nat → Int32))) :=
  if x1 ≤ x4 then (
    some (.inr (v_phases)))
  else (
    if (f_Ps_has x3 x4) = 0 then (
      zlet (x4 + 1) fun y_4 =>
      some (.inl (y_4, v_phases)))
    else (
      zlet (((1 : Int32) <<< (x1 &&& 31)) ||| ((1 : Int32) <<< (x4 &&& 31))) fun y_5 =>
      if x1 < 0 ∨ 24 ≤ x1.toNatClampNeg then none else
      if x4 < 0 ∨ 24 ≤ x4.toNatClampNeg then none else
      zlet ((v_wayOf x1.toNatClampNeg) ||| (v_wayOf x4.toNatClampNeg)) fun y_8 =>
      zb1 (f_Po_numberOf y_5 v_arg1_numbers) fun r_10 =>
      zb1 (f_Wa_addNumber y_8 r_10 v_phases) fun q_12 =>
      zb1 (zloop (fun q => f_Wa_layProductsBelow_l59 x1 x3 x4 y_5 y_8 v_wayOf v_arg1_numbers q.1 q.2) zF ((0 : Int32), q_12)) fun q_13 =>
      zlet (x4 + 1) fun y_15 =>
      some (.inl (y_15, q_13))))
/-- PathSums$Ways.layProductsBelow(ILPathSums$Polynomial;I)V -/
def f_Wa_layProductsBelow (x1 : Int32) (x3 : Int32) (v_wayOf : Nat → Int32) (v_arg1_numbers : Nat → Int32) (v_phases : Nat → Int32) : Option ((Nat → Int32)) :=
  zb1 (zloop (fun q => f_Wa_layProductsBelow_l3 x1 x3 v_wayOf v_arg1_numbers q.1 q.2) zF ((0 : Int32), v_phases)) fun q_1 =>
  some q_1
def f_Wa_sumOverParts_l16 (x1 : Int32) (x2 : Int32) (v_chosen : Int32) (x3 : Int32) (v_phases : Nat → Int32) : Option ((Int32 × (Nat → Int32)) ⊕ ((Nat → Int32))) :=
  if ((1 : Int32) <<< (v_chosen &&& 31)) ≤ x3 then (
    some (.inr (v_phases)))
  else (
    if (4096 : Int32) ≤ x3 then (
      some (.inr (v_phases)))
    else (
      if (x3 &&& x2) = 0 then (
        zlet (x3 + 1) fun y_4 =>
        some (.inl (y_4, v_phases)))
      else (
        if x3 < 0 ∨ 4096 ≤ x3.toNatClampNeg then none else
        if (x3 ^^^ x2) < 0 ∨ 4096 ≤ (x3 ^^^ x2).toNatClampNeg then none else
        if x3 < 0 ∨ 4096 ≤ x3.toNatClampNeg then none else
        zlet (upd v_phases x3.toNatClampNeg ((v_phases x3.toNatClampNeg) + (v_phases (x3 ^^^ x2).toNatClampNeg))) fun u_8 =>
        zlet (x3 + 1) fun y_9 =>
        some (.inl (y_9, u_8)))))
def f_Wa_sumOverParts_l2 (v_chosen : Int32) (x1 : Int32) (v_phases : Nat → Int32) : Option ((Int32 × (Nat → Int32)) ⊕ ((Nat → Int32))) :=
  if v_chosen ≤ x1 then (
    some (.inr (v_phases)))
  else (
    zlet ((1 : Int32) <<< (x1 &&& 31)) fun y_2 =>
    zb1 (zloop (fun q => f_Wa_sumOverParts_l16 x1 y_2 v_chosen q.1 q.2) zF ((0 : Int32), v_phases)) fun q_3 =>
    zlet (x1 + 1) fun y_5 =>
    some (.inl (y_5, q_3)))
/-- PathSums$Ways.sumOverParts()V -/
def f_Wa_sumOverParts (v_chosen : Int32) (v_phases : Nat → Int32) : Option ((Nat → Int32)) :=
  zb1 (zloop (fun q => f_Wa_sumOverParts_l2 v_chosen q.1 q.2) zF ((0 : Int32), v_phases)) fun q_1 =>
  some q_1
def f_Wa_findPhases_l21 (x2 : Int32) (v_chosen : Int32) (v_arg0_numbers : Nat → Int32) (v_wayOf : Nat → Int32) (x3 : Int32) (v_phases : Nat → Int32) : Option ((Int32 × (Nat → Int32)) ⊕ ((Nat → Int32))) :=
  if (24 : Int32) ≤ x3 then (
    some (.inr (v_phases)))
  else (
    if (f_Ps_has x2 x3) = 0 then (
      zlet (x3 + 1) fun y_4 =>
      some (.inl (y_4, v_phases)))
    else (
      if x3 < 0 ∨ 24 ≤ x3.toNatClampNeg then none else
      zb1 (f_Po_numberOf ((1 : Int32) <<< (x3 &&& 31)) v_arg0_numbers) fun r_7 =>
      zb1 (f_Wa_addNumber (v_wayOf x3.toNatClampNeg) r_7 v_phases) fun q_9 =>
      zb1 (f_Wa_layProductsBelow x3 x2 v_wayOf v_arg0_numbers q_9) fun q_11 =>
      zlet (x3 + 1) fun y_12 =>
      some (.inl (y_12, q_11))))
/-- PathSums$Ways.findPhases(LPathSums$Polynomial;I)V -/
def f_Wa_findPhases (x2 : Int32) (v_chosen : Int32) (v_phases : Nat → Int32) (v_arg0_numbers : Nat → Int32) (v_wayOf : Nat → Int32) : Option ((Nat → Int32)) :=
  zb1 (f_Jarr_fill 4096 (0 : Int32) v_phases) fun q_2 =>
  zb1 (f_Po_numberOf (0 : Int32) v_arg0_numbers) fun r_4 =>
  zlet (upd q_2 (0 : Int32).toNatClampNeg r_4) fun u_5 =>
  zb1 (zloop (fun q => f_Wa_findPhases_l21 x2 v_chosen v_arg0_numbers v_wayOf q.1 q.2) zF ((0 : Int32), u_5)) fun q_6 =>
  zb1 (f_Wa_sumOverParts v_chosen q_6) fun q_9 =>
  some q_9
def f_Wa_tally_l16 (x2 : Int32) (v_chosen : Int32) (v_wiresOf : Nat → Int32) (v_phases : Nat → Int32) (x3 : Int32) (x4 : Int32) (x5 : Int32) (v_tallies : Nat → Int32) : Option ((Int32 × Int32 × Int32 × (Nat → Int32)) ⊕ ((Nat → Int32))) :=
  if ((1 : Int32) <<< (v_chosen &&& 31)) < x5 then (
    some (.inr (v_tallies)))
  else (
    if x4 = x2 then (
      if x3 < 0 then (
        zlet (f_Jint_bitCount ((x5 &&& (-x5)) - (1 : Int32))) fun y_5 =>
        if v_chosen ≤ y_5 then (
          zlet (x5 + 1) fun y_7 =>
          some (.inl (x3, x4, y_7, v_tallies)))
        else (
          if (12 : Int32) ≤ y_5 then (
            zlet (x5 + 1) fun y_9 =>
            some (.inl (x3, x4, y_9, v_tallies)))
          else (
            zlet (x3 ^^^ ((1 : Int32) <<< (y_5 &&& 31))) fun y_10 =>
            if y_5 < 0 ∨ 12 ≤ y_5.toNatClampNeg then none else
            zlet (x4 ^^^ (v_wiresOf y_5.toNatClampNeg)) fun y_12 =>
            zlet (x5 + 1) fun y_13 =>
            some (.inl (y_10, y_12, y_13, v_tallies)))))
      else (
        if (4096 : Int32) ≤ x3 then (
          zlet (f_Jint_bitCount ((x5 &&& (-x5)) - (1 : Int32))) fun y_16 =>
          if v_chosen ≤ y_16 then (
            zlet (x5 + 1) fun y_18 =>
            some (.inl (x3, x4, y_18, v_tallies)))
          else (
            if (12 : Int32) ≤ y_16 then (
              zlet (x5 + 1) fun y_20 =>
              some (.inl (x3, x4, y_20, v_tallies)))
            else (
              zlet (x3 ^^^ ((1 : Int32) <<< (y_16 &&& 31))) fun y_21 =>
              if y_16 < 0 ∨ 12 ≤ y_16.toNatClampNeg then none else
              zlet (x4 ^^^ (v_wiresOf y_16.toNatClampNeg)) fun y_23 =>
              zlet (x5 + 1) fun y_24 =>
              some (.inl (y_21, y_23, y_24, v_tallies)))))
        else (
          if x3 < 0 ∨ 4096 ≤ x3.toNatClampNeg then none else
          if ((v_phases x3.toNatClampNeg) &&& (7 : Int32)) < 0 ∨ 8 ≤ ((v_phases x3.toNatClampNeg) &&& (7 : Int32)).toNatClampNeg then none else
          if ((v_phases x3.toNatClampNeg) &&& (7 : Int32)) < 0 ∨ 8 ≤ ((v_phases x3.toNatClampNeg) &&& (7 : Int32)).toNatClampNeg then none else
          zlet (upd v_tallies ((v_phases x3.toNatClampNeg) &&& (7 : Int32)).toNatClampNeg ((v_tallies ((v_phases x3.toNatClampNeg) &&& (7 : Int32)).toNatClampNeg) + (1 : Int32))) fun u_28 =>
          zlet (f_Jint_bitCount ((x5 &&& (-x5)) - (1 : Int32))) fun y_30 =>
          if v_chosen ≤ y_30 then (
            zlet (x5 + 1) fun y_32 =>
            some (.inl (x3, x4, y_32, u_28)))
          else (
            if (12 : Int32) ≤ y_30 then (
              zlet (x5 + 1) fun y_34 =>
              some (.inl (x3, x4, y_34, u_28)))
            else (
              zlet (x3 ^^^ ((1 : Int32) <<< (y_30 &&& 31))) fun y_35 =>
              if y_30 < 0 ∨ 12 ≤ y_30.toNatClampNeg then none else
              zlet (x4 ^^^ (v_wiresOf y_30.toNatClampNeg)) fun y_37 =>
              zlet (x5 + 1) fun y_38 =>
              some (.inl (y_35, y_37, y_38, u_28)))))))
    else (
      zlet (f_Jint_bitCount ((x5 &&& (-x5)) - (1 : Int32))) fun y_40 =>
      if v_chosen ≤ y_40 then (
        zlet (x5 + 1) fun y_42 =>
        some (.inl (x3, x4, y_42, v_tallies)))
      else (
        if (12 : Int32) ≤ y_40 then (
          zlet (x5 + 1) fun y_44 =>
          some (.inl (x3, x4, y_44, v_tallies)))
        else (
          zlet (x3 ^^^ ((1 : Int32) <<< (y_40 &&& 31))) fun y_45 =>
          if y_40 < 0 ∨ 12 ≤ y_40.toNatClampNeg then none else
          zlet (x4 ^^^ (v_wiresOf y_40.toNatClampNeg)) fun y_47 =>
          zlet (x5 + 1) fun y_48 =>
          some (.inl (y_45, y_47, y_48, v_tallies))))))
/-- PathSums$Ways.tally(II)V -/
def f_Wa_tally (x1 : Int32) (x2 : Int32) (v_chosen : Int32) (v_tallies : Nat → Int32) (v_wiresOf : Nat → Int32) (v_phases : Nat → Int32) : Option ((Nat → Int32)) :=
  zb1 (f_Jarr_fill 8 (0 : Int32) v_tallies) fun q_2 =>
  zb1 (zloop (fun q => f_Wa_tally_l16 x2 v_chosen v_wiresOf v_phases q.1 q.2.1 q.2.2.1 q.2.2.2) zF ((0 : Int32), x1, (1 : Int32), q_2)) fun q_3 =>
  some q_3
/-- PathSums$Root.multiplyByR()V -/
def f_Ro_multiplyByR (v_a : Int64) (v_b : Int64) (v_c : Int64) (v_d : Int64) : Int64 × Int64 × Int64 × Int64 :=
  zlet (v_b - v_d) fun y_1 =>
  zlet (v_a + v_c) fun y_2 =>
  zlet (v_b + v_d) fun y_3 =>
  zlet (v_c - v_a) fun y_4 =>
  (y_1, y_2, y_3, y_4)
/-- PathSums$Root.isMultipleOfR()Z -/
def f_Ro_isMultipleOfR (v_a : Int64) (v_b : Int64) (v_c : Int64) (v_d : Int64) : Int32 :=
  if (lg_cmp ((v_a - v_c) - (v_a - v_c) / (2 : Int64) * (2 : Int64)) (0 : Int64)) = 0 then (
    if (lg_cmp ((v_b - v_d) - (v_b - v_d) / (2 : Int64) * (2 : Int64)) (0 : Int64)) = 0 then (
      (1 : Int32))
    else (
      (0 : Int32)))
  else (
    (0 : Int32))
/-- PathSums$Root.halve()V -/
def f_Ro_halve (v_a : Int64) (v_b : Int64) (v_c : Int64) (v_d : Int64) : Int64 × Int64 × Int64 × Int64 :=
  zlet (v_a / (2 : Int64)) fun y_1 =>
  zlet (v_b / (2 : Int64)) fun y_2 =>
  zlet (v_c / (2 : Int64)) fun y_3 =>
  zlet (v_d / (2 : Int64)) fun y_4 =>
  (y_1, y_2, y_3, y_4)
def f_Ro_take_l60 (x2 : Int32) (v_k : Int32) (v_arg0 : Nat → Int32) (x3 : Int32) (v_a : Int64) (v_b : Int64) (v_c : Int64) (v_d : Int64) : Option ((Int32 × Int64 × Int64 × Int64 × Int64) ⊕ (Int64 × Int64 × Int64 × Int64)) :=
  if 0 ≤ x3 then (
    some (.inr (v_a, v_b, v_c, v_d)))
  else (
    zl4 (f_Ro_multiplyByR v_a v_b v_c v_d) fun q_3 q_4 q_5 q_6 =>
    zlet (x3 + 1) fun y_7 =>
    some (.inl (y_7, q_3, q_4, q_5, q_6)))
def f_Ro_take_l83 (v_arg0 : Nat → Int32) (v_a : Int64) (v_b : Int64) (v_c : Int64) (v_d : Int64) (v_k : Int32) : Option ((Int64 × Int64 × Int64 × Int64 × Int32) ⊕ (Int64 × Int64 × Int64 × Int64 × Int32)) :=
  if v_k ≤ 0 then (
    some (.inr (v_a, v_b, v_c, v_d, v_k)))
  else (
    if (f_Ro_isMultipleOfR v_a v_b v_c v_d) = 0 then (
      some (.inr (v_a, v_b, v_c, v_d, v_k)))
    else (
      zl4 (f_Ro_multiplyByR v_a v_b v_c v_d) fun q_5 q_6 q_7 q_8 =>
      zl4 (f_Ro_halve q_5 q_6 q_7 q_8) fun q_10 q_11 q_12 q_13 =>
      zlet (v_k - (1 : Int32)) fun y_14 =>
      some (.inl (q_10, q_11, q_12, q_13, y_14))))
/-- PathSums$Root.take([II)V -/
def f_Ro_take (x2 : Int32) (v_a : Int64) (v_b : Int64) (v_c : Int64) (v_d : Int64) (v_k : Int32) (v_arg0 : Nat → Int32) : Option (Int64 × Int64 × Int64 × Int64 × Int32) :=
  zlet (((v_arg0 (0 : Int32).toNatClampNeg) - (v_arg0 (4 : Int32).toNatClampNeg)).toInt64) fun y_1 =>
  zlet (((v_arg0 (1 : Int32).toNatClampNeg) - (v_arg0 (5 : Int32).toNatClampNeg)).toInt64) fun y_2 =>
  zlet (((v_arg0 (2 : Int32).toNatClampNeg) - (v_arg0 (6 : Int32).toNatClampNeg)).toInt64) fun y_3 =>
  zlet (((v_arg0 (3 : Int32).toNatClampNeg) - (v_arg0 (7 : Int32).toNatClampNeg)).toInt64) fun y_4 =>
  zb4 (zloop (fun q => f_Ro_take_l60 x2 v_k v_arg0 q.1 q.2.1 q.2.2.1 q.2.2.2.1 q.2.2.2.2) zF (x2, y_1, y_2, y_3, y_4)) fun q_5 q_6 q_7 q_8 =>
  zlet (if x2 < (0 : Int32) then (0 : Int32) else x2) fun y_10 =>
  zb5 (zloop (fun q => f_Ro_take_l83 v_arg0 q.1 q.2.1 q.2.2.1 q.2.2.2.1 q.2.2.2.2) zF (q_5, q_6, q_7, q_8, y_10)) fun q_11 q_12 q_13 q_14 q_15 =>
  some (q_11, q_12, q_13, q_14, q_15)
/-- PathSums$Root.look(I)J -/
def f_Ro_look (x1 : Int32) (v_a : Int64) (v_b : Int64) (v_c : Int64) (v_d : Int64) (v_k : Int32) : Int64 :=
  if x1 = 0 then (
    v_a)
  else (
  if x1 = 1 then (
    v_b)
  else (
  if x1 = 2 then (
    v_c)
  else (
  if x1 = 3 then (
    v_d)
  else (
  v_k.toInt64))))
/-- PathSums.isWireCount(I)Z -/
def f_Ps_isWireCount (x0 : Int32) : Int32 :=
  if x0 < (1 : Int32) then (
    (0 : Int32))
  else (
    if (6 : Int32) < x0 then (
      (0 : Int32))
    else (
      (1 : Int32)))
/-- PathSums.isWire(I)Z -/
def f_Ps_isWire (x1 : Int32) (v_wireCount : Int32) : Int32 :=
  if x1 < 0 then (
    (0 : Int32))
  else (
    if v_wireCount ≤ x1 then (
      (0 : Int32))
    else (
      if (6 : Int32) ≤ x1 then (
        (0 : Int32))
      else (
        (1 : Int32))))
/-- PathSums.isChoice(I)Z -/
def f_Ps_isChoice (x1 : Int32) (v_wireCount : Int32) : Int32 :=
  if x1 < 0 then (
    (0 : Int32))
  else (
    if ((1 : Int32) <<< (v_wireCount &&& 31)) ≤ x1 then (
      (0 : Int32))
    else (
      (1 : Int32)))
/-- PathSums.startAnew(IZ)V -/
def f_Ps_startAnew (x1 : Int32) (x2 : Int32) (v_wireCount : Int32) (v_bitsCame : Int32) (v_bitsThere : Int32) (v_inputBits : Int32) (v_rootsBelow : Int32) (v_begunOpen : Int32) (v_empty : Int32) (v_values : Nat → Int32) (v_polynomial_monomials : Int32) (v_polynomial_numbers : Nat → Int32) (v_doneRules_count : Int32) : Option (Int32 × Int32 × Int32 × Int32 × Int32 × Int32 × Int32 × (Nat → Int32) × Int32 × (Nat → Int32) × Int32) :=
  zb1 (f_Jarr_fill 6 (0 : Int32) v_values) fun q_2 =>
  zb2 (f_Po_clear v_polynomial_monomials v_polynomial_numbers) fun q_4 q_5 =>
  if ¬ (x2 = 0 ∨ x2 = 1) then none else
  some (x1, (0 : Int32), (0 : Int32), (0 : Int32), (0 : Int32), x2, (0 : Int32), q_2, q_4, q_5, (0 : Int32))
def f_Ps_begin_l28 (x1 : Int32) (x2 : Int32) (v_wireCount : Int32) (v_bitsCame : Int32) (v_bitsThere : Int32) (v_inputBits : Int32) (v_rootsBelow : Int32) (v_begunOpen : Int32) (v_empty : Int32) (v_polynomial_monomials : Int32) (v_polynomial_numbers : Nat → Int32) (v_doneRules_count : Int32) (x3 : Int32) (v_values : Nat → Int32) : Option ((Int32 × (Nat → Int32)) ⊕ ((Nat → Int32))) :=
  if x1 ≤ x3 then (
    some (.inr (v_values)))
  else (
    if (f_Ps_has x2 x3) = 0 then (
      if x3 < 0 ∨ 6 ≤ x3.toNatClampNeg then none else
      zlet (upd v_values x3.toNatClampNeg (0 : Int32)) fun u_5 =>
      zlet (x3 + 1) fun y_6 =>
      some (.inl (y_6, u_5)))
    else (
      if x3 < 0 ∨ 6 ≤ x3.toNatClampNeg then none else
      zlet (upd v_values x3.toNatClampNeg (16777216 : Int32)) fun u_8 =>
      zlet (x3 + 1) fun y_9 =>
      some (.inl (y_9, u_8))))
/-- PathSums.begin(II)Z -/
def f_Ps_begin (x1 : Int32) (x2 : Int32) (v_wireCount : Int32) (v_bitsCame : Int32) (v_bitsThere : Int32) (v_inputBits : Int32) (v_rootsBelow : Int32) (v_begunOpen : Int32) (v_empty : Int32) (v_values : Nat → Int32) (v_polynomial_monomials : Int32) (v_polynomial_numbers : Nat → Int32) (v_doneRules_count : Int32) : Option (Int32 × Int32 × Int32 × Int32 × Int32 × Int32 × Int32 × Int32 × (Nat → Int32) × Int32 × (Nat → Int32) × Int32) :=
  if (f_Ps_isWireCount x1) = 0 then (
    some ((0 : Int32), v_wireCount, v_bitsCame, v_bitsThere, v_inputBits, v_rootsBelow, v_begunOpen, v_empty, v_values, v_polynomial_monomials, v_polynomial_numbers, v_doneRules_count))
  else (
    if x2 < 0 then (
      some ((0 : Int32), v_wireCount, v_bitsCame, v_bitsThere, v_inputBits, v_rootsBelow, v_begunOpen, v_empty, v_values, v_polynomial_monomials, v_polynomial_numbers, v_doneRules_count))
    else (
      if x2 < ((1 : Int32) <<< (x1 &&& 31)) then (
        zb11 (f_Ps_startAnew x1 (0 : Int32) v_wireCount v_bitsCame v_bitsThere v_inputBits v_rootsBelow v_begunOpen v_empty v_values v_polynomial_monomials v_polynomial_numbers v_doneRules_count) fun q_6 q_7 q_8 q_9 q_10 q_11 q_12 q_13 q_14 q_15 q_16 =>
        zb1 (zloop (fun q => f_Ps_begin_l28 x1 x2 q_6 q_7 q_8 q_9 q_10 q_11 q_12 q_14 q_15 q_16 q.1 q.2) zF ((0 : Int32), q_13)) fun q_17 =>
        some ((1 : Int32), q_6, q_7, q_8, q_9, q_10, q_11, q_12, q_17, q_14, q_15, q_16))
      else (
        some ((0 : Int32), v_wireCount, v_bitsCame, v_bitsThere, v_inputBits, v_rootsBelow, v_begunOpen, v_empty, v_values, v_polynomial_monomials, v_polynomial_numbers, v_doneRules_count))))
def f_Ps_open_l17 (x1 : Int32) (v_wireCount : Int32) (v_bitsCame : Int32) (v_bitsThere : Int32) (v_inputBits : Int32) (v_rootsBelow : Int32) (v_begunOpen : Int32) (v_empty : Int32) (v_polynomial_monomials : Int32) (v_polynomial_numbers : Nat → Int32) (v_doneRules_count : Int32) (x2 : Int32) (v_values : Nat → Int32) : Option ((Int32 × (Nat → Int32)) ⊕ ((Nat → Int32))) :=
  if x1 ≤ x2 then (
    some (.inr (v_values)))
  else (
    if x2 < 0 ∨ 6 ≤ x2.toNatClampNeg then none else
    zlet (upd v_values x2.toNatClampNeg ((1 : Int32) <<< (x2 &&& 31))) fun u_3 =>
    zlet (x2 + 1) fun y_4 =>
    some (.inl (y_4, u_3)))
/-- PathSums.open(I)Z -/
def f_Ps_open (x1 : Int32) (v_wireCount : Int32) (v_bitsCame : Int32) (v_bitsThere : Int32) (v_inputBits : Int32) (v_rootsBelow : Int32) (v_begunOpen : Int32) (v_empty : Int32) (v_values : Nat → Int32) (v_polynomial_monomials : Int32) (v_polynomial_numbers : Nat → Int32) (v_doneRules_count : Int32) : Option (Int32 × Int32 × Int32 × Int32 × Int32 × Int32 × Int32 × Int32 × (Nat → Int32) × Int32 × (Nat → Int32) × Int32) :=
  if (f_Ps_isWireCount x1) = 0 then (
    some ((0 : Int32), v_wireCount, v_bitsCame, v_bitsThere, v_inputBits, v_rootsBelow, v_begunOpen, v_empty, v_values, v_polynomial_monomials, v_polynomial_numbers, v_doneRules_count))
  else (
    zb11 (f_Ps_startAnew x1 (1 : Int32) v_wireCount v_bitsCame v_bitsThere v_inputBits v_rootsBelow v_begunOpen v_empty v_values v_polynomial_monomials v_polynomial_numbers v_doneRules_count) fun q_4 q_5 q_6 q_7 q_8 q_9 q_10 q_11 q_12 q_13 q_14 =>
    zb1 (zloop (fun q => f_Ps_open_l17 x1 q_4 q_5 q_6 q_7 q_8 q_9 q_10 q_12 q_13 q_14 q.1 q.2) zF ((0 : Int32), q_11)) fun q_15 =>
    zlet (((1 : Int32) <<< (x1 &&& 31)) - (1 : Int32)) fun y_17 =>
    some ((1 : Int32), q_4, x1, y_17, y_17, q_8, q_9, q_10, q_15, q_12, q_13, q_14))
def f_Ps_fits_j90 (x2 : Int32) (x3 : Int32) (t0 : Int32) (v_wireCount : Int32) (v_bitsCame : Int32) : Int32 :=
  if t0 = 0 then (
    if (f_Ps_isWire x3 v_wireCount) = 0 then (
      (0 : Int32))
    else (
      if x3 = x2 then (
        (0 : Int32))
      else (
        (1 : Int32))))
  else (
    (1 : Int32))
def f_Ps_fits_j89 (x2 : Int32) (x3 : Int32) (v_wireCount : Int32) (v_bitsCame : Int32) : Int32 :=
  f_Ps_fits_j90 x2 x3 (0 : Int32) v_wireCount v_bitsCame
def f_Ps_fits_j85 (x2 : Int32) (x3 : Int32) (v_wireCount : Int32) (v_bitsCame : Int32) : Int32 :=
  f_Ps_fits_j90 x2 x3 (1 : Int32) v_wireCount v_bitsCame
def f_Ps_fits_j70 (x1 : Int32) (x2 : Int32) (x3 : Int32) (v_wireCount : Int32) (v_bitsCame : Int32) : Int32 :=
  if x1 = 0 then (
    f_Ps_fits_j85 x2 x3 v_wireCount v_bitsCame)
  else (
    if x1 < (3 : Int32) then (
      f_Ps_fits_j89 x2 x3 v_wireCount v_bitsCame)
    else (
      if (7 : Int32) < x1 then (
        f_Ps_fits_j89 x2 x3 v_wireCount v_bitsCame)
      else (
        f_Ps_fits_j85 x2 x3 v_wireCount v_bitsCame)))
/-- PathSums.fits(IIII)Z -/
def f_Ps_fits (x1 : Int32) (x2 : Int32) (x3 : Int32) (x4 : Int32) (v_wireCount : Int32) (v_bitsCame : Int32) : Int32 :=
  if x1 < 0 then (
    (0 : Int32))
  else (
    if (12 : Int32) < x1 then (
      (0 : Int32))
    else (
      if (f_Ps_isWire x2 v_wireCount) = 0 then (
        (0 : Int32))
      else (
        if x1 < (10 : Int32) then (
          if x1 = (9 : Int32) then (
            if (f_Ps_isWire x4 v_wireCount) = 0 then (
              (0 : Int32))
            else (
              if x4 = x2 then (
                (0 : Int32))
              else (
                if x4 = x3 then (
                  (0 : Int32))
                else (
                  f_Ps_fits_j70 x1 x2 x3 v_wireCount v_bitsCame))))
          else (
            f_Ps_fits_j70 x1 x2 x3 v_wireCount v_bitsCame))
        else (
          if (24 : Int32) ≤ v_bitsCame then (
            (0 : Int32))
          else (
            (1 : Int32))))))
def f_Ps_bringBit_j58 (x1 : Int32) (x2 : Int32) (x3 : Int32) (v_bitsCame : Int32) (v_bitsThere : Int32) (v_rootsBelow : Int32) (v_values : Nat → Int32) (v_polynomial_monomials : Int32) (v_polynomial_numbers : Nat → Int32) : Option (Int32 × Int32 × Int32 × (Nat → Int32) × Int32 × (Nat → Int32)) :=
  if x1 = (10 : Int32) then (
    if x2 < 0 ∨ 6 ≤ x2.toNatClampNeg then none else
    zlet (upd v_values x2.toNatClampNeg x3) fun u_3 =>
    zlet (v_rootsBelow + (1 : Int32)) fun y_4 =>
    some (v_bitsCame, v_bitsThere, y_4, u_3, v_polynomial_monomials, v_polynomial_numbers))
  else (
    zlet (v_rootsBelow + (2 : Int32)) fun y_5 =>
    some (v_bitsCame, v_bitsThere, y_5, v_values, v_polynomial_monomials, v_polynomial_numbers))
/-- PathSums.bringBit(II)V -/
def f_Ps_bringBit (x1 : Int32) (x2 : Int32) (v_bitsCame : Int32) (v_bitsThere : Int32) (v_rootsBelow : Int32) (v_values : Nat → Int32) (v_polynomial_monomials : Int32) (v_polynomial_numbers : Nat → Int32) : Option (Int32 × Int32 × Int32 × (Nat → Int32) × Int32 × (Nat → Int32)) :=
  zlet ((1 : Int32) <<< (v_bitsCame &&& 31)) fun y_1 =>
  zlet (v_bitsCame + (1 : Int32)) fun y_2 =>
  zlet (v_bitsThere ||| y_1) fun y_3 =>
  if x2 < 0 ∨ 6 ≤ x2.toNatClampNeg then none else
  zb2 (f_Po_addFourTimes y_1 (v_values x2.toNatClampNeg) (16777216 : Int32) v_polynomial_monomials v_polynomial_numbers) fun q_6 q_7 =>
  if x1 = (12 : Int32) then (
    zb2 (f_Po_add y_1 (4 : Int32) q_6 q_7) fun q_10 q_11 =>
    f_Ps_bringBit_j58 x1 x2 y_1 y_2 y_3 v_rootsBelow v_values q_10 q_11)
  else (
    f_Ps_bringBit_j58 x1 x2 y_1 y_2 y_3 v_rootsBelow v_values q_6 q_7)
/-- PathSums.ruleFor(I)I -/
def f_Ps_ruleFor (x1 : Int32) (v_inputBits : Int32) (v_polynomial_numbers : Nat → Int32) : Option (Int32) :=
  zb1 (f_Po_numberOf ((1 : Int32) <<< (x1 &&& 31)) v_polynomial_numbers) fun r_2 =>
  if (f_Ps_has r_2 (0 : Int32)) = 0 then (
    zb1 (f_Po_partnersOf x1 v_polynomial_numbers) fun r_6 =>
    if r_6 = (-1 : Int32) then (
      some (-1 : Int32))
    else (
      if (f_Ps_has r_2 (1 : Int32)) = 0 then (
        if r_6 = 0 then (
          if r_2 = 0 then (
            some (1 : Int32))
          else (
            some (2 : Int32)))
        else (
          if (r_6 &&& (v_inputBits ^^^ (-1 : Int32))) = 0 then (
            some (-1 : Int32))
          else (
            some (3 : Int32))))
      else (
        some (4 : Int32))))
  else (
    some (-1 : Int32))
def f_Ps_leastBitWithRule_l14 (v_bitsThere : Int32) (v_inputBits : Int32) (v_values : Nat → Int32) (v_polynomial_numbers : Nat → Int32) (x1 : Int32) (x2 : Int32) : Option ((Int32 × Int32) ⊕ (Int32)) :=
  if (6 : Int32) ≤ x2 then (
    some (.inr (x1)))
  else (
    if x2 < 0 ∨ 6 ≤ x2.toNatClampNeg then none else
    zlet (x1 &&& ((v_values x2.toNatClampNeg) ^^^ (-1 : Int32))) fun y_3 =>
    zlet (x2 + 1) fun y_4 =>
    some (.inl (y_3, y_4)))
def f_Ps_leastBitWithRule_l39 (x1 : Int32) (v_bitsThere : Int32) (v_inputBits : Int32) (v_values : Nat → Int32) (v_polynomial_numbers : Nat → Int32) (x2 : Int32) : Option ((Int32) ⊕ ((Unit) ⊕ (Int32))) :=
  if (24 : Int32) ≤ x2 then (
    some (.inr (.inl ())))
  else (
    if (f_Ps_has x1 x2) = 0 then (
      zlet (x2 + 1) fun y_4 =>
      some (.inl (y_4)))
    else (
      zb1 (f_Ps_ruleFor x2 v_inputBits v_polynomial_numbers) fun r_6 =>
      if r_6 = (-1 : Int32) then (
        zlet (x2 + 1) fun y_8 =>
        some (.inl (y_8)))
      else (
        some (.inr (.inr x2)))))
/-- PathSums.leastBitWithRule()I -/
def f_Ps_leastBitWithRule (v_bitsThere : Int32) (v_inputBits : Int32) (v_values : Nat → Int32) (v_polynomial_numbers : Nat → Int32) : Option (Int32) :=
  zlet (v_bitsThere &&& (v_inputBits ^^^ (-1 : Int32))) fun y_1 =>
  zb1 (zloop (fun q => f_Ps_leastBitWithRule_l14 v_bitsThere v_inputBits v_values v_polynomial_numbers q.1 q.2) zF (y_1, (0 : Int32))) fun y_2 =>
  zr0 (zloop (fun q => f_Ps_leastBitWithRule_l39 y_2 v_bitsThere v_inputBits v_values v_polynomial_numbers q) zF ((0 : Int32))) <|
  some (-1 : Int32)
def f_Ps_greatestOf_l3 (x0 : Int32) (x1 : Int32) : Option ((Int32) ⊕ ((Unit) ⊕ (Int32))) :=
  if x1 < 0 then (
    some (.inr (.inl ())))
  else (
    if (f_Ps_has x0 x1) = 0 then (
      zlet (x1 + (-1)) fun y_4 =>
      some (.inl (y_4)))
    else (
      some (.inr (.inr x1))))
/-- PathSums.greatestOf(I)I -/
def f_Ps_greatestOf (x0 : Int32) : Option (Int32) :=
  zr0 (zloop (fun q => f_Ps_greatestOf_l3 x0 q) zF ((23 : Int32))) <|
  some (-1 : Int32)
def f_Ps_becomeEmpty_l2 (v_bitsThere : Int32) (v_inputBits : Int32) (v_rootsBelow : Int32) (v_empty : Int32) (v_polynomial_monomials : Int32) (v_polynomial_numbers : Nat → Int32) (x1 : Int32) (v_values : Nat → Int32) : Option ((Int32 × (Nat → Int32)) ⊕ ((Nat → Int32))) :=
  if (6 : Int32) ≤ x1 then (
    some (.inr (v_values)))
  else (
    if x1 < 0 ∨ 6 ≤ x1.toNatClampNeg then none else
    if x1 < 0 ∨ 6 ≤ x1.toNatClampNeg then none else
    zlet (upd v_values x1.toNatClampNeg ((v_values x1.toNatClampNeg) &&& (v_inputBits ||| (16777216 : Int32)))) fun u_4 =>
    zlet (x1 + 1) fun y_5 =>
    some (.inl (y_5, u_4)))
/-- PathSums.becomeEmpty()V -/
def f_Ps_becomeEmpty (v_bitsThere : Int32) (v_inputBits : Int32) (v_rootsBelow : Int32) (v_empty : Int32) (v_values : Nat → Int32) (v_polynomial_monomials : Int32) (v_polynomial_numbers : Nat → Int32) : Option (Int32 × Int32 × Int32 × (Nat → Int32) × Int32 × (Nat → Int32)) :=
  zb1 (zloop (fun q => f_Ps_becomeEmpty_l2 v_bitsThere v_inputBits v_rootsBelow v_empty v_polynomial_monomials v_polynomial_numbers q.1 q.2) zF ((0 : Int32), v_values)) fun q_1 =>
  zb2 (f_Po_clear v_polynomial_monomials v_polynomial_numbers) fun q_4 q_5 =>
  some (v_inputBits, (0 : Int32), (1 : Int32), q_1, q_4, q_5)
def f_Ps_replaceInValues_l2 (x1 : Int32) (x2 : Int32) (x3 : Int32) (v_values : Nat → Int32) : Option ((Int32 × (Nat → Int32)) ⊕ ((Nat → Int32))) :=
  if (6 : Int32) ≤ x3 then (
    some (.inr (v_values)))
  else (
    if x3 < 0 ∨ 6 ≤ x3.toNatClampNeg then none else
    if (f_Ps_has (v_values x3.toNatClampNeg) x1) = 0 then (
      zlet (x3 + 1) fun y_5 =>
      some (.inl (y_5, v_values)))
    else (
      if x3 < 0 ∨ 6 ≤ x3.toNatClampNeg then none else
      if x3 < 0 ∨ 6 ≤ x3.toNatClampNeg then none else
      zlet (upd v_values x3.toNatClampNeg ((v_values x3.toNatClampNeg) ^^^ (((1 : Int32) <<< (x1 &&& 31)) ^^^ x2))) fun u_8 =>
      zlet (x3 + 1) fun y_9 =>
      some (.inl (y_9, u_8))))
/-- PathSums.replaceInValues(II)V -/
def f_Ps_replaceInValues (x1 : Int32) (x2 : Int32) (v_values : Nat → Int32) : Option ((Nat → Int32)) :=
  zb1 (zloop (fun q => f_Ps_replaceInValues_l2 x1 x2 q.1 q.2) zF ((0 : Int32), v_values)) fun q_1 =>
  some q_1
def f_Ps_doRule_j193 (x3 : Int32) (x4 : Int32) (t1 : Int32) (t2 : Int32) (v_bitsThere : Int32) (v_inputBits : Int32) (v_rootsBelow : Int32) (v_empty : Int32) (v_polynomial_monomials : Int32) (v_polynomial_numbers : Nat → Int32) (v_doneRules_count : Int32) (v_doneRules_kinds : Nat → Int32) (v_doneRules_ys : Nat → Int32) (v_doneRules_zs : Nat → Int32) (v_values : Nat → Int32) : Option (Int32 × Int32 × Int32 × Int32 × (Nat → Int32) × Int32 × (Nat → Int32) × (Nat → Int32) × (Nat → Int32) × (Nat → Int32)) :=
  zb2 (f_Po_add t1 t2 v_polynomial_monomials v_polynomial_numbers) fun q_2 q_3 =>
  if x3 = (2 : Int32) then (
    zb2 (f_Po_addXor (6 : Int32) x4 (0 : Int32) q_2 q_3) fun q_6 q_7 =>
    some (v_bitsThere, v_rootsBelow, v_empty, q_6, q_7, v_doneRules_count, v_doneRules_kinds, v_doneRules_ys, v_doneRules_zs, v_values))
  else (
    zb2 (f_Po_addXor (2 : Int32) x4 (0 : Int32) q_2 q_3) fun q_9 q_10 =>
    some (v_bitsThere, v_rootsBelow, v_empty, q_9, q_10, v_doneRules_count, v_doneRules_kinds, v_doneRules_ys, v_doneRules_zs, v_values))
def f_Ps_doRule_j132 (x5 : Int32) (t0 : Int32) (t1 : Int32) (v_bitsThere : Int32) (v_inputBits : Int32) (v_rootsBelow : Int32) (v_empty : Int32) (v_polynomial_monomials : Int32) (v_polynomial_numbers : Nat → Int32) (v_doneRules_count : Int32) (v_doneRules_kinds : Nat → Int32) (v_doneRules_ys : Nat → Int32) (v_doneRules_zs : Nat → Int32) (v_values : Nat → Int32) : Option (Int32 × Int32 × Int32 × Int32 × (Nat → Int32) × Int32 × (Nat → Int32) × (Nat → Int32) × (Nat → Int32) × (Nat → Int32)) :=
  zlet (t0 ||| t1) fun y_1 =>
  zb2 (f_Po_replaceBit x5 y_1 v_polynomial_monomials v_polynomial_numbers) fun q_3 q_4 =>
  zb1 (f_Ps_replaceInValues x5 y_1 v_values) fun q_6 =>
  zlet (v_bitsThere &&& (((1 : Int32) <<< (x5 &&& 31)) ^^^ (-1 : Int32))) fun y_7 =>
  some (y_7, v_rootsBelow, v_empty, q_3, q_4, v_doneRules_count, v_doneRules_kinds, v_doneRules_ys, v_doneRules_zs, q_6)
def f_Ps_doRule_j103 (x1 : Int32) (x3 : Int32) (x4 : Int32) (x5 : Int32) (t1 : Int32) (t2 : Int32) (v_bitsThere : Int32) (v_inputBits : Int32) (v_rootsBelow : Int32) (v_empty : Int32) (v_polynomial_monomials : Int32) (v_polynomial_numbers : Nat → Int32) (v_doneRules_count : Int32) (v_doneRules_kinds : Nat → Int32) (v_doneRules_ys : Nat → Int32) (v_doneRules_zs : Nat → Int32) (v_values : Nat → Int32) : Option (Int32 × Int32 × Int32 × Int32 × (Nat → Int32) × Int32 × (Nat → Int32) × (Nat → Int32) × (Nat → Int32) × (Nat → Int32)) :=
  zlet (t1 - t2) fun y_1 =>
  if x1 = (3 : Int32) then (
    if x3 = (4 : Int32) then (
      f_Ps_doRule_j132 x5 (x4 &&& (((1 : Int32) <<< (x5 &&& 31)) ^^^ (-1 : Int32))) (16777216 : Int32) v_bitsThere v_inputBits y_1 v_empty v_polynomial_monomials v_polynomial_numbers v_doneRules_count v_doneRules_kinds v_doneRules_ys v_doneRules_zs v_values)
    else (
      f_Ps_doRule_j132 x5 (x4 &&& (((1 : Int32) <<< (x5 &&& 31)) ^^^ (-1 : Int32))) (0 : Int32) v_bitsThere v_inputBits y_1 v_empty v_polynomial_monomials v_polynomial_numbers v_doneRules_count v_doneRules_kinds v_doneRules_ys v_doneRules_zs v_values))
  else (
    if x1 = (4 : Int32) then (
      if x3 = (2 : Int32) then (
        f_Ps_doRule_j193 x3 x4 (0 : Int32) (1 : Int32) v_bitsThere v_inputBits y_1 v_empty v_polynomial_monomials v_polynomial_numbers v_doneRules_count v_doneRules_kinds v_doneRules_ys v_doneRules_zs v_values)
      else (
        f_Ps_doRule_j193 x3 x4 (0 : Int32) (7 : Int32) v_bitsThere v_inputBits y_1 v_empty v_polynomial_monomials v_polynomial_numbers v_doneRules_count v_doneRules_kinds v_doneRules_ys v_doneRules_zs v_values))
    else (
      some (v_bitsThere, y_1, v_empty, v_polynomial_monomials, v_polynomial_numbers, v_doneRules_count, v_doneRules_kinds, v_doneRules_ys, v_doneRules_zs, v_values)))
def f_Ps_doRule_j42 (x1 : Int32) (x2 : Int32) (x3 : Int32) (x4 : Int32) (t0 : Int32) (v_bitsThere : Int32) (v_inputBits : Int32) (v_rootsBelow : Int32) (v_empty : Int32) (v_polynomial_monomials : Int32) (v_polynomial_numbers : Nat → Int32) (v_doneRules_count : Int32) (v_doneRules_kinds : Nat → Int32) (v_doneRules_ys : Nat → Int32) (v_doneRules_zs : Nat → Int32) (v_values : Nat → Int32) : Option (Int32 × Int32 × Int32 × Int32 × (Nat → Int32) × Int32 × (Nat → Int32) × (Nat → Int32) × (Nat → Int32) × (Nat → Int32)) :=
  zb4 (f_Dr_keep x1 x2 t0 v_doneRules_count v_doneRules_kinds v_doneRules_ys v_doneRules_zs) fun q_2 q_3 q_4 q_5 =>
  if x1 = (2 : Int32) then (
    zb6 (f_Ps_becomeEmpty v_bitsThere v_inputBits v_rootsBelow v_empty v_values v_polynomial_monomials v_polynomial_numbers) fun q_8 q_9 q_10 q_11 q_12 q_13 =>
    some (q_8, q_9, q_10, q_12, q_13, q_2, q_3, q_4, q_5, q_11))
  else (
    zb2 (f_Po_replaceBit x2 (0 : Int32) v_polynomial_monomials v_polynomial_numbers) fun q_15 q_16 =>
    zlet (v_bitsThere &&& (((1 : Int32) <<< (x2 &&& 31)) ^^^ (-1 : Int32))) fun y_17 =>
    if x1 = (4 : Int32) then (
      f_Ps_doRule_j103 x1 x3 x4 t0 v_rootsBelow (1 : Int32) y_17 v_inputBits v_rootsBelow v_empty q_15 q_16 q_2 q_3 q_4 q_5 v_values)
    else (
      f_Ps_doRule_j103 x1 x3 x4 t0 v_rootsBelow (2 : Int32) y_17 v_inputBits v_rootsBelow v_empty q_15 q_16 q_2 q_3 q_4 q_5 v_values))
/-- PathSums.doRule(II)V -/
def f_Ps_doRule (x1 : Int32) (x2 : Int32) (v_bitsThere : Int32) (v_inputBits : Int32) (v_rootsBelow : Int32) (v_empty : Int32) (v_polynomial_monomials : Int32) (v_polynomial_numbers : Nat → Int32) (v_doneRules_count : Int32) (v_doneRules_kinds : Nat → Int32) (v_doneRules_ys : Nat → Int32) (v_doneRules_zs : Nat → Int32) (v_values : Nat → Int32) : Option (Int32 × Int32 × Int32 × Int32 × (Nat → Int32) × Int32 × (Nat → Int32) × (Nat → Int32) × (Nat → Int32) × (Nat → Int32)) :=
  zb1 (f_Po_numberOf ((1 : Int32) <<< (x2 &&& 31)) v_polynomial_numbers) fun r_2 =>
  zb1 (f_Po_partnersOf x2 v_polynomial_numbers) fun r_4 =>
  if x1 = (3 : Int32) then (
    zb1 (f_Ps_greatestOf (r_4 &&& (v_inputBits ^^^ (-1 : Int32)))) fun r_7 =>
    f_Ps_doRule_j42 x1 x2 r_2 r_4 r_7 v_bitsThere v_inputBits v_rootsBelow v_empty v_polynomial_monomials v_polynomial_numbers v_doneRules_count v_doneRules_kinds v_doneRules_ys v_doneRules_zs v_values)
  else (
    f_Ps_doRule_j42 x1 x2 r_2 r_4 (-1 : Int32) v_bitsThere v_inputBits v_rootsBelow v_empty v_polynomial_monomials v_polynomial_numbers v_doneRules_count v_doneRules_kinds v_doneRules_ys v_doneRules_zs v_values)
def f_Ps_findAmplitude_l6 (x1 : Int32) (x2 : Int32) (x3 : Int32) (v_wireCount : Int32) (v_rootsBelow : Int32) (v_values : Nat → Int32) (v_ways_chosen : Int32) (v_ways_wayOf : Nat → Int32) (v_ways_wiresOf : Nat → Int32) (v_ways_phases : Nat → Int32) (v_polynomial_numbers : Nat → Int32) (v_ways_tallies : Nat → Int32) (v_root_a : Int64) (v_root_b : Int64) (v_root_c : Int64) (v_root_d : Int64) (v_root_k : Int32) (x4 : Int32) (x5 : Int32) : Option ((Int32 × Int32) ⊕ (Int32)) :=
  if v_wireCount ≤ x5 then (
    some (.inr (x4)))
  else (
    if (6 : Int32) ≤ x5 then (
      some (.inr (x4)))
    else (
      if x5 < 0 ∨ 6 ≤ x5.toNatClampNeg then none else
      zlet (x4 ||| (((f_Jint_bitCount ((v_values x5.toNatClampNeg) &&& (x2 ||| (16777216 : Int32)))) &&& (1 : Int32)) <<< (x5 &&& 31))) fun y_5 =>
      zlet (x5 + 1) fun y_6 =>
      some (.inl (y_5, y_6))))
/-- PathSums.findAmplitude(III)V -/
def f_Ps_findAmplitude (x1 : Int32) (x2 : Int32) (x3 : Int32) (v_wireCount : Int32) (v_rootsBelow : Int32) (v_values : Nat → Int32) (v_ways_chosen : Int32) (v_ways_wayOf : Nat → Int32) (v_ways_wiresOf : Nat → Int32) (v_ways_phases : Nat → Int32) (v_polynomial_numbers : Nat → Int32) (v_ways_tallies : Nat → Int32) (v_root_a : Int64) (v_root_b : Int64) (v_root_c : Int64) (v_root_d : Int64) (v_root_k : Int32) : Option (Int32 × (Nat → Int32) × (Nat → Int32) × (Nat → Int32) × (Nat → Int32) × Int64 × Int64 × Int64 × Int64 × Int32) :=
  zb1 (zloop (fun q => f_Ps_findAmplitude_l6 x1 x2 x3 v_wireCount v_rootsBelow v_values v_ways_chosen v_ways_wayOf v_ways_wiresOf v_ways_phases v_polynomial_numbers v_ways_tallies v_root_a v_root_b v_root_c v_root_d v_root_k q.1 q.2) zF ((0 : Int32), (0 : Int32))) fun y_1 =>
  zb3 (f_Wa_choose x1 v_ways_chosen v_ways_wayOf v_values v_ways_wiresOf) fun q_4 q_5 q_6 =>
  zb1 (f_Wa_findPhases (x1 ||| x2) q_4 v_ways_phases v_polynomial_numbers q_5) fun q_8 =>
  zb1 (f_Wa_tally y_1 x3 q_4 v_ways_tallies q_6 q_8) fun q_10 =>
  zb5 (f_Ro_take v_rootsBelow v_root_a v_root_b v_root_c v_root_d v_root_k q_10) fun q_12 q_13 q_14 q_15 q_16 =>
  some (q_4, q_5, q_6, q_8, q_10, q_12, q_13, q_14, q_15, q_16)
/-- PathSums.gate(IIII)Z -/
def f_Ps_gate (x1 : Int32) (x2 : Int32) (x3 : Int32) (x4 : Int32) (v_wireCount : Int32) (v_bitsCame : Int32) (v_bitsThere : Int32) (v_rootsBelow : Int32) (v_empty : Int32) (v_values : Nat → Int32) (v_polynomial_monomials : Int32) (v_polynomial_numbers : Nat → Int32) : Option (Int32 × Int32 × Int32 × Int32 × (Nat → Int32) × Int32 × (Nat → Int32)) :=
  if v_empty = 0 then (
    if (f_Ps_fits x1 x2 x3 x4 v_wireCount v_bitsCame) = 0 then (
      some ((0 : Int32), v_bitsCame, v_bitsThere, v_rootsBelow, v_values, v_polynomial_monomials, v_polynomial_numbers))
    else (
      if x1 = 0 then (
        if x2 < 0 ∨ 6 ≤ x2.toNatClampNeg then none else
        if x2 < 0 ∨ 6 ≤ x2.toNatClampNeg then none else
        zlet (upd v_values x2.toNatClampNeg ((v_values x2.toNatClampNeg) ^^^ (16777216 : Int32))) fun u_7 =>
        some ((1 : Int32), v_bitsCame, v_bitsThere, v_rootsBelow, u_7, v_polynomial_monomials, v_polynomial_numbers))
      else (
        if x1 = (1 : Int32) then (
          if x2 < 0 ∨ 6 ≤ x2.toNatClampNeg then none else
          if x3 < 0 ∨ 6 ≤ x3.toNatClampNeg then none else
          if x2 < 0 ∨ 6 ≤ x2.toNatClampNeg then none else
          zlet (upd v_values x2.toNatClampNeg ((v_values x2.toNatClampNeg) ^^^ (v_values x3.toNatClampNeg))) fun u_12 =>
          some ((1 : Int32), v_bitsCame, v_bitsThere, v_rootsBelow, u_12, v_polynomial_monomials, v_polynomial_numbers))
        else (
          if x1 = (2 : Int32) then (
            if x2 < 0 ∨ 6 ≤ x2.toNatClampNeg then none else
            zlet (v_values x2.toNatClampNeg) fun y_15 =>
            if x3 < 0 ∨ 6 ≤ x3.toNatClampNeg then none else
            if x2 < 0 ∨ 6 ≤ x2.toNatClampNeg then none else
            zlet (upd v_values x2.toNatClampNeg (v_values x3.toNatClampNeg)) fun u_18 =>
            if x3 < 0 ∨ 6 ≤ x3.toNatClampNeg then none else
            zlet (upd u_18 x3.toNatClampNeg y_15) fun u_20 =>
            some ((1 : Int32), v_bitsCame, v_bitsThere, v_rootsBelow, u_20, v_polynomial_monomials, v_polynomial_numbers))
          else (
            if (7 : Int32) < x1 then (
              if x1 = (8 : Int32) then (
                if x2 < 0 ∨ 6 ≤ x2.toNatClampNeg then none else
                if x3 < 0 ∨ 6 ≤ x3.toNatClampNeg then none else
                zb2 (f_Po_addFourTimes (v_values x2.toNatClampNeg) (v_values x3.toNatClampNeg) (16777216 : Int32) v_polynomial_monomials v_polynomial_numbers) fun q_26 q_27 =>
                some ((1 : Int32), v_bitsCame, v_bitsThere, v_rootsBelow, v_values, q_26, q_27))
              else (
                if x1 = (9 : Int32) then (
                  if x2 < 0 ∨ 6 ≤ x2.toNatClampNeg then none else
                  if x3 < 0 ∨ 6 ≤ x3.toNatClampNeg then none else
                  if x4 < 0 ∨ 6 ≤ x4.toNatClampNeg then none else
                  zb2 (f_Po_addFourTimes (v_values x2.toNatClampNeg) (v_values x3.toNatClampNeg) (v_values x4.toNatClampNeg) v_polynomial_monomials v_polynomial_numbers) fun q_33 q_34 =>
                  some ((1 : Int32), v_bitsCame, v_bitsThere, v_rootsBelow, v_values, q_33, q_34))
                else (
                  zb6 (f_Ps_bringBit x1 x2 v_bitsCame v_bitsThere v_rootsBelow v_values v_polynomial_monomials v_polynomial_numbers) fun q_36 q_37 q_38 q_39 q_40 q_41 =>
                  some ((1 : Int32), q_36, q_37, q_38, q_39, q_40, q_41))))
            else (
              if (x1 - (3 : Int32)) < 0 ∨ 5 ≤ (x1 - (3 : Int32)).toNatClampNeg then none else
              if x2 < 0 ∨ 6 ≤ x2.toNatClampNeg then none else
              zb2 (f_Po_addXor (tb_TURNS (x1 - (3 : Int32)).toNatClampNeg) (v_values x2.toNatClampNeg) (0 : Int32) v_polynomial_monomials v_polynomial_numbers) fun q_45 q_46 =>
              some ((1 : Int32), v_bitsCame, v_bitsThere, v_rootsBelow, v_values, q_45, q_46)))))))
  else (
    some ((0 : Int32), v_bitsCame, v_bitsThere, v_rootsBelow, v_values, v_polynomial_monomials, v_polynomial_numbers))
def f_Ps_reduce_l7 (v_inputBits : Int32) (x1 : Int32) (x2 : Int32) (v_bitsThere : Int32) (v_rootsBelow : Int32) (v_empty : Int32) (v_values : Nat → Int32) (v_polynomial_monomials : Int32) (v_polynomial_numbers : Nat → Int32) (v_doneRules_count : Int32) (v_doneRules_kinds : Nat → Int32) (v_doneRules_ys : Nat → Int32) (v_doneRules_zs : Nat → Int32) : Option ((Int32 × Int32 × Int32 × Int32 × Int32 × (Nat → Int32) × Int32 × (Nat → Int32) × Int32 × (Nat → Int32) × (Nat → Int32) × (Nat → Int32)) ⊕ (Int32 × Int32 × Int32 × Int32 × (Nat → Int32) × Int32 × (Nat → Int32) × Int32 × (Nat → Int32) × (Nat → Int32) × (Nat → Int32))) :=
  if x2 = (-1 : Int32) then (
    some (.inr (x1, v_bitsThere, v_rootsBelow, v_empty, v_values, v_polynomial_monomials, v_polynomial_numbers, v_doneRules_count, v_doneRules_kinds, v_doneRules_ys, v_doneRules_zs)))
  else (
    if (24 : Int32) ≤ x1 then (
      some (.inr (x1, v_bitsThere, v_rootsBelow, v_empty, v_values, v_polynomial_monomials, v_polynomial_numbers, v_doneRules_count, v_doneRules_kinds, v_doneRules_ys, v_doneRules_zs)))
    else (
      zb1 (f_Ps_ruleFor x2 v_inputBits v_polynomial_numbers) fun r_4 =>
      zb10 (f_Ps_doRule r_4 x2 v_bitsThere v_inputBits v_rootsBelow v_empty v_polynomial_monomials v_polynomial_numbers v_doneRules_count v_doneRules_kinds v_doneRules_ys v_doneRules_zs v_values) fun q_6 q_7 q_8 q_9 q_10 q_11 q_12 q_13 q_14 q_15 =>
      zlet (x1 + 1) fun y_16 =>
      zb1 (f_Ps_leastBitWithRule q_6 v_inputBits q_15 q_10) fun r_18 =>
      some (.inl (y_16, r_18, q_6, q_7, q_8, q_15, q_9, q_10, q_11, q_12, q_13, q_14))))
/-- PathSums.reduce()I -/
def f_Ps_reduce (v_bitsThere : Int32) (v_inputBits : Int32) (v_rootsBelow : Int32) (v_empty : Int32) (v_values : Nat → Int32) (v_polynomial_monomials : Int32) (v_polynomial_numbers : Nat → Int32) (v_doneRules_count : Int32) (v_doneRules_kinds : Nat → Int32) (v_doneRules_ys : Nat → Int32) (v_doneRules_zs : Nat → Int32) : Option (Int32 × Int32 × Int32 × Int32 × (Nat → Int32) × Int32 × (Nat → Int32) × Int32 × (Nat → Int32) × (Nat → Int32) × (Nat → Int32)) :=
  zb1 (f_Ps_leastBitWithRule v_bitsThere v_inputBits v_values v_polynomial_numbers) fun r_2 =>
  zb11 (zloop (fun q => f_Ps_reduce_l7 v_inputBits q.1 q.2.1 q.2.2.1 q.2.2.2.1 q.2.2.2.2.1 q.2.2.2.2.2.1 q.2.2.2.2.2.2.1 q.2.2.2.2.2.2.2.1 q.2.2.2.2.2.2.2.2.1 q.2.2.2.2.2.2.2.2.2.1 q.2.2.2.2.2.2.2.2.2.2.1 q.2.2.2.2.2.2.2.2.2.2.2) zF ((0 : Int32), r_2, v_bitsThere, v_rootsBelow, v_empty, v_values, v_polynomial_monomials, v_polynomial_numbers, v_doneRules_count, v_doneRules_kinds, v_doneRules_ys, v_doneRules_zs)) fun y_3 q_4 q_5 q_6 q_7 q_8 q_9 q_10 q_11 q_12 q_13 =>
  some (y_3, q_4, q_5, q_6, q_7, q_8, q_9, q_10, q_11, q_12, q_13)
/-- PathSums.rule(II)I -/
def f_Ps_rule (x1 : Int32) (x2 : Int32) (v_doneRules_count : Int32) (v_doneRules_kinds : Nat → Int32) (v_doneRules_ys : Nat → Int32) (v_doneRules_zs : Nat → Int32) : Option (Int32) :=
  zb1 (f_Dr_look x1 x2 v_doneRules_count v_doneRules_kinds v_doneRules_ys v_doneRules_zs) fun r_2 =>
  some r_2
/-- PathSums.term(I)I -/
def f_Ps_term (x1 : Int32) (v_bitsCame : Int32) (v_polynomial_numbers : Nat → Int32) : Option (Int32) :=
  if (zushr x1 v_bitsCame) = 0 then (
    if (f_Jint_bitCount x1) ≤ (3 : Int32) then (
      zb1 (f_Po_numberOf x1 v_polynomial_numbers) fun r_5 =>
      some r_5)
    else (
      some (-1 : Int32)))
  else (
    some (-1 : Int32))
/-- PathSums.wire(II)I -/
def f_Ps_wire (x1 : Int32) (x2 : Int32) (v_wireCount : Int32) (v_values : Nat → Int32) : Option (Int32) :=
  if (f_Ps_isWire x1 v_wireCount) = 0 then (
    some (-1 : Int32))
  else (
    if x2 = 0 then (
      if x1 < 0 ∨ 6 ≤ x1.toNatClampNeg then none else
      some ((v_values x1.toNatClampNeg) &&& (16777215 : Int32)))
    else (
    if x2 = 1 then (
      if x1 < 0 ∨ 6 ≤ x1.toNatClampNeg then none else
      if (f_Ps_has (v_values x1.toNatClampNeg) (24 : Int32)) = 0 then (
        some (0 : Int32))
      else (
        some (1 : Int32)))
    else (
    some (-1 : Int32))))
/-- PathSums.total(I)I -/
def f_Ps_total (x1 : Int32) (v_wireCount : Int32) (v_bitsCame : Int32) (v_bitsThere : Int32) (v_begunOpen : Int32) (v_empty : Int32) (v_polynomial_monomials : Int32) (v_doneRules_count : Int32) : Int32 :=
  if x1 = 0 then (
    v_wireCount)
  else (
  if x1 = 1 then (
    v_bitsThere)
  else (
  if x1 = 2 then (
    v_bitsCame)
  else (
  if x1 = 3 then (
    v_polynomial_monomials)
  else (
  if x1 = 4 then (
    v_doneRules_count)
  else (
  if x1 = 5 then (
    if v_empty = 0 then (
      (0 : Int32))
    else (
      (1 : Int32)))
  else (
  if x1 = 6 then (
    if v_begunOpen = 0 then (
      (0 : Int32))
    else (
      (1 : Int32)))
  else (
  (-1 : Int32))))))))
/-- PathSums.halves()I -/
def f_Ps_halves (v_rootsBelow : Int32) : Int32 :=
  v_rootsBelow
/-- PathSumsModel.thrown()I -/
def f_Md_thrown (v_thrown : Int32) : Int32 :=
  v_thrown
def f_Md_count_l4 (x0 : Int32) (x1 : Int32) (x2 : Int32) : Option ((Int32 × Int32) ⊕ (Int32)) :=
  if (24 : Int32) ≤ x2 then (
    some (.inr (x1)))
  else (
    zlet (x1 + ((x0 >>> (x2 &&& 31)) &&& (1 : Int32))) fun y_2 =>
    zlet (x2 + 1) fun y_3 =>
    some (.inl (y_2, y_3)))
/-- PathSumsModel.count(I)I -/
def f_Md_count (x0 : Int32) : Option (Int32) :=
  zb1 (zloop (fun q => f_Md_count_l4 x0 q.1 q.2) zF ((0 : Int32), (0 : Int32))) fun y_1 =>
  some y_1
def f_Md_placeOf_l6 (x0 : Int32) (x1 : Int32) (x2 : Int32) (x3 : Int32) : Option ((Int32 × Int32 × Int32) ⊕ (Int32 × Int32)) :=
  if (24 : Int32) ≤ x3 then (
    some (.inr (x1, x2)))
  else (
    if ((x0 >>> (x3 &&& 31)) &&& (1 : Int32)) = 0 then (
      zlet (x3 + 1) fun y_3 =>
      some (.inl (x1, x2, y_3)))
    else (
      zlet (((25 : Int32) * x1) + x3) fun y_4 =>
      zlet (x2 + 1) fun y_5 =>
      zlet (x3 + 1) fun y_6 =>
      some (.inl (y_4, y_5, y_6))))
def f_Md_placeOf_l41 (x1 : Int32) (x3 : Int32) : Option ((Int32 × Int32) ⊕ (Int32)) :=
  if (3 : Int32) ≤ x3 then (
    some (.inr (x1)))
  else (
    zlet (((25 : Int32) * x1) + (24 : Int32)) fun y_2 =>
    zlet (x3 + 1) fun y_3 =>
    some (.inl (y_2, y_3)))
/-- PathSumsModel.placeOf(I)I -/
def f_Md_placeOf (x0 : Int32) : Option (Int32) :=
  zb2 (zloop (fun q => f_Md_placeOf_l6 x0 q.1 q.2.1 q.2.2) zF ((0 : Int32), (0 : Int32), (0 : Int32))) fun y_1 y_2 =>
  zb1 (zloop (fun q => f_Md_placeOf_l41 q.1 q.2) zF (y_1, y_2)) fun y_4 =>
  some y_4
/-- PathSumsModel.numberOf(I)I -/
def f_Md_numberOf (x1 : Int32) (v_number : Nat → Int32) : Option (Int32) :=
  zb1 (f_Md_placeOf x1) fun r_2 =>
  if r_2 < 0 ∨ 15625 ≤ r_2.toNatClampNeg then none else
  some (v_number r_2.toNatClampNeg)
/-- PathSumsModel.add(II)V -/
def f_Md_add (x1 : Int32) (x2 : Int32) (v_number : Nat → Int32) : Option ((Nat → Int32)) :=
  zb1 (f_Md_count x1) fun r_2 =>
  if r_2 ≤ (3 : Int32) then (
    zb1 (f_Md_placeOf x1) fun r_5 =>
    if r_5 < 0 ∨ 15625 ≤ r_5.toNatClampNeg then none else
    if r_5 < 0 ∨ 15625 ≤ r_5.toNatClampNeg then none else
    zlet (upd v_number r_5.toNatClampNeg (((v_number r_5.toNatClampNeg) + x2) &&& (7 : Int32))) fun u_8 =>
    some u_8)
  else (
    some v_number)
def f_Md_addOr_l106 (x1 : Int32) (x4 : Int32) (x5 : Int32) (x6 : Int32) (x7 : Int32) (x8 : Int32) (v_number : Nat → Int32) : Option ((Int32 × (Nat → Int32)) ⊕ ((Nat → Int32))) :=
  if x7 ≤ x8 then (
    some (.inr (v_number)))
  else (
    if ((x1 >>> (x8 &&& 31)) &&& (1 : Int32)) = (1 : Int32) then (
      zb1 (f_Md_add (((x4 ||| ((1 : Int32) <<< (x6 &&& 31))) ||| ((1 : Int32) <<< (x7 &&& 31))) ||| ((1 : Int32) <<< (x8 &&& 31))) ((4 : Int32) * x5) v_number) fun q_4 =>
      zlet (x8 + 1) fun y_5 =>
      some (.inl (y_5, q_4)))
    else (
      zlet (x8 + 1) fun y_6 =>
      some (.inl (y_6, v_number))))
def f_Md_addOr_l63 (x1 : Int32) (x4 : Int32) (x5 : Int32) (x6 : Int32) (x7 : Int32) (v_number : Nat → Int32) : Option ((Int32 × (Nat → Int32)) ⊕ ((Nat → Int32))) :=
  if x6 ≤ x7 then (
    some (.inr (v_number)))
  else (
    if ((x1 >>> (x7 &&& 31)) &&& (1 : Int32)) = 0 then (
      zlet (x7 + 1) fun y_3 =>
      some (.inl (y_3, v_number)))
    else (
      zb1 (f_Md_add ((x4 ||| ((1 : Int32) <<< (x6 &&& 31))) ||| ((1 : Int32) <<< (x7 &&& 31))) ((-2 : Int32) * x5) v_number) fun q_5 =>
      zb1 (zloop (fun q => f_Md_addOr_l106 x1 x4 x5 x6 x7 q.1 q.2) zF ((0 : Int32), q_5)) fun q_6 =>
      zlet (x7 + 1) fun y_8 =>
      some (.inl (y_8, q_6))))
def f_Md_addOr_l28 (x1 : Int32) (x4 : Int32) (x5 : Int32) (x6 : Int32) (v_number : Nat → Int32) : Option ((Int32 × (Nat → Int32)) ⊕ ((Nat → Int32))) :=
  if (24 : Int32) ≤ x6 then (
    some (.inr (v_number)))
  else (
    if ((x1 >>> (x6 &&& 31)) &&& (1 : Int32)) = 0 then (
      zlet (x6 + 1) fun y_3 =>
      some (.inl (y_3, v_number)))
    else (
      zb1 (f_Md_add (x4 ||| ((1 : Int32) <<< (x6 &&& 31))) x5 v_number) fun q_5 =>
      zb1 (zloop (fun q => f_Md_addOr_l63 x1 x4 x5 x6 q.1 q.2) zF ((0 : Int32), q_5)) fun q_6 =>
      zlet (x6 + 1) fun y_8 =>
      some (.inl (y_8, q_6))))
def f_Md_addOr_j25 (x1 : Int32) (x4 : Int32) (x5 : Int32) (v_number : Nat → Int32) : Option ((Nat → Int32)) :=
  zb1 (zloop (fun q => f_Md_addOr_l28 x1 x4 x5 q.1 q.2) zF ((0 : Int32), v_number)) fun q_1 =>
  some q_1
def f_Md_addOr_j11 (x1 : Int32) (x2 : Int32) (x3 : Int32) (x4 : Int32) (t0 : Int32) (v_number : Nat → Int32) : Option ((Nat → Int32)) :=
  if x2 = (1 : Int32) then (
    zb1 (f_Md_add x4 x3 v_number) fun q_3 =>
    f_Md_addOr_j25 x1 x4 t0 q_3)
  else (
    f_Md_addOr_j25 x1 x4 t0 v_number)
/-- PathSumsModel.addOr(IIII)V -/
def f_Md_addOr (x1 : Int32) (x2 : Int32) (x3 : Int32) (x4 : Int32) (v_number : Nat → Int32) : Option ((Nat → Int32)) :=
  if x2 = (1 : Int32) then (
    f_Md_addOr_j11 x1 x2 x3 x4 (-x3) v_number)
  else (
    f_Md_addOr_j11 x1 x2 x3 x4 x3 v_number)
def f_Md_addHalf_l18 (x1 : Int32) (x2 : Int32) (v_constant : Nat → Int32) (v_set : Nat → Int32) (x3 : Int32) (v_number : Nat → Int32) : Option ((Int32 × (Nat → Int32)) ⊕ ((Nat → Int32))) :=
  if (24 : Int32) ≤ x3 then (
    some (.inr (v_number)))
  else (
    if x1 < 0 ∨ 6 ≤ x1.toNatClampNeg then none else
    if (((v_set x1.toNatClampNeg) >>> (x3 &&& 31)) &&& (1 : Int32)) = (1 : Int32) then (
      zb1 (f_Md_add (x2 ||| ((1 : Int32) <<< (x3 &&& 31))) (4 : Int32) v_number) fun q_5 =>
      zlet (x3 + 1) fun y_6 =>
      some (.inl (y_6, q_5)))
    else (
      zlet (x3 + 1) fun y_7 =>
      some (.inl (y_7, v_number))))
def f_Md_addHalf_j16 (x1 : Int32) (x2 : Int32) (v_constant : Nat → Int32) (v_number : Nat → Int32) (v_set : Nat → Int32) : Option ((Nat → Int32)) :=
  zb1 (zloop (fun q => f_Md_addHalf_l18 x1 x2 v_constant v_set q.1 q.2) zF ((0 : Int32), v_number)) fun q_1 =>
  some q_1
/-- PathSumsModel.addHalf(II)V -/
def f_Md_addHalf (x1 : Int32) (x2 : Int32) (v_constant : Nat → Int32) (v_number : Nat → Int32) (v_set : Nat → Int32) : Option ((Nat → Int32)) :=
  if x1 < 0 ∨ 6 ≤ x1.toNatClampNeg then none else
  if (v_constant x1.toNatClampNeg) = (1 : Int32) then (
    zb1 (f_Md_add x2 (4 : Int32) v_number) fun q_4 =>
    f_Md_addHalf_j16 x1 x2 v_constant q_4 v_set)
  else (
    f_Md_addHalf_j16 x1 x2 v_constant v_number v_set)
def f_Md_addTwo_l19 (x1 : Int32) (x2 : Int32) (x3 : Int32) (v_constant : Nat → Int32) (v_set : Nat → Int32) (x4 : Int32) (v_number : Nat → Int32) : Option ((Int32 × (Nat → Int32)) ⊕ ((Nat → Int32))) :=
  if (24 : Int32) ≤ x4 then (
    some (.inr (v_number)))
  else (
    if x1 < 0 ∨ 6 ≤ x1.toNatClampNeg then none else
    if (((v_set x1.toNatClampNeg) >>> (x4 &&& 31)) &&& (1 : Int32)) = (1 : Int32) then (
      zb1 (f_Md_addHalf x2 (x3 ||| ((1 : Int32) <<< (x4 &&& 31))) v_constant v_number v_set) fun q_5 =>
      zlet (x4 + 1) fun y_6 =>
      some (.inl (y_6, q_5)))
    else (
      zlet (x4 + 1) fun y_7 =>
      some (.inl (y_7, v_number))))
def f_Md_addTwo_j16 (x1 : Int32) (x2 : Int32) (x3 : Int32) (v_constant : Nat → Int32) (v_number : Nat → Int32) (v_set : Nat → Int32) : Option ((Nat → Int32)) :=
  zb1 (zloop (fun q => f_Md_addTwo_l19 x1 x2 x3 v_constant v_set q.1 q.2) zF ((0 : Int32), v_number)) fun q_1 =>
  some q_1
/-- PathSumsModel.addTwo(III)V -/
def f_Md_addTwo (x1 : Int32) (x2 : Int32) (x3 : Int32) (v_constant : Nat → Int32) (v_number : Nat → Int32) (v_set : Nat → Int32) : Option ((Nat → Int32)) :=
  if x1 < 0 ∨ 6 ≤ x1.toNatClampNeg then none else
  if (v_constant x1.toNatClampNeg) = (1 : Int32) then (
    zb1 (f_Md_addHalf x2 x3 v_constant v_number v_set) fun q_4 =>
    f_Md_addTwo_j16 x1 x2 x3 v_constant q_4 v_set)
  else (
    f_Md_addTwo_j16 x1 x2 x3 v_constant v_number v_set)
def f_Md_addThree_l20 (x1 : Int32) (x2 : Int32) (x3 : Int32) (v_constant : Nat → Int32) (v_set : Nat → Int32) (x4 : Int32) (v_number : Nat → Int32) : Option ((Int32 × (Nat → Int32)) ⊕ ((Nat → Int32))) :=
  if (24 : Int32) ≤ x4 then (
    some (.inr (v_number)))
  else (
    if x1 < 0 ∨ 6 ≤ x1.toNatClampNeg then none else
    if (((v_set x1.toNatClampNeg) >>> (x4 &&& 31)) &&& (1 : Int32)) = (1 : Int32) then (
      zb1 (f_Md_addTwo x2 x3 ((1 : Int32) <<< (x4 &&& 31)) v_constant v_number v_set) fun q_5 =>
      zlet (x4 + 1) fun y_6 =>
      some (.inl (y_6, q_5)))
    else (
      zlet (x4 + 1) fun y_7 =>
      some (.inl (y_7, v_number))))
def f_Md_addThree_j17 (x1 : Int32) (x2 : Int32) (x3 : Int32) (v_constant : Nat → Int32) (v_number : Nat → Int32) (v_set : Nat → Int32) : Option ((Nat → Int32)) :=
  zb1 (zloop (fun q => f_Md_addThree_l20 x1 x2 x3 v_constant v_set q.1 q.2) zF ((0 : Int32), v_number)) fun q_1 =>
  some q_1
/-- PathSumsModel.addThree(III)V -/
def f_Md_addThree (x1 : Int32) (x2 : Int32) (x3 : Int32) (v_constant : Nat → Int32) (v_number : Nat → Int32) (v_set : Nat → Int32) : Option ((Nat → Int32)) :=
  if x1 < 0 ∨ 6 ≤ x1.toNatClampNeg then none else
  if (v_constant x1.toNatClampNeg) = (1 : Int32) then (
    zb1 (f_Md_addTwo x2 x3 (0 : Int32) v_constant v_number v_set) fun q_4 =>
    f_Md_addThree_j17 x1 x2 x3 v_constant q_4 v_set)
  else (
    f_Md_addThree_j17 x1 x2 x3 v_constant v_number v_set)
def f_Md_start_l37 (v_wires : Int32) (v_isOpen : Int32) (v_isEmpty : Int32) (v_came : Int32) (v_there : Int32) (v_halves : Int32) (v_rules : Int32) (v_set : Nat → Int32) (v_constant : Nat → Int32) (x2 : Int32) (v_number : Nat → Int32) : Option ((Int32 × (Nat → Int32)) ⊕ ((Nat → Int32))) :=
  if (15625 : Int32) ≤ x2 then (
    some (.inr (v_number)))
  else (
    if x2 < 0 ∨ 15625 ≤ x2.toNatClampNeg then none else
    zlet (upd v_number x2.toNatClampNeg (0 : Int32)) fun u_3 =>
    zlet (x2 + 1) fun y_4 =>
    some (.inl (y_4, u_3)))
def f_Md_start_l59 (v_wires : Int32) (v_isOpen : Int32) (v_isEmpty : Int32) (v_came : Int32) (v_there : Int32) (v_halves : Int32) (v_rules : Int32) (v_number : Nat → Int32) (x2 : Int32) (v_set : Nat → Int32) (v_constant : Nat → Int32) : Option ((Int32 × (Nat → Int32) × (Nat → Int32)) ⊕ ((Nat → Int32) × (Nat → Int32))) :=
  if (6 : Int32) ≤ x2 then (
    some (.inr (v_set, v_constant)))
  else (
    if x2 < 0 ∨ 6 ≤ x2.toNatClampNeg then none else
    zlet (upd v_set x2.toNatClampNeg (0 : Int32)) fun u_3 =>
    if x2 < 0 ∨ 6 ≤ x2.toNatClampNeg then none else
    zlet (upd v_constant x2.toNatClampNeg (0 : Int32)) fun u_5 =>
    zlet (x2 + 1) fun y_6 =>
    some (.inl (y_6, u_3, u_5)))
/-- PathSumsModel.start(I)V -/
def f_Md_start (x1 : Int32) (v_wires : Int32) (v_isOpen : Int32) (v_isEmpty : Int32) (v_came : Int32) (v_there : Int32) (v_halves : Int32) (v_rules : Int32) (v_number : Nat → Int32) (v_set : Nat → Int32) (v_constant : Nat → Int32) : Option (Int32 × Int32 × Int32 × Int32 × Int32 × Int32 × Int32 × (Nat → Int32) × (Nat → Int32) × (Nat → Int32)) :=
  zb1 (zloop (fun q => f_Md_start_l37 x1 (0 : Int32) (0 : Int32) (0 : Int32) (0 : Int32) (0 : Int32) (0 : Int32) v_set v_constant q.1 q.2) zF ((0 : Int32), v_number)) fun q_1 =>
  zb2 (zloop (fun q => f_Md_start_l59 x1 (0 : Int32) (0 : Int32) (0 : Int32) (0 : Int32) (0 : Int32) (0 : Int32) q_1 q.1 q.2.1 q.2.2) zF ((0 : Int32), v_set, v_constant)) fun q_3 q_4 =>
  some (x1, (0 : Int32), (0 : Int32), (0 : Int32), (0 : Int32), (0 : Int32), (0 : Int32), q_1, q_3, q_4)
def f_Md_begin_l36 (x1 : Int32) (x2 : Int32) (v_thrown : Int32) (v_wires : Int32) (v_isOpen : Int32) (v_isEmpty : Int32) (v_came : Int32) (v_there : Int32) (v_halves : Int32) (v_rules : Int32) (v_number : Nat → Int32) (v_set : Nat → Int32) (x3 : Int32) (v_constant : Nat → Int32) : Option ((Int32 × (Nat → Int32)) ⊕ ((Nat → Int32))) :=
  if x1 ≤ x3 then (
    some (.inr (v_constant)))
  else (
    if x3 < 0 ∨ 6 ≤ x3.toNatClampNeg then none else
    zlet (upd v_constant x3.toNatClampNeg ((x2 >>> (x3 &&& 31)) &&& (1 : Int32))) fun u_3 =>
    zlet (x3 + 1) fun y_4 =>
    some (.inl (y_4, u_3)))
/-- PathSumsModel.begin(II)Z -/
def f_Md_begin (x1 : Int32) (x2 : Int32) (v_thrown : Int32) (v_wires : Int32) (v_isOpen : Int32) (v_isEmpty : Int32) (v_came : Int32) (v_there : Int32) (v_halves : Int32) (v_rules : Int32) (v_number : Nat → Int32) (v_set : Nat → Int32) (v_constant : Nat → Int32) : Option (Int32 × Int32 × Int32 × Int32 × Int32 × Int32 × Int32 × Int32 × Int32 × (Nat → Int32) × (Nat → Int32) × (Nat → Int32)) :=
  if x1 < (1 : Int32) then (
    some ((0 : Int32), (0 : Int32), v_wires, v_isOpen, v_isEmpty, v_came, v_there, v_halves, v_rules, v_number, v_set, v_constant))
  else (
    if (6 : Int32) < x1 then (
      some ((0 : Int32), (0 : Int32), v_wires, v_isOpen, v_isEmpty, v_came, v_there, v_halves, v_rules, v_number, v_set, v_constant))
    else (
      if x2 < 0 then (
        some ((0 : Int32), (0 : Int32), v_wires, v_isOpen, v_isEmpty, v_came, v_there, v_halves, v_rules, v_number, v_set, v_constant))
      else (
        if x2 < ((1 : Int32) <<< (x1 &&& 31)) then (
          zb10 (f_Md_start x1 v_wires v_isOpen v_isEmpty v_came v_there v_halves v_rules v_number v_set v_constant) fun q_6 q_7 q_8 q_9 q_10 q_11 q_12 q_13 q_14 q_15 =>
          zb1 (zloop (fun q => f_Md_begin_l36 x1 x2 (0 : Int32) q_6 q_7 q_8 q_9 q_10 q_11 q_12 q_13 q_14 q.1 q.2) zF ((0 : Int32), q_15)) fun q_16 =>
          some ((1 : Int32), (0 : Int32), q_6, q_7, q_8, q_9, q_10, q_11, q_12, q_13, q_14, q_16))
        else (
          some ((0 : Int32), (0 : Int32), v_wires, v_isOpen, v_isEmpty, v_came, v_there, v_halves, v_rules, v_number, v_set, v_constant)))))
def f_Md_open_l44 (x1 : Int32) (v_thrown : Int32) (v_wires : Int32) (v_isOpen : Int32) (v_isEmpty : Int32) (v_came : Int32) (v_there : Int32) (v_halves : Int32) (v_rules : Int32) (v_number : Nat → Int32) (v_constant : Nat → Int32) (x2 : Int32) (v_set : Nat → Int32) : Option ((Int32 × (Nat → Int32)) ⊕ ((Nat → Int32))) :=
  if x1 ≤ x2 then (
    some (.inr (v_set)))
  else (
    if x2 < 0 ∨ 6 ≤ x2.toNatClampNeg then none else
    zlet (upd v_set x2.toNatClampNeg ((1 : Int32) <<< (x2 &&& 31))) fun u_3 =>
    zlet (x2 + 1) fun y_4 =>
    some (.inl (y_4, u_3)))
/-- PathSumsModel.open(I)Z -/
def f_Md_open (x1 : Int32) (v_thrown : Int32) (v_wires : Int32) (v_isOpen : Int32) (v_isEmpty : Int32) (v_came : Int32) (v_there : Int32) (v_halves : Int32) (v_rules : Int32) (v_number : Nat → Int32) (v_set : Nat → Int32) (v_constant : Nat → Int32) : Option (Int32 × Int32 × Int32 × Int32 × Int32 × Int32 × Int32 × Int32 × Int32 × (Nat → Int32) × (Nat → Int32) × (Nat → Int32)) :=
  if x1 < (1 : Int32) then (
    some ((0 : Int32), (0 : Int32), v_wires, v_isOpen, v_isEmpty, v_came, v_there, v_halves, v_rules, v_number, v_set, v_constant))
  else (
    if x1 ≤ (6 : Int32) then (
      zb10 (f_Md_start x1 v_wires v_isOpen v_isEmpty v_came v_there v_halves v_rules v_number v_set v_constant) fun q_4 q_5 q_6 q_7 q_8 q_9 q_10 q_11 q_12 q_13 =>
      zlet (((1 : Int32) <<< (x1 &&& 31)) - (1 : Int32)) fun y_14 =>
      zb1 (zloop (fun q => f_Md_open_l44 x1 (0 : Int32) q_4 (1 : Int32) q_6 x1 y_14 q_9 q_10 q_11 q_13 q.1 q.2) zF ((0 : Int32), q_12)) fun q_15 =>
      some ((1 : Int32), (0 : Int32), q_4, (1 : Int32), q_6, x1, y_14, q_9, q_10, q_11, q_15, q_13))
    else (
      some ((0 : Int32), (0 : Int32), v_wires, v_isOpen, v_isEmpty, v_came, v_there, v_halves, v_rules, v_number, v_set, v_constant)))
/-- PathSumsModel.isWire(I)Z -/
def f_Md_isWire (x1 : Int32) (v_wires : Int32) : Int32 :=
  if x1 < 0 then (
    (0 : Int32))
  else (
    if v_wires ≤ x1 then (
      (0 : Int32))
    else (
      (1 : Int32)))
/-- PathSumsModel.wiresOf(I)I -/
def f_Md_wiresOf (x0 : Int32) : Int32 :=
  if x0 = (9 : Int32) then (
    (3 : Int32))
  else (
    if x0 = (1 : Int32) then (
      (2 : Int32))
    else (
      if x0 = (2 : Int32) then (
        (2 : Int32))
      else (
        if x0 = (8 : Int32) then (
          (2 : Int32))
        else (
          (1 : Int32)))))
/-- PathSumsModel.eighthsOf(I)I -/
def f_Md_eighthsOf (x0 : Int32) : Int32 :=
  if x0 = (3 : Int32) then (
    (4 : Int32))
  else (
    if x0 = (4 : Int32) then (
      (2 : Int32))
    else (
      if x0 = (5 : Int32) then (
        (1 : Int32))
      else (
        if x0 = (6 : Int32) then (
          (6 : Int32))
        else (
          (7 : Int32)))))
/-- PathSumsModel.exchange(II)V -/
def f_Md_exchange (x1 : Int32) (x2 : Int32) (v_set : Nat → Int32) (v_constant : Nat → Int32) : Option ((Nat → Int32) × (Nat → Int32)) :=
  if x1 < 0 ∨ 6 ≤ x1.toNatClampNeg then none else
  zlet (v_set x1.toNatClampNeg) fun y_2 =>
  if x2 < 0 ∨ 6 ≤ x2.toNatClampNeg then none else
  if x1 < 0 ∨ 6 ≤ x1.toNatClampNeg then none else
  zlet (upd v_set x1.toNatClampNeg (v_set x2.toNatClampNeg)) fun u_5 =>
  if x2 < 0 ∨ 6 ≤ x2.toNatClampNeg then none else
  zlet (upd u_5 x2.toNatClampNeg y_2) fun u_7 =>
  if x1 < 0 ∨ 6 ≤ x1.toNatClampNeg then none else
  zlet (v_constant x1.toNatClampNeg) fun y_9 =>
  if x2 < 0 ∨ 6 ≤ x2.toNatClampNeg then none else
  if x1 < 0 ∨ 6 ≤ x1.toNatClampNeg then none else
  zlet (upd v_constant x1.toNatClampNeg (v_constant x2.toNatClampNeg)) fun u_12 =>
  if x2 < 0 ∨ 6 ≤ x2.toNatClampNeg then none else
  zlet (upd u_12 x2.toNatClampNeg y_9) fun u_14 =>
  some (u_7, u_14)
/-- PathSumsModel.newBit(II)V -/
def f_Md_newBit (x1 : Int32) (x2 : Int32) (v_came : Int32) (v_there : Int32) (v_halves : Int32) (v_constant : Nat → Int32) (v_number : Nat → Int32) (v_set : Nat → Int32) : Option (Int32 × Int32 × Int32 × (Nat → Int32)) :=
  zb1 (f_Md_addHalf x1 ((1 : Int32) <<< (v_came &&& 31)) v_constant v_number v_set) fun q_2 =>
  zlet (v_there ||| ((1 : Int32) <<< (v_came &&& 31))) fun y_3 =>
  zlet (v_came + (1 : Int32)) fun y_4 =>
  zlet (v_halves + x2) fun y_5 =>
  some (y_4, y_3, y_5, q_2)
def f_Md_gate_j101 (x1 : Int32) (x2 : Int32) (x3 : Int32) (x4 : Int32) (v_thrown : Int32) (v_wires : Int32) (v_isEmpty : Int32) (v_came : Int32) (v_there : Int32) (v_halves : Int32) (v_constant : Nat → Int32) (v_set : Nat → Int32) (v_number : Nat → Int32) : Option (Int32 × Int32 × Int32 × Int32 × Int32 × (Nat → Int32) × (Nat → Int32) × (Nat → Int32)) :=
  if x1 = 0 then (
    if x2 < 0 ∨ 6 ≤ x2.toNatClampNeg then none else
    if x2 < 0 ∨ 6 ≤ x2.toNatClampNeg then none else
    zlet (upd v_constant x2.toNatClampNeg ((v_constant x2.toNatClampNeg) ^^^ (1 : Int32))) fun u_4 =>
    some ((1 : Int32), v_thrown, v_came, v_there, v_halves, u_4, v_set, v_number))
  else (
  if x1 = 1 then (
    if x2 < 0 ∨ 6 ≤ x2.toNatClampNeg then none else
    if x3 < 0 ∨ 6 ≤ x3.toNatClampNeg then none else
    if x2 < 0 ∨ 6 ≤ x2.toNatClampNeg then none else
    zlet (upd v_set x2.toNatClampNeg ((v_set x2.toNatClampNeg) ^^^ (v_set x3.toNatClampNeg))) fun u_9 =>
    if x2 < 0 ∨ 6 ≤ x2.toNatClampNeg then none else
    if x3 < 0 ∨ 6 ≤ x3.toNatClampNeg then none else
    if x2 < 0 ∨ 6 ≤ x2.toNatClampNeg then none else
    zlet (upd v_constant x2.toNatClampNeg ((v_constant x2.toNatClampNeg) ^^^ (v_constant x3.toNatClampNeg))) fun u_13 =>
    some ((1 : Int32), v_thrown, v_came, v_there, v_halves, u_13, u_9, v_number))
  else (
  if x1 = 2 then (
    zb2 (f_Md_exchange x2 x3 v_set v_constant) fun q_16 q_17 =>
    some ((1 : Int32), v_thrown, v_came, v_there, v_halves, q_17, q_16, v_number))
  else (
  if x1 = 3 then (
    if x2 < 0 ∨ 6 ≤ x2.toNatClampNeg then none else
    if x2 < 0 ∨ 6 ≤ x2.toNatClampNeg then none else
    zb1 (f_Md_addOr (v_set x2.toNatClampNeg) (v_constant x2.toNatClampNeg) (f_Md_eighthsOf x1) (0 : Int32) v_number) fun q_23 =>
    some ((1 : Int32), v_thrown, v_came, v_there, v_halves, v_constant, v_set, q_23))
  else (
  if x1 = 4 then (
    if x2 < 0 ∨ 6 ≤ x2.toNatClampNeg then none else
    if x2 < 0 ∨ 6 ≤ x2.toNatClampNeg then none else
    zb1 (f_Md_addOr (v_set x2.toNatClampNeg) (v_constant x2.toNatClampNeg) (f_Md_eighthsOf x1) (0 : Int32) v_number) fun q_29 =>
    some ((1 : Int32), v_thrown, v_came, v_there, v_halves, v_constant, v_set, q_29))
  else (
  if x1 = 5 then (
    if x2 < 0 ∨ 6 ≤ x2.toNatClampNeg then none else
    if x2 < 0 ∨ 6 ≤ x2.toNatClampNeg then none else
    zb1 (f_Md_addOr (v_set x2.toNatClampNeg) (v_constant x2.toNatClampNeg) (f_Md_eighthsOf x1) (0 : Int32) v_number) fun q_35 =>
    some ((1 : Int32), v_thrown, v_came, v_there, v_halves, v_constant, v_set, q_35))
  else (
  if x1 = 6 then (
    if x2 < 0 ∨ 6 ≤ x2.toNatClampNeg then none else
    if x2 < 0 ∨ 6 ≤ x2.toNatClampNeg then none else
    zb1 (f_Md_addOr (v_set x2.toNatClampNeg) (v_constant x2.toNatClampNeg) (f_Md_eighthsOf x1) (0 : Int32) v_number) fun q_41 =>
    some ((1 : Int32), v_thrown, v_came, v_there, v_halves, v_constant, v_set, q_41))
  else (
  if x1 = 7 then (
    if x2 < 0 ∨ 6 ≤ x2.toNatClampNeg then none else
    if x2 < 0 ∨ 6 ≤ x2.toNatClampNeg then none else
    zb1 (f_Md_addOr (v_set x2.toNatClampNeg) (v_constant x2.toNatClampNeg) (f_Md_eighthsOf x1) (0 : Int32) v_number) fun q_47 =>
    some ((1 : Int32), v_thrown, v_came, v_there, v_halves, v_constant, v_set, q_47))
  else (
  if x1 = 8 then (
    zb1 (f_Md_addTwo x2 x3 (0 : Int32) v_constant v_number v_set) fun q_50 =>
    some ((1 : Int32), v_thrown, v_came, v_there, v_halves, v_constant, v_set, q_50))
  else (
  if x1 = 9 then (
    zb1 (f_Md_addThree x2 x3 x4 v_constant v_number v_set) fun q_53 =>
    some ((1 : Int32), v_thrown, v_came, v_there, v_halves, v_constant, v_set, q_53))
  else (
  if x1 = 10 then (
    zb4 (f_Md_newBit x2 (1 : Int32) v_came v_there v_halves v_constant v_number v_set) fun q_56 q_57 q_58 q_59 =>
    if x2 < 0 ∨ 6 ≤ x2.toNatClampNeg then none else
    zlet (upd v_set x2.toNatClampNeg ((1 : Int32) <<< ((q_56 - (1 : Int32)) &&& 31))) fun u_61 =>
    if x2 < 0 ∨ 6 ≤ x2.toNatClampNeg then none else
    zlet (upd v_constant x2.toNatClampNeg (0 : Int32)) fun u_63 =>
    some ((1 : Int32), v_thrown, q_56, q_57, q_58, u_63, u_61, q_59))
  else (
  if x1 = 11 then (
    zb4 (f_Md_newBit x2 (2 : Int32) v_came v_there v_halves v_constant v_number v_set) fun q_66 q_67 q_68 q_69 =>
    some ((1 : Int32), v_thrown, q_66, q_67, q_68, v_constant, v_set, q_69))
  else (
  if x1 = 12 then (
    zb4 (f_Md_newBit x2 (2 : Int32) v_came v_there v_halves v_constant v_number v_set) fun q_72 q_73 q_74 q_75 =>
    zb1 (f_Md_add ((1 : Int32) <<< ((q_72 - (1 : Int32)) &&& 31)) (4 : Int32) q_75) fun q_77 =>
    some ((1 : Int32), v_thrown, q_72, q_73, q_74, v_constant, v_set, q_77))
  else (
  if x2 < 0 ∨ 6 ≤ x2.toNatClampNeg then none else
  if x2 < 0 ∨ 6 ≤ x2.toNatClampNeg then none else
  zb1 (f_Md_addOr (v_set x2.toNatClampNeg) (v_constant x2.toNatClampNeg) (f_Md_eighthsOf x1) (0 : Int32) v_number) fun q_82 =>
  some ((1 : Int32), v_thrown, v_came, v_there, v_halves, v_constant, v_set, q_82))))))))))))))
def f_Md_gate_j72 (x1 : Int32) (x2 : Int32) (x3 : Int32) (x4 : Int32) (x5 : Int32) (v_thrown : Int32) (v_wires : Int32) (v_isEmpty : Int32) (v_came : Int32) (v_there : Int32) (v_halves : Int32) (v_constant : Nat → Int32) (v_set : Nat → Int32) (v_number : Nat → Int32) : Option (Int32 × Int32 × Int32 × Int32 × Int32 × (Nat → Int32) × (Nat → Int32) × (Nat → Int32)) :=
  if x5 ≤ (2 : Int32) then (
    f_Md_gate_j101 x1 x2 x3 x4 v_thrown v_wires v_isEmpty v_came v_there v_halves v_constant v_set v_number)
  else (
    if (f_Md_isWire x4 v_wires) = 0 then (
      some ((0 : Int32), v_thrown, v_came, v_there, v_halves, v_constant, v_set, v_number))
    else (
      if x4 = x2 then (
        some ((0 : Int32), v_thrown, v_came, v_there, v_halves, v_constant, v_set, v_number))
      else (
        if x4 = x3 then (
          some ((0 : Int32), v_thrown, v_came, v_there, v_halves, v_constant, v_set, v_number))
        else (
          f_Md_gate_j101 x1 x2 x3 x4 v_thrown v_wires v_isEmpty v_came v_there v_halves v_constant v_set v_number))))
def f_Md_gate_j39 (x1 : Int32) (x2 : Int32) (x3 : Int32) (x4 : Int32) (v_thrown : Int32) (v_wires : Int32) (v_isEmpty : Int32) (v_came : Int32) (v_there : Int32) (v_halves : Int32) (v_constant : Nat → Int32) (v_set : Nat → Int32) (v_number : Nat → Int32) : Option (Int32 × Int32 × Int32 × Int32 × Int32 × (Nat → Int32) × (Nat → Int32) × (Nat → Int32)) :=
  zlet (f_Md_wiresOf x1) fun y_2 =>
  if (f_Md_isWire x2 v_wires) = 0 then (
    some ((0 : Int32), v_thrown, v_came, v_there, v_halves, v_constant, v_set, v_number))
  else (
    if y_2 ≤ (1 : Int32) then (
      f_Md_gate_j72 x1 x2 x3 x4 y_2 v_thrown v_wires v_isEmpty v_came v_there v_halves v_constant v_set v_number)
    else (
      if (f_Md_isWire x3 v_wires) = 0 then (
        some ((0 : Int32), v_thrown, v_came, v_there, v_halves, v_constant, v_set, v_number))
      else (
        if x2 = x3 then (
          some ((0 : Int32), v_thrown, v_came, v_there, v_halves, v_constant, v_set, v_number))
        else (
          f_Md_gate_j72 x1 x2 x3 x4 y_2 v_thrown v_wires v_isEmpty v_came v_there v_halves v_constant v_set v_number))))
/-- PathSumsModel.gate(IIII)Z -/
def f_Md_gate (x1 : Int32) (x2 : Int32) (x3 : Int32) (x4 : Int32) (v_thrown : Int32) (v_wires : Int32) (v_isEmpty : Int32) (v_came : Int32) (v_there : Int32) (v_halves : Int32) (v_constant : Nat → Int32) (v_set : Nat → Int32) (v_number : Nat → Int32) : Option (Int32 × Int32 × Int32 × Int32 × Int32 × (Nat → Int32) × (Nat → Int32) × (Nat → Int32)) :=
  if x1 < 0 then (
    some ((0 : Int32), (0 : Int32), v_came, v_there, v_halves, v_constant, v_set, v_number))
  else (
    if (12 : Int32) < x1 then (
      some ((0 : Int32), (0 : Int32), v_came, v_there, v_halves, v_constant, v_set, v_number))
    else (
      if v_isEmpty = 0 then (
        if x1 ≤ (9 : Int32) then (
          f_Md_gate_j39 x1 x2 x3 x4 (0 : Int32) v_wires v_isEmpty v_came v_there v_halves v_constant v_set v_number)
        else (
          if v_came = (24 : Int32) then (
            some ((0 : Int32), (0 : Int32), v_came, v_there, v_halves, v_constant, v_set, v_number))
          else (
            f_Md_gate_j39 x1 x2 x3 x4 (0 : Int32) v_wires v_isEmpty v_came v_there v_halves v_constant v_set v_number)))
      else (
        some ((0 : Int32), (0 : Int32), v_came, v_there, v_halves, v_constant, v_set, v_number))))
/-- PathSumsModel.inputs()I -/
def f_Md_inputs (v_wires : Int32) (v_isOpen : Int32) : Int32 :=
  if v_isOpen = 0 then (
    (0 : Int32))
  else (
    ((1 : Int32) <<< (v_wires &&& 31)) - (1 : Int32))
def f_Md_isHidden_l27 (x1 : Int32) (v_wires : Int32) (v_isOpen : Int32) (v_there : Int32) (v_set : Nat → Int32) (x2 : Int32) : Option ((Int32) ⊕ ((Unit) ⊕ (Int32))) :=
  if v_wires ≤ x2 then (
    some (.inr (.inl ())))
  else (
    if x2 < 0 ∨ 6 ≤ x2.toNatClampNeg then none else
    if (((v_set x2.toNatClampNeg) >>> (x1 &&& 31)) &&& (1 : Int32)) = (1 : Int32) then (
      some (.inr (.inr (0 : Int32))))
    else (
      zlet (x2 + 1) fun y_4 =>
      some (.inl (y_4))))
/-- PathSumsModel.isHidden(I)Z -/
def f_Md_isHidden (x1 : Int32) (v_wires : Int32) (v_isOpen : Int32) (v_there : Int32) (v_set : Nat → Int32) : Option (Int32) :=
  if ((v_there >>> (x1 &&& 31)) &&& (1 : Int32)) = 0 then (
    some (0 : Int32))
  else (
    if (((f_Md_inputs v_wires v_isOpen) >>> (x1 &&& 31)) &&& (1 : Int32)) = (1 : Int32) then (
      some (0 : Int32))
    else (
      zr0 (zloop (fun q => f_Md_isHidden_l27 x1 v_wires v_isOpen v_there v_set q) zF ((0 : Int32))) <|
      some (1 : Int32)))
def f_Md_findFactor_l75 (x1 : Int32) (x2 : Int32) (v_alone : Int32) (v_halfBits : Int32) (v_number : Nat → Int32) (x4 : Int32) : Option ((Int32) ⊕ ((Unit) ⊕ (Int32 × Int32 × Int32))) :=
  if x2 ≤ x4 then (
    some (.inr (.inl ())))
  else (
    if x4 = x1 then (
      zlet (x4 + 1) fun y_3 =>
      some (.inl (y_3)))
    else (
      zb1 (f_Md_numberOf ((((1 : Int32) <<< (x1 &&& 31)) ||| ((1 : Int32) <<< (x2 &&& 31))) ||| ((1 : Int32) <<< (x4 &&& 31))) v_number) fun r_5 =>
      if r_5 = 0 then (
        zlet (x4 + 1) fun y_7 =>
        some (.inl (y_7)))
      else (
        some (.inr (.inr ((0 : Int32), v_alone, v_halfBits))))))
def f_Md_findFactor_l18 (x1 : Int32) (v_alone : Int32) (v_number : Nat → Int32) (x2 : Int32) (v_halfBits : Int32) : Option ((Int32 × Int32) ⊕ ((Int32) ⊕ (Int32 × Int32 × Int32))) :=
  if (24 : Int32) ≤ x2 then (
    some (.inr (.inl (v_halfBits))))
  else (
    if x2 = x1 then (
      zlet (x2 + 1) fun y_3 =>
      some (.inl (y_3, v_halfBits)))
    else (
      zb1 (f_Md_numberOf (((1 : Int32) <<< (x1 &&& 31)) ||| ((1 : Int32) <<< (x2 &&& 31))) v_number) fun r_5 =>
      if r_5 = 0 then (
        if r_5 = (4 : Int32) then (
          zlet (v_halfBits ||| ((1 : Int32) <<< (x2 &&& 31))) fun y_8 =>
          zs0 (zloop (fun q => f_Md_findFactor_l75 x1 x2 v_alone y_8 v_number q) zF ((0 : Int32))) <|
          zlet (x2 + 1) fun y_10 =>
          some (.inl (y_10, y_8)))
        else (
          zs0 (zloop (fun q => f_Md_findFactor_l75 x1 x2 v_alone v_halfBits v_number q) zF ((0 : Int32))) <|
          zlet (x2 + 1) fun y_12 =>
          some (.inl (y_12, v_halfBits))))
      else (
        if r_5 = (4 : Int32) then (
          if r_5 = (4 : Int32) then (
            zlet (v_halfBits ||| ((1 : Int32) <<< (x2 &&& 31))) fun y_15 =>
            zs0 (zloop (fun q => f_Md_findFactor_l75 x1 x2 v_alone y_15 v_number q) zF ((0 : Int32))) <|
            zlet (x2 + 1) fun y_17 =>
            some (.inl (y_17, y_15)))
          else (
            zs0 (zloop (fun q => f_Md_findFactor_l75 x1 x2 v_alone v_halfBits v_number q) zF ((0 : Int32))) <|
            zlet (x2 + 1) fun y_19 =>
            some (.inl (y_19, v_halfBits))))
        else (
          some (.inr (.inr ((0 : Int32), v_alone, v_halfBits)))))))
/-- PathSumsModel.findFactor(I)Z -/
def f_Md_findFactor (x1 : Int32) (v_alone : Int32) (v_halfBits : Int32) (v_number : Nat → Int32) : Option (Int32 × Int32 × Int32) :=
  zb1 (f_Md_numberOf ((1 : Int32) <<< (x1 &&& 31)) v_number) fun r_2 =>
  zr1 (zloop (fun q => f_Md_findFactor_l18 x1 r_2 v_number q.1 q.2) zF ((0 : Int32), (0 : Int32))) fun q_3 =>
  some ((1 : Int32), r_2, q_3)
def f_Md_ruleFor_j90 (t0 : Int32) (v_wires : Int32) (v_isOpen : Int32) (v_there : Int32) (v_alone : Int32) (v_halfBits : Int32) (v_set : Nat → Int32) (v_number : Nat → Int32) : Option (Int32 × Int32 × Int32) :=
  if t0 = 0 then (
    some ((0 : Int32), v_alone, v_halfBits))
  else (
    if (v_halfBits &&& ((f_Md_inputs v_wires v_isOpen) ^^^ (-1 : Int32))) = 0 then (
      some ((0 : Int32), v_alone, v_halfBits))
    else (
      some ((3 : Int32), v_alone, v_halfBits)))
def f_Md_ruleFor_j85 (v_wires : Int32) (v_isOpen : Int32) (v_there : Int32) (v_alone : Int32) (v_halfBits : Int32) (v_set : Nat → Int32) (v_number : Nat → Int32) : Option (Int32 × Int32 × Int32) :=
  f_Md_ruleFor_j90 (1 : Int32) v_wires v_isOpen v_there v_alone v_halfBits v_set v_number
def f_Md_ruleFor_j51 (v_wires : Int32) (v_isOpen : Int32) (v_there : Int32) (v_alone : Int32) (v_halfBits : Int32) (v_set : Nat → Int32) (v_number : Nat → Int32) : Option (Int32 × Int32 × Int32) :=
  if v_alone = (2 : Int32) then (
    some ((4 : Int32), v_alone, v_halfBits))
  else (
    if v_alone = (6 : Int32) then (
      some ((4 : Int32), v_alone, v_halfBits))
    else (
      if v_alone = 0 then (
        f_Md_ruleFor_j85 v_wires v_isOpen v_there v_alone v_halfBits v_set v_number)
      else (
        if v_alone = (4 : Int32) then (
          f_Md_ruleFor_j85 v_wires v_isOpen v_there v_alone v_halfBits v_set v_number)
        else (
          f_Md_ruleFor_j90 (0 : Int32) v_wires v_isOpen v_there v_alone v_halfBits v_set v_number))))
def f_Md_ruleFor_j34 (v_wires : Int32) (v_isOpen : Int32) (v_there : Int32) (v_alone : Int32) (v_halfBits : Int32) (v_set : Nat → Int32) (v_number : Nat → Int32) : Option (Int32 × Int32 × Int32) :=
  if v_halfBits = 0 then (
    if v_alone = (4 : Int32) then (
      some ((2 : Int32), v_alone, v_halfBits))
    else (
      f_Md_ruleFor_j51 v_wires v_isOpen v_there v_alone v_halfBits v_set v_number))
  else (
    f_Md_ruleFor_j51 v_wires v_isOpen v_there v_alone v_halfBits v_set v_number)
/-- PathSumsModel.ruleFor(I)I -/
def f_Md_ruleFor (x1 : Int32) (v_wires : Int32) (v_isOpen : Int32) (v_there : Int32) (v_alone : Int32) (v_halfBits : Int32) (v_set : Nat → Int32) (v_number : Nat → Int32) : Option (Int32 × Int32 × Int32) :=
  zb1 (f_Md_isHidden x1 v_wires v_isOpen v_there v_set) fun r_2 =>
  if r_2 = 0 then (
    some ((0 : Int32), v_alone, v_halfBits))
  else (
    zb3 (f_Md_findFactor x1 v_alone v_halfBits v_number) fun r_5 q_6 q_7 =>
    if r_5 = 0 then (
      some ((0 : Int32), q_6, q_7))
    else (
      if q_7 = 0 then (
        if q_6 = 0 then (
          some ((1 : Int32), q_6, q_7))
        else (
          f_Md_ruleFor_j34 v_wires v_isOpen v_there q_6 q_7 v_set v_number))
      else (
        f_Md_ruleFor_j34 v_wires v_isOpen v_there q_6 q_7 v_set v_number)))
def f_Md_empty_l25 (v_wires : Int32) (v_isOpen : Int32) (v_isEmpty : Int32) (v_there : Int32) (v_halves : Int32) (v_set : Nat → Int32) (x1 : Int32) (v_number : Nat → Int32) : Option ((Int32 × (Nat → Int32)) ⊕ ((Nat → Int32))) :=
  if (15625 : Int32) ≤ x1 then (
    some (.inr (v_number)))
  else (
    if x1 < 0 ∨ 15625 ≤ x1.toNatClampNeg then none else
    zlet (upd v_number x1.toNatClampNeg (0 : Int32)) fun u_3 =>
    zlet (x1 + 1) fun y_4 =>
    some (.inl (y_4, u_3)))
def f_Md_empty_l47 (v_wires : Int32) (v_isOpen : Int32) (v_isEmpty : Int32) (v_there : Int32) (v_halves : Int32) (v_number : Nat → Int32) (x1 : Int32) (v_set : Nat → Int32) : Option ((Int32 × (Nat → Int32)) ⊕ ((Nat → Int32))) :=
  if v_wires ≤ x1 then (
    some (.inr (v_set)))
  else (
    if x1 < 0 ∨ 6 ≤ x1.toNatClampNeg then none else
    if x1 < 0 ∨ 6 ≤ x1.toNatClampNeg then none else
    zlet (upd v_set x1.toNatClampNeg ((v_set x1.toNatClampNeg) &&& (f_Md_inputs v_wires v_isOpen))) fun u_5 =>
    zlet (x1 + 1) fun y_6 =>
    some (.inl (y_6, u_5)))
/-- PathSumsModel.empty()V -/
def f_Md_empty (v_wires : Int32) (v_isOpen : Int32) (v_isEmpty : Int32) (v_there : Int32) (v_halves : Int32) (v_number : Nat → Int32) (v_set : Nat → Int32) : Option (Int32 × Int32 × Int32 × (Nat → Int32) × (Nat → Int32)) :=
  zlet (v_there &&& (f_Md_inputs v_wires v_isOpen)) fun y_2 =>
  zb1 (zloop (fun q => f_Md_empty_l25 v_wires v_isOpen (1 : Int32) y_2 (0 : Int32) v_set q.1 q.2) zF ((0 : Int32), v_number)) fun q_3 =>
  zb1 (zloop (fun q => f_Md_empty_l47 v_wires v_isOpen (1 : Int32) y_2 (0 : Int32) q_3 q.1 q.2) zF ((0 : Int32), v_set)) fun q_5 =>
  some ((1 : Int32), y_2, (0 : Int32), q_3, q_5)
def f_Md_dropBit_l24 (x1 : Int32) (x2 : Int32) (v_there : Int32) (x3 : Int32) (v_number : Nat → Int32) : Option ((Int32 × (Nat → Int32)) ⊕ ((Nat → Int32))) :=
  if x2 < x3 then (
    some (.inr (v_number)))
  else (
    zb1 (f_Md_placeOf ((((1 : Int32) <<< (x1 &&& 31)) ||| ((1 : Int32) <<< (x2 &&& 31))) ||| ((1 : Int32) <<< (x3 &&& 31)))) fun r_3 =>
    if r_3 < 0 ∨ 15625 ≤ r_3.toNatClampNeg then none else
    zlet (upd v_number r_3.toNatClampNeg (0 : Int32)) fun u_5 =>
    zlet (x3 + 1) fun y_6 =>
    some (.inl (y_6, u_5)))
def f_Md_dropBit_l16 (x1 : Int32) (v_there : Int32) (x2 : Int32) (v_number : Nat → Int32) : Option ((Int32 × (Nat → Int32)) ⊕ ((Nat → Int32))) :=
  if (24 : Int32) ≤ x2 then (
    some (.inr (v_number)))
  else (
    zb1 (zloop (fun q => f_Md_dropBit_l24 x1 x2 v_there q.1 q.2) zF ((0 : Int32), v_number)) fun q_2 =>
    zlet (x2 + 1) fun y_4 =>
    some (.inl (y_4, q_2)))
/-- PathSumsModel.dropBit(I)V -/
def f_Md_dropBit (x1 : Int32) (v_there : Int32) (v_number : Nat → Int32) : Option (Int32 × (Nat → Int32)) :=
  zlet (v_there &&& (((1 : Int32) <<< (x1 &&& 31)) ^^^ (-1 : Int32))) fun y_1 =>
  zb1 (zloop (fun q => f_Md_dropBit_l16 x1 y_1 q.1 q.2) zF ((0 : Int32), v_number)) fun q_2 =>
  some (y_1, q_2)
def f_Md_greatest_l3 (x0 : Int32) (x1 : Int32) : Option ((Int32) ⊕ (Int32)) :=
  if ((x0 >>> (x1 &&& 31)) &&& (1 : Int32)) = 0 then (
    zlet (x1 + (-1)) fun y_2 =>
    some (.inl (y_2)))
  else (
    some (.inr (x1)))
/-- PathSumsModel.greatest(I)I -/
def f_Md_greatest (x0 : Int32) : Option (Int32) :=
  zb1 (zloop (fun q => f_Md_greatest_l3 x0 q) zF ((23 : Int32))) fun y_1 =>
  some y_1
def f_Md_become_l16 (x1 : Int32) (x2 : Int32) (x3 : Int32) (x5 : Int32) (v_wires : Int32) (v_there : Int32) (v_number : Nat → Int32) (v_set : Nat → Int32) (v_constant : Nat → Int32) (x4 : Int32) (x6 : Int32) (v_oldSet : Nat → Int32) (v_oldNumber : Nat → Int32) : Option ((Int32 × Int32 × (Nat → Int32) × (Nat → Int32)) ⊕ (Int32 × (Nat → Int32) × (Nat → Int32))) :=
  if x5 < x6 then (
    some (.inr (x4, v_oldSet, v_oldNumber)))
  else (
    zlet ((((1 : Int32) <<< (x5 &&& 31)) ||| ((1 : Int32) <<< (x6 &&& 31))) &&& (((1 : Int32) <<< (x1 &&& 31)) ^^^ (-1 : Int32))) fun y_2 =>
    if x5 = x1 then (
      if x6 = x1 then (
        zb1 (f_Md_numberOf (y_2 ||| ((1 : Int32) <<< (x1 &&& 31))) v_number) fun r_6 =>
        if r_6 = 0 then (
          zlet (x6 + 1) fun y_8 =>
          some (.inl (x4, y_8, v_oldSet, v_oldNumber)))
        else (
          if x4 < 0 ∨ 300 ≤ x4.toNatClampNeg then none else
          zlet (upd v_oldSet x4.toNatClampNeg y_2) fun u_10 =>
          if x4 < 0 ∨ 300 ≤ x4.toNatClampNeg then none else
          zlet (upd v_oldNumber x4.toNatClampNeg r_6) fun u_12 =>
          zlet (x4 + 1) fun y_13 =>
          zlet (x6 + 1) fun y_14 =>
          some (.inl (y_13, y_14, u_10, u_12))))
      else (
        zb1 (f_Md_numberOf (y_2 ||| ((1 : Int32) <<< (x1 &&& 31))) v_number) fun r_16 =>
        zlet (x6 + 1) fun y_17 =>
        some (.inl (x4, y_17, v_oldSet, v_oldNumber))))
    else (
      if x6 = x1 then (
        zb1 (f_Md_numberOf (y_2 ||| ((1 : Int32) <<< (x1 &&& 31))) v_number) fun r_20 =>
        zlet (x6 + 1) fun y_21 =>
        some (.inl (x4, y_21, v_oldSet, v_oldNumber)))
      else (
        zb1 (f_Md_numberOf (y_2 ||| ((1 : Int32) <<< (x1 &&& 31))) v_number) fun r_23 =>
        if r_23 = 0 then (
          zlet (x6 + 1) fun y_25 =>
          some (.inl (x4, y_25, v_oldSet, v_oldNumber)))
        else (
          if x4 < 0 ∨ 300 ≤ x4.toNatClampNeg then none else
          zlet (upd v_oldSet x4.toNatClampNeg y_2) fun u_27 =>
          if x4 < 0 ∨ 300 ≤ x4.toNatClampNeg then none else
          zlet (upd v_oldNumber x4.toNatClampNeg r_23) fun u_29 =>
          zlet (x4 + 1) fun y_30 =>
          zlet (x6 + 1) fun y_31 =>
          some (.inl (y_30, y_31, u_27, u_29))))))
def f_Md_become_l6 (x1 : Int32) (x2 : Int32) (x3 : Int32) (v_wires : Int32) (v_there : Int32) (v_number : Nat → Int32) (v_set : Nat → Int32) (v_constant : Nat → Int32) (x4 : Int32) (x5 : Int32) (v_oldSet : Nat → Int32) (v_oldNumber : Nat → Int32) : Option ((Int32 × Int32 × (Nat → Int32) × (Nat → Int32)) ⊕ (Int32 × (Nat → Int32) × (Nat → Int32))) :=
  if (24 : Int32) ≤ x5 then (
    some (.inr (x4, v_oldSet, v_oldNumber)))
  else (
    zb3 (zloop (fun q => f_Md_become_l16 x1 x2 x3 x5 v_wires v_there v_number v_set v_constant q.1 q.2.1 q.2.2.1 q.2.2.2) zF (x4, (0 : Int32), v_oldSet, v_oldNumber)) fun y_2 q_3 q_4 =>
    zlet (x5 + 1) fun y_6 =>
    some (.inl (y_2, y_6, q_3, q_4)))
def f_Md_become_l139 (x1 : Int32) (x2 : Int32) (x3 : Int32) (x4 : Int32) (v_wires : Int32) (v_there : Int32) (v_oldSet : Nat → Int32) (v_oldNumber : Nat → Int32) (v_set : Nat → Int32) (v_constant : Nat → Int32) (x5 : Int32) (v_number : Nat → Int32) : Option ((Int32 × (Nat → Int32)) ⊕ ((Nat → Int32))) :=
  if x4 ≤ x5 then (
    some (.inr (v_number)))
  else (
    if x5 < 0 ∨ 300 ≤ x5.toNatClampNeg then none else
    if x5 < 0 ∨ 300 ≤ x5.toNatClampNeg then none else
    zb1 (f_Md_addOr x2 x3 (v_oldNumber x5.toNatClampNeg) (v_oldSet x5.toNatClampNeg) v_number) fun q_5 =>
    zlet (x5 + 1) fun y_6 =>
    some (.inl (y_6, q_5)))
def f_Md_become_l175 (x1 : Int32) (x2 : Int32) (x3 : Int32) (v_wires : Int32) (v_there : Int32) (v_number : Nat → Int32) (v_oldSet : Nat → Int32) (v_oldNumber : Nat → Int32) (x5 : Int32) (v_set : Nat → Int32) (v_constant : Nat → Int32) : Option ((Int32 × (Nat → Int32) × (Nat → Int32)) ⊕ ((Nat → Int32) × (Nat → Int32))) :=
  if v_wires ≤ x5 then (
    some (.inr (v_set, v_constant)))
  else (
    if x5 < 0 ∨ 6 ≤ x5.toNatClampNeg then none else
    if (((v_set x5.toNatClampNeg) >>> (x1 &&& 31)) &&& (1 : Int32)) = 0 then (
      zlet (x5 + 1) fun y_4 =>
      some (.inl (y_4, v_set, v_constant)))
    else (
      if x5 < 0 ∨ 6 ≤ x5.toNatClampNeg then none else
      if x5 < 0 ∨ 6 ≤ x5.toNatClampNeg then none else
      zlet (upd v_set x5.toNatClampNeg (((v_set x5.toNatClampNeg) &&& (((1 : Int32) <<< (x1 &&& 31)) ^^^ (-1 : Int32))) ^^^ x2)) fun u_7 =>
      if x5 < 0 ∨ 6 ≤ x5.toNatClampNeg then none else
      if x5 < 0 ∨ 6 ≤ x5.toNatClampNeg then none else
      zlet (upd v_constant x5.toNatClampNeg ((v_constant x5.toNatClampNeg) ^^^ x3)) fun u_10 =>
      zlet (x5 + 1) fun y_11 =>
      some (.inl (y_11, u_7, u_10))))
/-- PathSumsModel.become(III)V -/
def f_Md_become (x1 : Int32) (x2 : Int32) (x3 : Int32) (v_wires : Int32) (v_there : Int32) (v_number : Nat → Int32) (v_oldSet : Nat → Int32) (v_oldNumber : Nat → Int32) (v_set : Nat → Int32) (v_constant : Nat → Int32) : Option (Int32 × (Nat → Int32) × (Nat → Int32) × (Nat → Int32) × (Nat → Int32) × (Nat → Int32)) :=
  zb3 (zloop (fun q => f_Md_become_l6 x1 x2 x3 v_wires v_there v_number v_set v_constant q.1 q.2.1 q.2.2.1 q.2.2.2) zF ((0 : Int32), (0 : Int32), v_oldSet, v_oldNumber)) fun y_1 q_2 q_3 =>
  zb2 (f_Md_dropBit x1 v_there v_number) fun q_6 q_7 =>
  zb1 (zloop (fun q => f_Md_become_l139 x1 x2 x3 y_1 v_wires q_6 q_2 q_3 v_set v_constant q.1 q.2) zF ((0 : Int32), q_7)) fun q_8 =>
  zb2 (zloop (fun q => f_Md_become_l175 x1 x2 x3 v_wires q_6 q_8 q_2 q_3 q.1 q.2.1 q.2.2) zF ((0 : Int32), v_set, v_constant)) fun q_10 q_11 =>
  some (q_6, q_8, q_2, q_3, q_10, q_11)
def f_Md_doRule_j134 (x1 : Int32) (x2 : Int32) (x3 : Int32) (v_wires : Int32) (v_isOpen : Int32) (v_isEmpty : Int32) (v_there : Int32) (v_halves : Int32) (v_rules : Int32) (v_alone : Int32) (v_halfBits : Int32) (v_number : Nat → Int32) (v_set : Nat → Int32) (v_ruleKind : Nat → Int32) (v_ruleBit : Nat → Int32) (v_ruleOther : Nat → Int32) (v_oldSet : Nat → Int32) (v_oldNumber : Nat → Int32) (v_constant : Nat → Int32) : Option (Int32 × Int32 × Int32 × Int32 × (Nat → Int32) × (Nat → Int32) × (Nat → Int32) × (Nat → Int32) × (Nat → Int32) × (Nat → Int32) × (Nat → Int32) × (Nat → Int32)) :=
  if v_rules < 0 ∨ 24 ≤ v_rules.toNatClampNeg then none else
  zlet (upd v_ruleKind v_rules.toNatClampNeg x1) fun u_2 =>
  if v_rules < 0 ∨ 24 ≤ v_rules.toNatClampNeg then none else
  zlet (upd v_ruleBit v_rules.toNatClampNeg x2) fun u_4 =>
  if v_rules < 0 ∨ 24 ≤ v_rules.toNatClampNeg then none else
  zlet (upd v_ruleOther v_rules.toNatClampNeg x3) fun u_6 =>
  zlet (v_rules + (1 : Int32)) fun y_7 =>
  some (v_isEmpty, v_there, v_halves, y_7, v_number, v_set, u_2, u_4, u_6, v_oldSet, v_oldNumber, v_constant)
def f_Md_doRule_j130 (x1 : Int32) (x2 : Int32) (x3 : Int32) (t1 : Int32) (t2 : Int32) (t3 : Int32) (v_wires : Int32) (v_isOpen : Int32) (v_isEmpty : Int32) (v_there : Int32) (v_halves : Int32) (v_rules : Int32) (v_alone : Int32) (v_halfBits : Int32) (v_number : Nat → Int32) (v_set : Nat → Int32) (v_ruleKind : Nat → Int32) (v_ruleBit : Nat → Int32) (v_ruleOther : Nat → Int32) (v_oldSet : Nat → Int32) (v_oldNumber : Nat → Int32) (v_constant : Nat → Int32) : Option (Int32 × Int32 × Int32 × Int32 × (Nat → Int32) × (Nat → Int32) × (Nat → Int32) × (Nat → Int32) × (Nat → Int32) × (Nat → Int32) × (Nat → Int32) × (Nat → Int32)) :=
  zb1 (f_Md_addOr t1 t2 t3 (0 : Int32) v_number) fun q_2 =>
  f_Md_doRule_j134 x1 x2 x3 v_wires v_isOpen v_isEmpty v_there v_halves v_rules v_alone v_halfBits q_2 v_set v_ruleKind v_ruleBit v_ruleOther v_oldSet v_oldNumber v_constant
def f_Md_doRule_j111 (x1 : Int32) (x2 : Int32) (x3 : Int32) (x4 : Int32) (x5 : Int32) (t1 : Int32) (t2 : Int32) (v_wires : Int32) (v_isOpen : Int32) (v_isEmpty : Int32) (v_there : Int32) (v_halves : Int32) (v_rules : Int32) (v_alone : Int32) (v_halfBits : Int32) (v_number : Nat → Int32) (v_set : Nat → Int32) (v_ruleKind : Nat → Int32) (v_ruleBit : Nat → Int32) (v_ruleOther : Nat → Int32) (v_oldSet : Nat → Int32) (v_oldNumber : Nat → Int32) (v_constant : Nat → Int32) : Option (Int32 × Int32 × Int32 × Int32 × (Nat → Int32) × (Nat → Int32) × (Nat → Int32) × (Nat → Int32) × (Nat → Int32) × (Nat → Int32) × (Nat → Int32) × (Nat → Int32)) :=
  zb1 (f_Md_add t1 t2 v_number) fun q_2 =>
  if x5 = (2 : Int32) then (
    f_Md_doRule_j130 x1 x2 x3 x4 (0 : Int32) (6 : Int32) v_wires v_isOpen v_isEmpty v_there v_halves v_rules v_alone v_halfBits q_2 v_set v_ruleKind v_ruleBit v_ruleOther v_oldSet v_oldNumber v_constant)
  else (
    f_Md_doRule_j130 x1 x2 x3 x4 (0 : Int32) (2 : Int32) v_wires v_isOpen v_isEmpty v_there v_halves v_rules v_alone v_halfBits q_2 v_set v_ruleKind v_ruleBit v_ruleOther v_oldSet v_oldNumber v_constant)
def f_Md_doRule_j92 (x1 : Int32) (x2 : Int32) (x3 : Int32) (x4 : Int32) (x5 : Int32) (v_wires : Int32) (v_isOpen : Int32) (v_isEmpty : Int32) (v_there : Int32) (v_halves : Int32) (v_rules : Int32) (v_alone : Int32) (v_halfBits : Int32) (v_number : Nat → Int32) (v_set : Nat → Int32) (v_ruleKind : Nat → Int32) (v_ruleBit : Nat → Int32) (v_ruleOther : Nat → Int32) (v_oldSet : Nat → Int32) (v_oldNumber : Nat → Int32) (v_constant : Nat → Int32) : Option (Int32 × Int32 × Int32 × Int32 × (Nat → Int32) × (Nat → Int32) × (Nat → Int32) × (Nat → Int32) × (Nat → Int32) × (Nat → Int32) × (Nat → Int32) × (Nat → Int32)) :=
  if x1 = (4 : Int32) then (
    if x5 = (2 : Int32) then (
      f_Md_doRule_j111 x1 x2 x3 x4 x5 (0 : Int32) (1 : Int32) v_wires v_isOpen v_isEmpty v_there v_halves v_rules v_alone v_halfBits v_number v_set v_ruleKind v_ruleBit v_ruleOther v_oldSet v_oldNumber v_constant)
    else (
      f_Md_doRule_j111 x1 x2 x3 x4 x5 (0 : Int32) (7 : Int32) v_wires v_isOpen v_isEmpty v_there v_halves v_rules v_alone v_halfBits v_number v_set v_ruleKind v_ruleBit v_ruleOther v_oldSet v_oldNumber v_constant))
  else (
    f_Md_doRule_j134 x1 x2 x3 v_wires v_isOpen v_isEmpty v_there v_halves v_rules v_alone v_halfBits v_number v_set v_ruleKind v_ruleBit v_ruleOther v_oldSet v_oldNumber v_constant)
def f_Md_doRule_j89 (x1 : Int32) (x2 : Int32) (x3 : Int32) (x4 : Int32) (x5 : Int32) (t1 : Int32) (t2 : Int32) (t3 : Int32) (v_wires : Int32) (v_isOpen : Int32) (v_isEmpty : Int32) (v_there : Int32) (v_halves : Int32) (v_rules : Int32) (v_alone : Int32) (v_halfBits : Int32) (v_number : Nat → Int32) (v_set : Nat → Int32) (v_ruleKind : Nat → Int32) (v_ruleBit : Nat → Int32) (v_ruleOther : Nat → Int32) (v_oldSet : Nat → Int32) (v_oldNumber : Nat → Int32) (v_constant : Nat → Int32) : Option (Int32 × Int32 × Int32 × Int32 × (Nat → Int32) × (Nat → Int32) × (Nat → Int32) × (Nat → Int32) × (Nat → Int32) × (Nat → Int32) × (Nat → Int32) × (Nat → Int32)) :=
  zb6 (f_Md_become t1 t2 t3 v_wires v_there v_number v_oldSet v_oldNumber v_set v_constant) fun q_2 q_3 q_4 q_5 q_6 q_7 =>
  f_Md_doRule_j92 x1 x2 x3 x4 x5 v_wires v_isOpen v_isEmpty q_2 v_halves v_rules v_alone v_halfBits q_3 q_6 v_ruleKind v_ruleBit v_ruleOther q_4 q_5 q_7
def f_Md_doRule_j50 (x1 : Int32) (x2 : Int32) (x3 : Int32) (x4 : Int32) (x5 : Int32) (v_wires : Int32) (v_isOpen : Int32) (v_isEmpty : Int32) (v_there : Int32) (v_halves : Int32) (v_rules : Int32) (v_alone : Int32) (v_halfBits : Int32) (v_number : Nat → Int32) (v_set : Nat → Int32) (v_ruleKind : Nat → Int32) (v_ruleBit : Nat → Int32) (v_ruleOther : Nat → Int32) (v_oldSet : Nat → Int32) (v_oldNumber : Nat → Int32) (v_constant : Nat → Int32) : Option (Int32 × Int32 × Int32 × Int32 × (Nat → Int32) × (Nat → Int32) × (Nat → Int32) × (Nat → Int32) × (Nat → Int32) × (Nat → Int32) × (Nat → Int32) × (Nat → Int32)) :=
  if x1 = (3 : Int32) then (
    zb1 (f_Md_greatest (x4 &&& ((f_Md_inputs v_wires v_isOpen) ^^^ (-1 : Int32)))) fun r_4 =>
    if x5 = (4 : Int32) then (
      f_Md_doRule_j89 x1 x2 r_4 x4 x5 r_4 (x4 &&& (((1 : Int32) <<< (r_4 &&& 31)) ^^^ (-1 : Int32))) (1 : Int32) v_wires v_isOpen v_isEmpty v_there v_halves v_rules v_alone v_halfBits v_number v_set v_ruleKind v_ruleBit v_ruleOther v_oldSet v_oldNumber v_constant)
    else (
      f_Md_doRule_j89 x1 x2 r_4 x4 x5 r_4 (x4 &&& (((1 : Int32) <<< (r_4 &&& 31)) ^^^ (-1 : Int32))) (0 : Int32) v_wires v_isOpen v_isEmpty v_there v_halves v_rules v_alone v_halfBits v_number v_set v_ruleKind v_ruleBit v_ruleOther v_oldSet v_oldNumber v_constant))
  else (
    f_Md_doRule_j92 x1 x2 x3 x4 x5 v_wires v_isOpen v_isEmpty v_there v_halves v_rules v_alone v_halfBits v_number v_set v_ruleKind v_ruleBit v_ruleOther v_oldSet v_oldNumber v_constant)
def f_Md_doRule_j46 (x1 : Int32) (x2 : Int32) (x3 : Int32) (x4 : Int32) (x5 : Int32) (t1 : Int32) (t2 : Int32) (v_wires : Int32) (v_isOpen : Int32) (v_isEmpty : Int32) (v_there : Int32) (v_halves : Int32) (v_rules : Int32) (v_alone : Int32) (v_halfBits : Int32) (v_number : Nat → Int32) (v_set : Nat → Int32) (v_ruleKind : Nat → Int32) (v_ruleBit : Nat → Int32) (v_ruleOther : Nat → Int32) (v_oldSet : Nat → Int32) (v_oldNumber : Nat → Int32) (v_constant : Nat → Int32) : Option (Int32 × Int32 × Int32 × Int32 × (Nat → Int32) × (Nat → Int32) × (Nat → Int32) × (Nat → Int32) × (Nat → Int32) × (Nat → Int32) × (Nat → Int32) × (Nat → Int32)) :=
  zlet (t1 - t2) fun y_1 =>
  f_Md_doRule_j50 x1 x2 x3 x4 x5 v_wires v_isOpen v_isEmpty v_there y_1 v_rules v_alone v_halfBits v_number v_set v_ruleKind v_ruleBit v_ruleOther v_oldSet v_oldNumber v_constant
/-- PathSumsModel.doRule(II)V -/
def f_Md_doRule (x1 : Int32) (x2 : Int32) (v_wires : Int32) (v_isOpen : Int32) (v_isEmpty : Int32) (v_there : Int32) (v_halves : Int32) (v_rules : Int32) (v_alone : Int32) (v_halfBits : Int32) (v_number : Nat → Int32) (v_set : Nat → Int32) (v_ruleKind : Nat → Int32) (v_ruleBit : Nat → Int32) (v_ruleOther : Nat → Int32) (v_oldSet : Nat → Int32) (v_oldNumber : Nat → Int32) (v_constant : Nat → Int32) : Option (Int32 × Int32 × Int32 × Int32 × (Nat → Int32) × (Nat → Int32) × (Nat → Int32) × (Nat → Int32) × (Nat → Int32) × (Nat → Int32) × (Nat → Int32) × (Nat → Int32)) :=
  if x1 = (2 : Int32) then (
    zb5 (f_Md_empty v_wires v_isOpen v_isEmpty v_there v_halves v_number v_set) fun q_3 q_4 q_5 q_6 q_7 =>
    f_Md_doRule_j50 x1 x2 (-1 : Int32) v_halfBits v_alone v_wires v_isOpen q_3 q_4 q_5 v_rules v_alone v_halfBits q_6 q_7 v_ruleKind v_ruleBit v_ruleOther v_oldSet v_oldNumber v_constant)
  else (
    zb2 (f_Md_dropBit x2 v_there v_number) fun q_9 q_10 =>
    if x1 = (4 : Int32) then (
      f_Md_doRule_j46 x1 x2 (-1 : Int32) v_halfBits v_alone v_halves (1 : Int32) v_wires v_isOpen v_isEmpty q_9 v_halves v_rules v_alone v_halfBits q_10 v_set v_ruleKind v_ruleBit v_ruleOther v_oldSet v_oldNumber v_constant)
    else (
      f_Md_doRule_j46 x1 x2 (-1 : Int32) v_halfBits v_alone v_halves (2 : Int32) v_wires v_isOpen v_isEmpty q_9 v_halves v_rules v_alone v_halfBits q_10 v_set v_ruleKind v_ruleBit v_ruleOther v_oldSet v_oldNumber v_constant))
def f_Md_reduce_l12 (x1 : Int32) (v_thrown : Int32) (v_wires : Int32) (v_isOpen : Int32) (x2 : Int32) (v_isEmpty : Int32) (v_there : Int32) (v_halves : Int32) (v_rules : Int32) (v_alone : Int32) (v_halfBits : Int32) (v_set : Nat → Int32) (v_number : Nat → Int32) (v_ruleKind : Nat → Int32) (v_ruleBit : Nat → Int32) (v_ruleOther : Nat → Int32) (v_oldSet : Nat → Int32) (v_oldNumber : Nat → Int32) (v_constant : Nat → Int32) : Option ((Int32 × Int32 × Int32 × Int32 × Int32 × Int32 × Int32 × (Nat → Int32) × (Nat → Int32) × (Nat → Int32) × (Nat → Int32) × (Nat → Int32) × (Nat → Int32) × (Nat → Int32) × (Nat → Int32)) ⊕ (Int32 × Int32 × Int32 × Int32 × Int32 × Int32 × (Nat → Int32) × (Nat → Int32) × (Nat → Int32) × (Nat → Int32) × (Nat → Int32) × (Nat → Int32) × (Nat → Int32) × (Nat → Int32))) :=
  if (24 : Int32) ≤ x2 then (
    some (.inr (v_isEmpty, v_there, v_halves, v_rules, v_alone, v_halfBits, v_set, v_number, v_ruleKind, v_ruleBit, v_ruleOther, v_oldSet, v_oldNumber, v_constant)))
  else (
    zb3 (f_Md_ruleFor x2 v_wires v_isOpen v_there v_alone v_halfBits v_set v_number) fun r_3 q_4 q_5 =>
    if r_3 ≤ 0 then (
      if r_3 ≤ 0 then (
        zlet (x2 + (1 : Int32)) fun y_8 =>
        some (.inl (y_8, v_isEmpty, v_there, v_halves, v_rules, q_4, q_5, v_set, v_number, v_ruleKind, v_ruleBit, v_ruleOther, v_oldSet, v_oldNumber, v_constant)))
      else (
        some (.inl ((0 : Int32), v_isEmpty, v_there, v_halves, v_rules, q_4, q_5, v_set, v_number, v_ruleKind, v_ruleBit, v_ruleOther, v_oldSet, v_oldNumber, v_constant))))
    else (
      zb12 (f_Md_doRule r_3 x2 v_wires v_isOpen v_isEmpty v_there v_halves v_rules q_4 q_5 v_number v_set v_ruleKind v_ruleBit v_ruleOther v_oldSet v_oldNumber v_constant) fun q_10 q_11 q_12 q_13 q_14 q_15 q_16 q_17 q_18 q_19 q_20 q_21 =>
      if r_3 ≤ 0 then (
        zlet (x2 + (1 : Int32)) fun y_23 =>
        some (.inl (y_23, q_10, q_11, q_12, q_13, q_4, q_5, q_15, q_14, q_16, q_17, q_18, q_19, q_20, q_21)))
      else (
        some (.inl ((0 : Int32), q_10, q_11, q_12, q_13, q_4, q_5, q_15, q_14, q_16, q_17, q_18, q_19, q_20, q_21)))))
/-- PathSumsModel.reduce()I -/
def f_Md_reduce (v_thrown : Int32) (v_wires : Int32) (v_isOpen : Int32) (v_isEmpty : Int32) (v_there : Int32) (v_halves : Int32) (v_rules : Int32) (v_alone : Int32) (v_halfBits : Int32) (v_set : Nat → Int32) (v_number : Nat → Int32) (v_ruleKind : Nat → Int32) (v_ruleBit : Nat → Int32) (v_ruleOther : Nat → Int32) (v_oldSet : Nat → Int32) (v_oldNumber : Nat → Int32) (v_constant : Nat → Int32) : Option (Int32 × Int32 × Int32 × Int32 × Int32 × Int32 × Int32 × Int32 × (Nat → Int32) × (Nat → Int32) × (Nat → Int32) × (Nat → Int32) × (Nat → Int32) × (Nat → Int32) × (Nat → Int32) × (Nat → Int32)) :=
  zb14 (zloop (fun q => f_Md_reduce_l12 v_rules (0 : Int32) v_wires v_isOpen q.1 q.2.1 q.2.2.1 q.2.2.2.1 q.2.2.2.2.1 q.2.2.2.2.2.1 q.2.2.2.2.2.2.1 q.2.2.2.2.2.2.2.1 q.2.2.2.2.2.2.2.2.1 q.2.2.2.2.2.2.2.2.2.1 q.2.2.2.2.2.2.2.2.2.2.1 q.2.2.2.2.2.2.2.2.2.2.2.1 q.2.2.2.2.2.2.2.2.2.2.2.2.1 q.2.2.2.2.2.2.2.2.2.2.2.2.2.1 q.2.2.2.2.2.2.2.2.2.2.2.2.2.2) zF ((0 : Int32), v_isEmpty, v_there, v_halves, v_rules, v_alone, v_halfBits, v_set, v_number, v_ruleKind, v_ruleBit, v_ruleOther, v_oldSet, v_oldNumber, v_constant)) fun q_1 q_2 q_3 q_4 q_5 q_6 q_7 q_8 q_9 q_10 q_11 q_12 q_13 q_14 =>
  some (q_4 - v_rules, (0 : Int32), q_1, q_2, q_3, q_4, q_5, q_6, q_7, q_8, q_9, q_10, q_11, q_12, q_13, q_14)
/-- PathSumsModel.rule(II)I -/
def f_Md_rule (x1 : Int32) (x2 : Int32) (v_thrown : Int32) (v_rules : Int32) (v_ruleKind : Nat → Int32) (v_ruleBit : Nat → Int32) (v_ruleOther : Nat → Int32) : Option (Int32 × Int32) :=
  if x1 < 0 then (
    some ((-1 : Int32), (0 : Int32)))
  else (
    if x1 < v_rules then (
      if x2 = 0 then (
        if x1 < 0 ∨ 24 ≤ x1.toNatClampNeg then none else
        some (v_ruleKind x1.toNatClampNeg, (0 : Int32)))
      else (
        if x2 = (1 : Int32) then (
          if x1 < 0 ∨ 24 ≤ x1.toNatClampNeg then none else
          some (v_ruleBit x1.toNatClampNeg, (0 : Int32)))
        else (
          if x2 = (2 : Int32) then (
            if x1 < 0 ∨ 24 ≤ x1.toNatClampNeg then none else
            some (v_ruleOther x1.toNatClampNeg, (0 : Int32)))
          else (
            some ((-1 : Int32), (0 : Int32))))))
    else (
      some ((-1 : Int32), (0 : Int32))))
/-- PathSumsModel.term(I)I -/
def f_Md_term (x1 : Int32) (v_thrown : Int32) (v_came : Int32) (v_number : Nat → Int32) : Option (Int32 × Int32) :=
  if x1 < 0 then (
    some ((-1 : Int32), (0 : Int32)))
  else (
    if (zushr x1 v_came) = 0 then (
      zb1 (f_Md_count x1) fun r_4 =>
      if r_4 ≤ (3 : Int32) then (
        zb1 (f_Md_numberOf x1 v_number) fun r_7 =>
        some (r_7, (0 : Int32)))
      else (
        some ((-1 : Int32), (0 : Int32))))
    else (
      some ((-1 : Int32), (0 : Int32))))
/-- PathSumsModel.wire(II)I -/
def f_Md_wire (x1 : Int32) (x2 : Int32) (v_thrown : Int32) (v_wires : Int32) (v_set : Nat → Int32) (v_constant : Nat → Int32) : Option (Int32 × Int32) :=
  if (f_Md_isWire x1 v_wires) = 0 then (
    some ((-1 : Int32), (0 : Int32)))
  else (
    if x2 = 0 then (
      if x1 < 0 ∨ 6 ≤ x1.toNatClampNeg then none else
      some (v_set x1.toNatClampNeg, (0 : Int32)))
    else (
      if x2 = (1 : Int32) then (
        if x1 < 0 ∨ 6 ≤ x1.toNatClampNeg then none else
        some (v_constant x1.toNatClampNeg, (0 : Int32)))
      else (
        some ((-1 : Int32), (0 : Int32)))))
def f_Md_listAll_l33 (x1 : Int32) (v_allMany : Int32) (v_number : Nat → Int32) (v_allSets : Nat → Int32) (v_allNumbers : Nat → Int32) (x2 : Int32) (x3 : Int32) (x4 : Int32) : Option ((Int32 × Int32 × Int32) ⊕ (Int32)) :=
  if (3 : Int32) ≤ x4 then (
    some (.inr (x2)))
  else (
    if (24 : Int32) ≤ (x3 - x3 / (25 : Int32) * (25 : Int32)) then (
      zlet (x3 / (25 : Int32)) fun y_3 =>
      zlet (x4 + 1) fun y_4 =>
      some (.inl (x2, y_3, y_4)))
    else (
      zlet (x2 ||| ((1 : Int32) <<< ((x3 - x3 / (25 : Int32) * (25 : Int32)) &&& 31))) fun y_5 =>
      zlet (x3 / (25 : Int32)) fun y_6 =>
      zlet (x4 + 1) fun y_7 =>
      some (.inl (y_5, y_6, y_7))))
def f_Md_listAll_l7 (v_number : Nat → Int32) (x1 : Int32) (v_allMany : Int32) (v_allSets : Nat → Int32) (v_allNumbers : Nat → Int32) : Option ((Int32 × Int32 × (Nat → Int32) × (Nat → Int32)) ⊕ (Int32 × (Nat → Int32) × (Nat → Int32))) :=
  if (15625 : Int32) ≤ x1 then (
    some (.inr (v_allMany, v_allSets, v_allNumbers)))
  else (
    if x1 < 0 ∨ 15625 ≤ x1.toNatClampNeg then none else
    if (v_number x1.toNatClampNeg) = 0 then (
      zlet (x1 + 1) fun y_4 =>
      some (.inl (y_4, v_allMany, v_allSets, v_allNumbers)))
    else (
      zb1 (zloop (fun q => f_Md_listAll_l33 x1 v_allMany v_number v_allSets v_allNumbers q.1 q.2.1 q.2.2) zF ((0 : Int32), x1, (0 : Int32))) fun y_5 =>
      if v_allMany < 0 ∨ 2325 ≤ v_allMany.toNatClampNeg then none else
      zlet (upd v_allSets v_allMany.toNatClampNeg y_5) fun u_8 =>
      if x1 < 0 ∨ 15625 ≤ x1.toNatClampNeg then none else
      if v_allMany < 0 ∨ 2325 ≤ v_allMany.toNatClampNeg then none else
      zlet (upd v_allNumbers v_allMany.toNatClampNeg (v_number x1.toNatClampNeg)) fun u_11 =>
      zlet (v_allMany + (1 : Int32)) fun y_12 =>
      zlet (x1 + 1) fun y_13 =>
      some (.inl (y_13, y_12, u_8, u_11))))
/-- PathSumsModel.listAll()V -/
def f_Md_listAll (v_allMany : Int32) (v_number : Nat → Int32) (v_allSets : Nat → Int32) (v_allNumbers : Nat → Int32) : Option (Int32 × (Nat → Int32) × (Nat → Int32)) :=
  zb3 (zloop (fun q => f_Md_listAll_l7 v_number q.1 q.2.1 q.2.2.1 q.2.2.2) zF ((0 : Int32), (0 : Int32), v_allSets, v_allNumbers)) fun q_1 q_2 q_3 =>
  some (q_1, q_2, q_3)
/-- PathSumsModel.parity(I)I -/
def f_Md_parity (x0 : Int32) : Option (Int32) :=
  zb1 (f_Md_count x0) fun r_2 =>
  some (r_2 &&& (1 : Int32))
def f_Md_isOutput_l2 (x1 : Int32) (x2 : Int32) (v_wires : Int32) (v_set : Nat → Int32) (v_constant : Nat → Int32) (x3 : Int32) : Option ((Int32) ⊕ ((Unit) ⊕ (Int32))) :=
  if v_wires ≤ x3 then (
    some (.inr (.inl ())))
  else (
    if x3 < 0 ∨ 6 ≤ x3.toNatClampNeg then none else
    zb1 (f_Md_parity (x1 &&& (v_set x3.toNatClampNeg))) fun r_4 =>
    if x3 < 0 ∨ 6 ≤ x3.toNatClampNeg then none else
    if (r_4 ^^^ (v_constant x3.toNatClampNeg)) = ((x2 >>> (x3 &&& 31)) &&& (1 : Int32)) then (
      zlet (x3 + 1) fun y_7 =>
      some (.inl (y_7)))
    else (
      some (.inr (.inr (0 : Int32)))))
/-- PathSumsModel.isOutput(II)Z -/
def f_Md_isOutput (x1 : Int32) (x2 : Int32) (v_wires : Int32) (v_set : Nat → Int32) (v_constant : Nat → Int32) : Option (Int32) :=
  zr0 (zloop (fun q => f_Md_isOutput_l2 x1 x2 v_wires v_set v_constant q) zF ((0 : Int32))) <|
  some (1 : Int32)
def f_Md_phaseOf_l4 (x1 : Int32) (v_allMany : Int32) (v_allSets : Nat → Int32) (v_allNumbers : Nat → Int32) (x2 : Int32) (x3 : Int32) : Option ((Int32 × Int32) ⊕ (Int32)) :=
  if v_allMany ≤ x3 then (
    some (.inr (x2)))
  else (
    if x3 < 0 ∨ 2325 ≤ x3.toNatClampNeg then none else
    if x3 < 0 ∨ 2325 ≤ x3.toNatClampNeg then none else
    if ((v_allSets x3.toNatClampNeg) &&& x1) = (v_allSets x3.toNatClampNeg) then (
      if x3 < 0 ∨ 2325 ≤ x3.toNatClampNeg then none else
      zlet (x2 + (v_allNumbers x3.toNatClampNeg)) fun y_6 =>
      zlet (x3 + 1) fun y_7 =>
      some (.inl (y_6, y_7)))
    else (
      zlet (x2 + (0 : Int32)) fun y_8 =>
      zlet (x3 + 1) fun y_9 =>
      some (.inl (y_8, y_9))))
/-- PathSumsModel.phaseOf(I)I -/
def f_Md_phaseOf (x1 : Int32) (v_allMany : Int32) (v_allSets : Nat → Int32) (v_allNumbers : Nat → Int32) : Option (Int32) :=
  zb1 (zloop (fun q => f_Md_phaseOf_l4 x1 v_allMany v_allSets v_allNumbers q.1 q.2) zF ((0 : Int32), (0 : Int32))) fun y_1 =>
  some (y_1 &&& (7 : Int32))
def f_Md_spread_l7 (x1 : Int32) (x2 : Int32) (x3 : Int32) (x4 : Int32) : Option ((Int32 × Int32 × Int32) ⊕ (Int32)) :=
  if (24 : Int32) ≤ x4 then (
    some (.inr (x2)))
  else (
    if ((x1 >>> (x4 &&& 31)) &&& (1 : Int32)) = 0 then (
      zlet (x4 + 1) fun y_3 =>
      some (.inl (x2, x3, y_3)))
    else (
      zlet (x2 ||| ((x3 &&& (1 : Int32)) <<< (x4 &&& 31))) fun y_4 =>
      zlet (x3 >>> ((1 : Int32) &&& 31)) fun y_5 =>
      zlet (x4 + 1) fun y_6 =>
      some (.inl (y_4, y_5, y_6))))
/-- PathSumsModel.spread(II)I -/
def f_Md_spread (x0 : Int32) (x1 : Int32) : Option (Int32) :=
  zb1 (zloop (fun q => f_Md_spread_l7 x1 q.1 q.2.1 q.2.2) zF ((0 : Int32), x0, (0 : Int32))) fun y_1 =>
  some y_1
/-- PathSumsModel.timesRoot()V -/
def f_Md_timesRoot (v_root : Nat → Int64) : (Nat → Int64) :=
  zlet (v_root (0 : Int32).toNatClampNeg) fun y_1 =>
  zlet (v_root (1 : Int32).toNatClampNeg) fun y_2 =>
  zlet (v_root (2 : Int32).toNatClampNeg) fun y_3 =>
  zlet (v_root (3 : Int32).toNatClampNeg) fun y_4 =>
  zlet (vp_updL v_root (0 : Int32).toNatClampNeg (y_2 - y_4)) fun u_5 =>
  zlet (vp_updL u_5 (1 : Int32).toNatClampNeg (y_1 + y_3)) fun u_6 =>
  zlet (vp_updL u_6 (2 : Int32).toNatClampNeg (y_2 + y_4)) fun u_7 =>
  zlet (vp_updL u_7 (3 : Int32).toNatClampNeg (y_3 - y_1)) fun u_8 =>
  u_8
def f_Md_byRoot_l52 (x1 : Int32) (v_root : Nat → Int64) : Option ((Int32 × (Nat → Int64)) ⊕ ((Nat → Int64))) :=
  if (4 : Int32) ≤ x1 then (
    some (.inr (v_root)))
  else (
    if x1 < 0 ∨ 5 ≤ x1.toNatClampNeg then none else
    if x1 < 0 ∨ 5 ≤ x1.toNatClampNeg then none else
    zlet (vp_updL v_root x1.toNatClampNeg ((v_root x1.toNatClampNeg) / (2 : Int64))) fun u_4 =>
    zlet (x1 + 1) fun y_5 =>
    some (.inl (y_5, u_4)))
/-- PathSumsModel.byRoot()Z -/
def f_Md_byRoot (v_root : Nat → Int64) : Option (Int32 × (Nat → Int64)) :=
  if (lg_cmp (((v_root (0 : Int32).toNatClampNeg) + (v_root (2 : Int32).toNatClampNeg)) - ((v_root (0 : Int32).toNatClampNeg) + (v_root (2 : Int32).toNatClampNeg)) / (2 : Int64) * (2 : Int64)) (0 : Int64)) = 0 then (
    if (lg_cmp (((v_root (1 : Int32).toNatClampNeg) + (v_root (3 : Int32).toNatClampNeg)) - ((v_root (1 : Int32).toNatClampNeg) + (v_root (3 : Int32).toNatClampNeg)) / (2 : Int64) * (2 : Int64)) (0 : Int64)) = 0 then (
      zl1 (f_Md_timesRoot v_root) fun q_4 =>
      zb1 (zloop (fun q => f_Md_byRoot_l52 q.1 q.2) zF ((0 : Int32), q_4)) fun q_5 =>
      some ((1 : Int32), q_5))
    else (
      some ((0 : Int32), v_root)))
  else (
    some ((0 : Int32), v_root))
def f_Md_settle_l11 (v_halves : Int32) (v_root : Nat → Int64) : Option (((Nat → Int64)) ⊕ ((Nat → Int64))) :=
  if 0 ≤ (lg_cmp (v_root (4 : Int32).toNatClampNeg) (0 : Int64)) then (
    some (.inr (v_root)))
  else (
    zl1 (f_Md_timesRoot v_root) fun q_3 =>
    zlet (vp_updL q_3 (4 : Int32).toNatClampNeg ((q_3 (4 : Int32).toNatClampNeg) + (1 : Int64))) fun u_4 =>
    some (.inl (u_4)))
def f_Md_settle_l100 (v_halves : Int32) (v_root : Nat → Int64) : Option (((Nat → Int64)) ⊕ ((Nat → Int64))) :=
  if (lg_cmp (v_root (4 : Int32).toNatClampNeg) (0 : Int64)) ≤ 0 then (
    some (.inr (v_root)))
  else (
    zb2 (f_Md_byRoot v_root) fun r_3 q_4 =>
    if r_3 = 0 then (
      some (.inr (q_4)))
    else (
      zlet (vp_updL q_4 (4 : Int32).toNatClampNeg ((q_4 (4 : Int32).toNatClampNeg) - (1 : Int64))) fun u_6 =>
      some (.inl (u_6))))
def f_Md_settle_j88 (t0 : Int32) (v_halves : Int32) (v_root : Nat → Int64) : Option ((Nat → Int64)) :=
  if t0 = 0 then (
    zb1 (zloop (fun q => f_Md_settle_l100 v_halves q) zF (v_root)) fun q_2 =>
    some q_2)
  else (
    zlet (vp_updL v_root (4 : Int32).toNatClampNeg (0 : Int64)) fun u_4 =>
    zb1 (zloop (fun q => f_Md_settle_l100 v_halves q) zF (u_4)) fun q_5 =>
    some q_5)
def f_Md_settle_j87 (v_halves : Int32) (v_root : Nat → Int64) : Option ((Nat → Int64)) :=
  f_Md_settle_j88 (0 : Int32) v_halves v_root
/-- PathSumsModel.settle()V -/
def f_Md_settle (v_halves : Int32) (v_root : Nat → Int64) : Option ((Nat → Int64)) :=
  zlet (vp_updL v_root (4 : Int32).toNatClampNeg (v_halves.toInt64)) fun u_1 =>
  zb1 (zloop (fun q => f_Md_settle_l11 v_halves q) zF (u_1)) fun q_2 =>
  if (lg_cmp (q_2 (0 : Int32).toNatClampNeg) (0 : Int64)) = 0 then (
    if (lg_cmp (q_2 (1 : Int32).toNatClampNeg) (0 : Int64)) = 0 then (
      if (lg_cmp (q_2 (2 : Int32).toNatClampNeg) (0 : Int64)) = 0 then (
        if (lg_cmp (q_2 (3 : Int32).toNatClampNeg) (0 : Int64)) = 0 then (
          f_Md_settle_j88 (1 : Int32) v_halves q_2)
        else (
          f_Md_settle_j87 v_halves q_2))
      else (
        f_Md_settle_j87 v_halves q_2))
    else (
      f_Md_settle_j87 v_halves q_2))
  else (
    f_Md_settle_j87 v_halves q_2)
/-- PathSumsModel.raise(I)J -/
def f_Md_raise (x1 : Int32) (v_thrown : Int32) : Int64 × Int32 :=
  ((0 : Int64), x1)
def f_Md_value_l99 (x1 : Int32) (x2 : Int32) (x3 : Int32) (x5 : Int32) (v_thrown : Int32) (v_wires : Int32) (v_isOpen : Int32) (v_isEmpty : Int32) (v_there : Int32) (v_halves : Int32) (v_allMany : Int32) (v_number : Nat → Int32) (v_allSets : Nat → Int32) (v_allNumbers : Nat → Int32) (v_set : Nat → Int32) (v_constant : Nat → Int32) (x6 : Int32) (v_root : Nat → Int64) : Option ((Int32 × (Nat → Int64)) ⊕ ((Nat → Int64))) :=
  if (5 : Int32) ≤ x6 then (
    some (.inr (v_root)))
  else (
    if x6 < 0 ∨ 5 ≤ x6.toNatClampNeg then none else
    zlet (vp_updL v_root x6.toNatClampNeg (0 : Int64)) fun u_3 =>
    zlet (x6 + 1) fun y_4 =>
    some (.inl (y_4, u_3)))
def f_Md_value_l126 (x1 : Int32) (x2 : Int32) (x3 : Int32) (x5 : Int32) (v_thrown : Int32) (v_wires : Int32) (v_isOpen : Int32) (v_isEmpty : Int32) (v_there : Int32) (v_halves : Int32) (v_allMany : Int32) (v_number : Nat → Int32) (v_allSets : Nat → Int32) (v_allNumbers : Nat → Int32) (v_set : Nat → Int32) (v_constant : Nat → Int32) (x6 : Int32) (v_root : Nat → Int64) : Option ((Int32 × (Nat → Int64)) ⊕ ((Nat → Int64))) :=
  zb1 (f_Md_count x5) fun r_2 =>
  if ((1 : Int32) <<< (r_2 &&& 31)) ≤ x6 then (
    some (.inr (v_root)))
  else (
    if v_isEmpty = 0 then (
      zb1 (f_Md_spread x6 x5) fun r_6 =>
      if v_isOpen = 0 then (
        zlet (r_6 ||| (0 : Int32)) fun y_8 =>
        zb1 (f_Md_isOutput y_8 x2 v_wires v_set v_constant) fun r_10 =>
        if r_10 = 0 then (
          zlet (x6 + 1) fun y_12 =>
          some (.inl (y_12, v_root)))
        else (
          zb1 (f_Md_phaseOf y_8 v_allMany v_allSets v_allNumbers) fun r_14 =>
          if (r_14 &&& (3 : Int32)) < 0 ∨ 5 ≤ (r_14 &&& (3 : Int32)).toNatClampNeg then none else
          if (4 : Int32) ≤ r_14 then (
            if (r_14 &&& (3 : Int32)) < 0 ∨ 5 ≤ (r_14 &&& (3 : Int32)).toNatClampNeg then none else
            zlet (vp_updL v_root (r_14 &&& (3 : Int32)).toNatClampNeg ((v_root (r_14 &&& (3 : Int32)).toNatClampNeg) + (-1 : Int64))) fun u_18 =>
            zlet (x6 + 1) fun y_19 =>
            some (.inl (y_19, u_18)))
          else (
            if (r_14 &&& (3 : Int32)) < 0 ∨ 5 ≤ (r_14 &&& (3 : Int32)).toNatClampNeg then none else
            zlet (vp_updL v_root (r_14 &&& (3 : Int32)).toNatClampNeg ((v_root (r_14 &&& (3 : Int32)).toNatClampNeg) + (1 : Int64))) fun u_21 =>
            zlet (x6 + 1) fun y_22 =>
            some (.inl (y_22, u_21)))))
      else (
        zlet (r_6 ||| x1) fun y_23 =>
        zb1 (f_Md_isOutput y_23 x2 v_wires v_set v_constant) fun r_25 =>
        if r_25 = 0 then (
          zlet (x6 + 1) fun y_27 =>
          some (.inl (y_27, v_root)))
        else (
          zb1 (f_Md_phaseOf y_23 v_allMany v_allSets v_allNumbers) fun r_29 =>
          if (r_29 &&& (3 : Int32)) < 0 ∨ 5 ≤ (r_29 &&& (3 : Int32)).toNatClampNeg then none else
          if (4 : Int32) ≤ r_29 then (
            if (r_29 &&& (3 : Int32)) < 0 ∨ 5 ≤ (r_29 &&& (3 : Int32)).toNatClampNeg then none else
            zlet (vp_updL v_root (r_29 &&& (3 : Int32)).toNatClampNeg ((v_root (r_29 &&& (3 : Int32)).toNatClampNeg) + (-1 : Int64))) fun u_33 =>
            zlet (x6 + 1) fun y_34 =>
            some (.inl (y_34, u_33)))
          else (
            if (r_29 &&& (3 : Int32)) < 0 ∨ 5 ≤ (r_29 &&& (3 : Int32)).toNatClampNeg then none else
            zlet (vp_updL v_root (r_29 &&& (3 : Int32)).toNatClampNeg ((v_root (r_29 &&& (3 : Int32)).toNatClampNeg) + (1 : Int64))) fun u_36 =>
            zlet (x6 + 1) fun y_37 =>
            some (.inl (y_37, u_36))))))
    else (
      some (.inr (v_root))))
def f_Md_value_j49 (x1 : Int32) (x2 : Int32) (x3 : Int32) (t0 : Int32) (v_thrown : Int32) (v_wires : Int32) (v_isOpen : Int32) (v_isEmpty : Int32) (v_there : Int32) (v_halves : Int32) (v_allMany : Int32) (v_root : Nat → Int64) (v_number : Nat → Int32) (v_allSets : Nat → Int32) (v_allNumbers : Nat → Int32) (v_set : Nat → Int32) (v_constant : Nat → Int32) : Option (Int64 × Int32 × Int32 × (Nat → Int64) × (Nat → Int32) × (Nat → Int32)) :=
  if t0 = 0 then (
    zl2 (f_Md_raise (1 : Int32) v_thrown) fun r_3 q_4 =>
    some (r_3, q_4, v_allMany, v_root, v_allSets, v_allNumbers))
  else (
    zlet (v_there &&& ((f_Md_inputs v_wires v_isOpen) ^^^ (-1 : Int32))) fun y_6 =>
    zb1 (f_Md_count y_6) fun r_8 =>
    if r_8 ≤ (12 : Int32) then (
      zb1 (zloop (fun q => f_Md_value_l99 x1 x2 x3 y_6 (0 : Int32) v_wires v_isOpen v_isEmpty v_there v_halves v_allMany v_number v_allSets v_allNumbers v_set v_constant q.1 q.2) zF ((0 : Int32), v_root)) fun q_10 =>
      zb3 (f_Md_listAll v_allMany v_number v_allSets v_allNumbers) fun q_13 q_14 q_15 =>
      zb1 (zloop (fun q => f_Md_value_l126 x1 x2 x3 y_6 (0 : Int32) v_wires v_isOpen v_isEmpty v_there v_halves q_13 v_number q_14 q_15 v_set v_constant q.1 q.2) zF ((0 : Int32), q_10)) fun q_16 =>
      zb1 (f_Md_settle v_halves q_16) fun q_19 =>
      if x3 < 0 ∨ 5 ≤ x3.toNatClampNeg then none else
      some (q_19 x3.toNatClampNeg, (0 : Int32), q_13, q_19, q_14, q_15))
    else (
      zl2 (f_Md_raise (2 : Int32) v_thrown) fun r_22 q_23 =>
      some (r_22, q_23, v_allMany, v_root, v_allSets, v_allNumbers)))
def f_Md_value_j48 (x1 : Int32) (x2 : Int32) (x3 : Int32) (v_thrown : Int32) (v_wires : Int32) (v_isOpen : Int32) (v_isEmpty : Int32) (v_there : Int32) (v_halves : Int32) (v_allMany : Int32) (v_root : Nat → Int64) (v_number : Nat → Int32) (v_allSets : Nat → Int32) (v_allNumbers : Nat → Int32) (v_set : Nat → Int32) (v_constant : Nat → Int32) : Option (Int64 × Int32 × Int32 × (Nat → Int64) × (Nat → Int32) × (Nat → Int32)) :=
  f_Md_value_j49 x1 x2 x3 (0 : Int32) v_thrown v_wires v_isOpen v_isEmpty v_there v_halves v_allMany v_root v_number v_allSets v_allNumbers v_set v_constant
def f_Md_value_j44 (x1 : Int32) (x2 : Int32) (x3 : Int32) (v_thrown : Int32) (v_wires : Int32) (v_isOpen : Int32) (v_isEmpty : Int32) (v_there : Int32) (v_halves : Int32) (v_allMany : Int32) (v_root : Nat → Int64) (v_number : Nat → Int32) (v_allSets : Nat → Int32) (v_allNumbers : Nat → Int32) (v_set : Nat → Int32) (v_constant : Nat → Int32) : Option (Int64 × Int32 × Int32 × (Nat → Int64) × (Nat → Int32) × (Nat → Int32)) :=
  f_Md_value_j49 x1 x2 x3 (1 : Int32) v_thrown v_wires v_isOpen v_isEmpty v_there v_halves v_allMany v_root v_number v_allSets v_allNumbers v_set v_constant
/-- PathSumsModel.value(III)J -/
def f_Md_value (x1 : Int32) (x2 : Int32) (x3 : Int32) (v_thrown : Int32) (v_wires : Int32) (v_isOpen : Int32) (v_isEmpty : Int32) (v_there : Int32) (v_halves : Int32) (v_allMany : Int32) (v_root : Nat → Int64) (v_number : Nat → Int32) (v_allSets : Nat → Int32) (v_allNumbers : Nat → Int32) (v_set : Nat → Int32) (v_constant : Nat → Int32) : Option (Int64 × Int32 × Int32 × (Nat → Int64) × (Nat → Int32) × (Nat → Int32)) :=
  if x2 < 0 then (
    f_Md_value_j48 x1 x2 x3 v_thrown v_wires v_isOpen v_isEmpty v_there v_halves v_allMany v_root v_number v_allSets v_allNumbers v_set v_constant)
  else (
    if ((1 : Int32) <<< (v_wires &&& 31)) ≤ x2 then (
      f_Md_value_j48 x1 x2 x3 v_thrown v_wires v_isOpen v_isEmpty v_there v_halves v_allMany v_root v_number v_allSets v_allNumbers v_set v_constant)
    else (
      if x3 < 0 then (
        f_Md_value_j48 x1 x2 x3 v_thrown v_wires v_isOpen v_isEmpty v_there v_halves v_allMany v_root v_number v_allSets v_allNumbers v_set v_constant)
      else (
        if (4 : Int32) < x3 then (
          f_Md_value_j48 x1 x2 x3 v_thrown v_wires v_isOpen v_isEmpty v_there v_halves v_allMany v_root v_number v_allSets v_allNumbers v_set v_constant)
        else (
          if v_isOpen = 0 then (
            f_Md_value_j44 x1 x2 x3 v_thrown v_wires v_isOpen v_isEmpty v_there v_halves v_allMany v_root v_number v_allSets v_allNumbers v_set v_constant)
          else (
            if x1 < 0 then (
              f_Md_value_j48 x1 x2 x3 v_thrown v_wires v_isOpen v_isEmpty v_there v_halves v_allMany v_root v_number v_allSets v_allNumbers v_set v_constant)
            else (
              if ((1 : Int32) <<< (v_wires &&& 31)) ≤ x1 then (
                f_Md_value_j48 x1 x2 x3 v_thrown v_wires v_isOpen v_isEmpty v_there v_halves v_allMany v_root v_number v_allSets v_allNumbers v_set v_constant)
              else (
                f_Md_value_j44 x1 x2 x3 v_thrown v_wires v_isOpen v_isEmpty v_there v_halves v_allMany v_root v_number v_allSets v_allNumbers v_set v_constant)))))))
/-- PathSumsModel.total(I)I -/
def f_Md_total (x1 : Int32) (v_thrown : Int32) (v_wires : Int32) (v_isOpen : Int32) (v_isEmpty : Int32) (v_came : Int32) (v_there : Int32) (v_rules : Int32) (v_allMany : Int32) (v_number : Nat → Int32) (v_allSets : Nat → Int32) (v_allNumbers : Nat → Int32) : Option (Int32 × Int32 × Int32 × (Nat → Int32) × (Nat → Int32)) :=
  if x1 = 0 then (
    some (v_wires, (0 : Int32), v_allMany, v_allSets, v_allNumbers))
  else (
  if x1 = 1 then (
    some (v_there, (0 : Int32), v_allMany, v_allSets, v_allNumbers))
  else (
  if x1 = 2 then (
    some (v_came, (0 : Int32), v_allMany, v_allSets, v_allNumbers))
  else (
  if x1 = 3 then (
    zb3 (f_Md_listAll v_allMany v_number v_allSets v_allNumbers) fun q_6 q_7 q_8 =>
    some (q_6, (0 : Int32), q_6, q_7, q_8))
  else (
  if x1 = 4 then (
    some (v_rules, (0 : Int32), v_allMany, v_allSets, v_allNumbers))
  else (
  if x1 = 5 then (
    if v_isEmpty = 0 then (
      some ((0 : Int32), (0 : Int32), v_allMany, v_allSets, v_allNumbers))
    else (
      some ((1 : Int32), (0 : Int32), v_allMany, v_allSets, v_allNumbers)))
  else (
  if x1 = 6 then (
    if v_isOpen = 0 then (
      some ((0 : Int32), (0 : Int32), v_allMany, v_allSets, v_allNumbers))
    else (
      some ((1 : Int32), (0 : Int32), v_allMany, v_allSets, v_allNumbers)))
  else (
  some ((-1 : Int32), (0 : Int32), v_allMany, v_allSets, v_allNumbers))))))))
/-- PathSumsModel.halves()I -/
def f_Md_halves (v_thrown : Int32) (v_halves : Int32) : Int32 × Int32 :=
  (v_halves, (0 : Int32))
