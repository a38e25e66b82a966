def rm_Ps_has : Room := { frames := 0, cells := 0, slots := 0, locals := 0 }
/-- PathSums.has(II)Z -/
def f_Ps_has (x0 : Int32) (x1 : Int32) : Int32 :=
  if ((zushr x0 x1) &&& (1 : Int32)) = 0 then (
    (0 : Int32))
  else (
    (1 : Int32))
set_option maxRecDepth 100000 in
set_option maxHeartbeats 4000000 in
theorem k_Ps_has {p : Program} {l : Launch} {e : Env} {s : State} {m : MethodId} {args : Array Value} {below : List Frame} {meth : Method} {c : Code} {D : va_G} {cI cL : ClassId} {rr x0 x1 : Int32} (C : zC p s m args meth c b_Ps_has 2 R_Ps D vwCl [(cI, .int), (cL, .long)] (zA [] s.heap.size)) (hr : meth.sig.returnType = some .boolean) (hf : f_Ps_has x0 x1 = rr) : ZV p l e rm_Ps_has s m args below meth c 2 D (some (.int rr)) [] [] [] 0 [(0, .int x0), (1, .int x1)] [] := by
  unfold f_Ps_has at hf
  refine z_iload_n C d_Ps_has_0 rfl 0 rfl ?_
  refine z_iload_n C d_Ps_has_1 rfl 1 rfl ?_
  refine z_iushr C d_Ps_has_2 ?_
  refine z_iconst (v := 1) C d_Ps_has_3 (by decide) ?_
  refine z_iand C d_Ps_has_4 ?_
  refine z_if_eq (tgt := 12) C d_Ps_has_5 (by decide) (fun c_1 => ?_) (fun c_1 => ?_)
  · have hf := zif_pos c_1 hf
    refine z_iconst (v := 0) C d_Ps_has_12 (by decide) ?_
    subst hf
    exact z_zret C hr rfl d_Ps_has_13
  · have hf := zif_neg c_1 hf
    refine z_iconst (v := 1) C d_Ps_has_8 (by decide) ?_
    refine z_goto (tgt := 13) C d_Ps_has_9 (by decide) ?_
    subst hf
    exact z_zret C hr rfl d_Ps_has_13
theorem c_Ps_has {l : Launch} {D : va_G} {cI cL : ClassId} {rr x0 x1 : Int32} (hf : f_Ps_has x0 x1 = rr) : zM l y_Ps_has (Cond.code y_Ps_has b_Ps_has 2 (some .boolean) :: zT) rm_Ps_has D vwCl [(cI, .int), (cL, .long)] [.int x0, .int x1] [] [] (some (.int rr)) :=
  zM.intro (by decide) rfl (fun _ h => List.mem_cons_of_mem _ h) (Nat.le_of_ble_eq_true rfl) (fun _ _ _ _ _ _ _ C hr _ => k_Ps_has C hr hf)
def rm_Po_placeOf : Room := { frames := 1, cells := 0, slots := 0, locals := 20 }
/-- PathSums$Polynomial.placeOf(I)I -/
def f_Po_placeOf (x0 : Int32) : Int32 :=
  zlet (x0 &&& (-x0)) fun y_1 =>
  zlet ((x0 &&& (y_1 ^^^ (-1 : Int32))) &&& (-(x0 &&& (y_1 ^^^ (-1 : Int32))))) fun y_2 =>
  zlet ((x0 &&& (y_1 ^^^ (-1 : Int32))) &&& (y_2 ^^^ (-1 : Int32))) fun y_3 =>
  if x0 < 0 then (
    (-1 : Int32))
  else (
    if (16777215 : Int32) < x0 then (
      (-1 : Int32))
    else (
      if (y_3 &&& (y_3 - (1 : Int32))) = 0 then (
        if x0 = 0 then (
          (0 : Int32))
        else (
          zlet (f_Jint_bitCount (y_1 - (1 : Int32))) fun y_9 =>
          if y_2 = 0 then (
            (1 : Int32) + y_9)
          else (
            zlet (f_Jint_bitCount (y_2 - (1 : Int32))) fun y_12 =>
            zlet (((y_12 * (y_12 - (1 : Int32))) / (2 : Int32)) + y_9) fun y_13 =>
            if y_3 = 0 then (
              (25 : Int32) + y_13)
            else (
              zlet (f_Jint_bitCount (y_3 - (1 : Int32))) fun y_16 =>
              ((301 : Int32) + (((y_16 * (y_16 - (1 : Int32))) * (y_16 - (2 : Int32))) / (6 : Int32))) + y_13))))
      else (
        (-1 : Int32))))
set_option maxRecDepth 100000 in
set_option maxHeartbeats 4000000 in
theorem k_Po_placeOf {p : Program} {l : Launch} {e : Env} {s : State} {m : MethodId} {args : Array Value} {below : List Frame} {meth : Method} {c : Code} {D : va_G} {cI cL : ClassId} {rr x0 : Int32} (C : zC p s m args meth c b_Po_placeOf 8 R_Po D vwCl [(cI, .int), (cL, .long)] (zA [] s.heap.size)) (hr : meth.sig.returnType = some .int) (hf : f_Po_placeOf x0 = rr) : ZV p l e rm_Po_placeOf s m args below meth c 8 D (some (.int rr)) [] [] [] 0 [(0, .int x0)] [] := by
  unfold f_Po_placeOf at hf
  refine z_iload_n C d_Po_placeOf_0 rfl 0 rfl ?_
  refine z_iload_n C d_Po_placeOf_1 rfl 0 rfl ?_
  refine z_ineg C d_Po_placeOf_2 ?_
  refine z_iand C d_Po_placeOf_3 ?_
  refine z_topi (fun y_1 ey_1 => ?_)
  have hf := zlet_at ey_1 hf
  refine z_istore_n (lv' := [(1, .int y_1), (0, .int x0)]) C d_Po_placeOf_4 rfl (by decide) rfl ?_
  refine z_iload_n C d_Po_placeOf_5 rfl 1 rfl ?_
  refine z_iload_n C d_Po_placeOf_6 rfl 0 rfl ?_
  refine z_iconst (v := -1) C d_Po_placeOf_7 (by decide) ?_
  refine z_ixor C d_Po_placeOf_8 ?_
  refine z_iand C d_Po_placeOf_9 ?_
  refine z_iload_n C d_Po_placeOf_10 rfl 1 rfl ?_
  refine z_iload_n C d_Po_placeOf_11 rfl 0 rfl ?_
  refine z_iconst (v := -1) C d_Po_placeOf_12 (by decide) ?_
  refine z_ixor C d_Po_placeOf_13 ?_
  refine z_iand C d_Po_placeOf_14 ?_
  refine z_ineg C d_Po_placeOf_15 ?_
  refine z_iand C d_Po_placeOf_16 ?_
  refine z_topi (fun y_2 ey_2 => ?_)
  have hf := zlet_at ey_2 hf
  refine z_istore_n (lv' := [(2, .int y_2), (1, .int y_1), (0, .int x0)]) C d_Po_placeOf_17 rfl (by decide) rfl ?_
  refine z_iload_n C d_Po_placeOf_18 rfl 2 rfl ?_
  refine z_iload_n C d_Po_placeOf_19 rfl 1 rfl ?_
  refine z_iconst (v := -1) C d_Po_placeOf_20 (by decide) ?_
  refine z_ixor C d_Po_placeOf_21 ?_
  refine z_iand C d_Po_placeOf_22 ?_
  refine z_iload_n C d_Po_placeOf_23 rfl 0 rfl ?_
  refine z_iconst (v := -1) C d_Po_placeOf_24 (by decide) ?_
  refine z_ixor C d_Po_placeOf_25 ?_
  refine z_iand C d_Po_placeOf_26 ?_
  refine z_topi (fun y_3 ey_3 => ?_)
  have hf := zlet_at ey_3 hf
  refine z_istore_n (lv' := [(3, .int y_3), (2, .int y_2), (1, .int y_1), (0, .int x0)]) C d_Po_placeOf_27 rfl (by decide) rfl ?_
  refine z_iload_n C d_Po_placeOf_28 rfl 3 rfl ?_
  refine z_if_lt (tgt := 46) C d_Po_placeOf_29 (by decide) (fun c_4 => ?_) (fun c_4 => ?_)
  · have hf := zif_pos c_4 hf
    refine z_iconst (v := -1) C d_Po_placeOf_46 (by decide) ?_
    subst hf
    exact z_iret C hr d_Po_placeOf_47
  · have hf := zif_neg c_4 hf
    refine z_iload_n C d_Po_placeOf_32 rfl 3 rfl ?_
    refine z_ldc (v := 16777215) C zw_238 d_Po_placeOf_33 ?_
    refine z_icmp_gt (tgt := 46) C d_Po_placeOf_35 (by decide) (fun c_5 => ?_) (fun c_5 => ?_)
    · have hf := zif_pos c_5 hf
      refine z_iconst (v := -1) C d_Po_placeOf_46 (by decide) ?_
      subst hf
      exact z_iret C hr d_Po_placeOf_47
    · have hf := zif_neg c_5 hf
      refine z_iload_n C d_Po_placeOf_38 rfl 0 rfl ?_
      refine z_iload_n C d_Po_placeOf_39 rfl 0 rfl ?_
      refine z_iconst (v := 1) C d_Po_placeOf_40 (by decide) ?_
      refine z_isub C d_Po_placeOf_41 ?_
      refine z_iand C d_Po_placeOf_42 ?_
      refine z_if_eq (tgt := 48) C d_Po_placeOf_43 (by decide) (fun c_6 => ?_) (fun c_6 => ?_)
      · have hf := zif_pos c_6 hf
        refine z_iload_n C d_Po_placeOf_48 rfl 3 rfl ?_
        refine z_if_ne (tgt := 54) C d_Po_placeOf_49 (by decide) (fun c_7 => ?_) (fun c_7 => ?_)
        · have hf := zif_neg c_7 hf
          refine z_iload_n C d_Po_placeOf_54 rfl 2 rfl ?_
          refine z_iconst (v := 1) C d_Po_placeOf_55 (by decide) ?_
          refine z_isub C d_Po_placeOf_56 ?_
          refine z_callS (As := [.int (y_1 - (1 : Int32))]) (rest := []) (ws' := []) C (c_Jint_bitCount rfl) mi_Jint_bitCount zw_239 (by decide) [] (by decide) rfl rfl rfl rfl rfl (by decide) ⟨Nat.zero_le _, Nat.zero_le _⟩ d_Po_placeOf_57 ?_
          refine z_topi (fun y_9 ey_9 => ?_)
          have hf := zlet_at ey_9 hf
          refine z_istore (lv' := [(4, .int y_9), (3, .int y_3), (2, .int y_2), (1, .int y_1), (0, .int x0)]) C d_Po_placeOf_60 (by decide) rfl ?_
          refine z_iload_n C d_Po_placeOf_62 rfl 2 rfl ?_
          refine z_if_ne (tgt := 71) C d_Po_placeOf_63 (by decide) (fun c_10 => ?_) (fun c_10 => ?_)
          · have hf := zif_neg c_10 hf
            refine z_iload_n C d_Po_placeOf_71 rfl 2 rfl ?_
            refine z_iconst (v := 1) C d_Po_placeOf_72 (by decide) ?_
            refine z_isub C d_Po_placeOf_73 ?_
            refine z_callS (As := [.int (y_2 - (1 : Int32))]) (rest := []) (ws' := []) C (c_Jint_bitCount rfl) mi_Jint_bitCount zw_239 (by decide) [] (by decide) rfl rfl rfl rfl rfl (by decide) ⟨Nat.zero_le _, Nat.zero_le _⟩ d_Po_placeOf_74 ?_
            refine z_topi (fun y_12 ey_12 => ?_)
            have hf := zlet_at ey_12 hf
            refine z_istore (lv' := [(5, .int y_12), (4, .int y_9), (3, .int y_3), (2, .int y_2), (1, .int y_1), (0, .int x0)]) C d_Po_placeOf_77 (by decide) rfl ?_
            refine z_iload C d_Po_placeOf_79 0 rfl ?_
            refine z_iload C d_Po_placeOf_81 0 rfl ?_
            refine z_iconst (v := 1) C d_Po_placeOf_83 (by decide) ?_
            refine z_isub C d_Po_placeOf_84 ?_
            refine z_imul C d_Po_placeOf_85 ?_
            refine z_iconst (v := 2) C d_Po_placeOf_86 (by decide) ?_
            refine z_idiv C d_Po_placeOf_87 (by decide) ?_
            refine z_iload C d_Po_placeOf_88 1 rfl ?_
            refine z_iadd C d_Po_placeOf_90 ?_
            refine z_topi (fun y_13 ey_13 => ?_)
            have hf := zlet_at ey_13 hf
            refine z_istore (lv' := [(6, .int y_13), (5, .int y_12), (4, .int y_9), (3, .int y_3), (2, .int y_2), (1, .int y_1), (0, .int x0)]) C d_Po_placeOf_91 (by decide) rfl ?_
            refine z_iload_n C d_Po_placeOf_93 rfl 3 rfl ?_
            refine z_if_ne (tgt := 103) C d_Po_placeOf_94 (by decide) (fun c_14 => ?_) (fun c_14 => ?_)
            · have hf := zif_neg c_14 hf
              refine z_iload_n C d_Po_placeOf_103 rfl 3 rfl ?_
              refine z_iconst (v := 1) C d_Po_placeOf_104 (by decide) ?_
              refine z_isub C d_Po_placeOf_105 ?_
              refine z_callS (As := [.int (y_3 - (1 : Int32))]) (rest := []) (ws' := []) C (c_Jint_bitCount rfl) mi_Jint_bitCount zw_239 (by decide) [] (by decide) rfl rfl rfl rfl rfl (by decide) ⟨Nat.zero_le _, Nat.zero_le _⟩ d_Po_placeOf_106 ?_
              refine z_topi (fun y_16 ey_16 => ?_)
              have hf := zlet_at ey_16 hf
              refine z_istore (lv' := [(7, .int y_16), (6, .int y_13), (5, .int y_12), (4, .int y_9), (3, .int y_3), (2, .int y_2), (1, .int y_1), (0, .int x0)]) C d_Po_placeOf_109 (by decide) rfl ?_
              refine z_sipush (v := 301) C d_Po_placeOf_111 (by decide) ?_
              refine z_iload C d_Po_placeOf_114 0 rfl ?_
              refine z_iload C d_Po_placeOf_116 0 rfl ?_
              refine z_iconst (v := 1) C d_Po_placeOf_118 (by decide) ?_
              refine z_isub C d_Po_placeOf_119 ?_
              refine z_imul C d_Po_placeOf_120 ?_
              refine z_iload C d_Po_placeOf_121 0 rfl ?_
              refine z_iconst (v := 2) C d_Po_placeOf_123 (by decide) ?_
              refine z_isub C d_Po_placeOf_124 ?_
              refine z_imul C d_Po_placeOf_125 ?_
              refine z_bipush (v := 6) C d_Po_placeOf_126 (by decide) ?_
              refine z_idiv C d_Po_placeOf_128 (by decide) ?_
              refine z_iadd C d_Po_placeOf_129 ?_
              refine z_iload C d_Po_placeOf_130 1 rfl ?_
              refine z_iadd C d_Po_placeOf_132 ?_
              subst hf
              exact z_iret C hr d_Po_placeOf_133
            · have hf := zif_pos c_14 hf
              refine z_bipush (v := 25) C d_Po_placeOf_97 (by decide) ?_
              refine z_iload C d_Po_placeOf_99 0 rfl ?_
              refine z_iadd C d_Po_placeOf_101 ?_
              subst hf
              exact z_iret C hr d_Po_placeOf_102
          · have hf := zif_pos c_10 hf
            refine z_iconst (v := 1) C d_Po_placeOf_66 (by decide) ?_
            refine z_iload C d_Po_placeOf_67 0 rfl ?_
            refine z_iadd C d_Po_placeOf_69 ?_
            subst hf
            exact z_iret C hr d_Po_placeOf_70
        · have hf := zif_pos c_7 hf
          refine z_iconst (v := 0) C d_Po_placeOf_52 (by decide) ?_
          subst hf
          exact z_iret C hr d_Po_placeOf_53
      · have hf := zif_neg c_6 hf
        refine z_iconst (v := -1) C d_Po_placeOf_46 (by decide) ?_
        subst hf
        exact z_iret C hr d_Po_placeOf_47
theorem c_Po_placeOf {l : Launch} {D : va_G} {cI cL : ClassId} {rr x0 : Int32} (hf : f_Po_placeOf x0 = rr) : zM l y_Po_placeOf (Cond.code y_Po_placeOf b_Po_placeOf 8 (some .int) :: zT) rm_Po_placeOf D vwCl [(cI, .int), (cL, .long)] [.int x0] [] [] (some (.int rr)) :=
  zM.intro (by decide) rfl (fun _ h => List.mem_cons_of_mem _ h) (Nat.le_of_ble_eq_true rfl) (fun _ _ _ _ _ _ _ C hr _ => k_Po_placeOf C hr hf)
def rm_Po_numberOf : Room := { frames := 2, cells := 0, slots := 0, locals := 47 }
/-- PathSums$Polynomial.numberOf(I)I -/
def f_Po_numberOf (x1 : Int32) (v_numbers : Nat → Int32) : Option (Int32) :=
  zlet (f_Po_placeOf x1) fun y_2 =>
  if y_2 < 0 then (
    some (0 : Int32))
  else (
    if (2325 : Int32) ≤ y_2 then (
      some (0 : Int32))
    else (
      if y_2 < 0 ∨ 2325 ≤ y_2.toNatClampNeg then none else
      some (v_numbers y_2.toNatClampNeg)))
set_option maxRecDepth 100000 in
set_option maxHeartbeats 4000000 in
theorem k_Po_numberOf {p : Program} {l : Launch} {e : Env} {s : State} {m : MethodId} {args : Array Value} {below : List Frame} {meth : Method} {c : Code} {D : va_G} {cI cL : ClassId} {h_this h_this_numbers : Nat} {v_monomials rr x1 : Int32} {v_numbers : Nat → Int32} (C : zC p s m args meth c b_Po_numberOf 3 R_Po D vwCl [(cI, .int), (cL, .long)] (zA [h_this, h_this_numbers] s.heap.size)) (hr : meth.sig.returnType = some .int) (hf : f_Po_numberOf x1 v_numbers = some rr) : ZV p l e rm_Po_numberOf s m args below meth c 3 D (some (.int rr)) [(h_this, .inr (1, [.ref h_this_numbers, .int v_monomials])), (h_this_numbers, .inl (cI, 2325, .inl v_numbers))] [h_this, h_this_numbers] [(h_this, .inr (1, [.ref h_this_numbers, .int v_monomials])), (h_this_numbers, .inl (cI, 2325, .inl v_numbers))] 0 [(0, .ref h_this), (1, .int x1)] [] := by
  unfold f_Po_numberOf at hf
  refine z_iload_n C d_Po_numberOf_0 rfl 1 rfl ?_
  refine z_callS (As := [.int x1]) (rest := []) (ws' := [(h_this, .inr (1, [.ref h_this_numbers, .int v_monomials])), (h_this_numbers, .inl (cI, 2325, .inl v_numbers))]) C (c_Po_placeOf rfl) mi_Po_placeOf zw_235 (by decide) [] (by decide) rfl rfl rfl rfl rfl (by decide) ⟨Nat.zero_le _, Nat.zero_le _⟩ d_Po_numberOf_1 ?_
  refine z_topi (fun y_2 ey_2 => ?_)
  have hf := zlet_at ey_2 hf
  refine z_istore_n (lv' := [(2, .int y_2), (0, .ref h_this), (1, .int x1)]) C d_Po_numberOf_4 rfl (by decide) rfl ?_
  refine z_iload_n C d_Po_numberOf_5 rfl 0 rfl ?_
  refine z_if_lt (tgt := 25) C d_Po_numberOf_6 (by decide) (fun c_3 => ?_) (fun c_3 => ?_)
  · have hf := zif_pos c_3 hf
    refine z_iconst (v := 0) C d_Po_numberOf_25 (by decide) ?_
    cases hf
    exact z_iret C hr d_Po_numberOf_26
  · have hf := zif_neg c_3 hf
    refine z_iload_n C d_Po_numberOf_9 rfl 0 rfl ?_
    refine z_sipush (v := 2325) C d_Po_numberOf_10 (by decide) ?_
    refine z_icmp_ge (tgt := 25) C d_Po_numberOf_13 (by decide) (fun c_4 => ?_) (fun c_4 => ?_)
    · have hf := zif_pos c_4 hf
      refine z_iconst (v := 0) C d_Po_numberOf_25 (by decide) ?_
      cases hf
      exact z_iret C hr d_Po_numberOf_26
    · have hf := zif_neg c_4 hf
      refine z_aload_n C d_Po_numberOf_16 rfl 1 rfl ?_
      refine z_get C iw_Po 0 rfl rfl 0 (by decide) zw_74 rfl d_Po_numberOf_17 ?_
      refine z_iload_n C d_Po_numberOf_20 rfl 0 rfl ?_
      obtain ⟨g_5, hf⟩ := zguard hf
      refine z_iald C 1 0 rfl rfl g_5 d_Po_numberOf_21 ?_
      refine z_goto (tgt := 26) C d_Po_numberOf_22 (by decide) ?_
      cases hf
      exact z_iret C hr d_Po_numberOf_26
theorem c_Po_numberOf {l : Launch} {D : va_G} {cI cL : ClassId} {h_this h_this_numbers : Nat} {v_monomials rr x1 : Int32} {v_numbers : Nat → Int32} (hf : f_Po_numberOf x1 v_numbers = some rr) : zM l y_Po_numberOf (Cond.code y_Po_numberOf b_Po_numberOf 3 (some .int) :: zT) rm_Po_numberOf D vwCl [(cI, .int), (cL, .long)] [.ref h_this, .int x1] [(h_this, .inr (1, [.ref h_this_numbers, .int v_monomials])), (h_this_numbers, .inl (cI, 2325, .inl v_numbers))] [(h_this, .inr (1, [.ref h_this_numbers, .int v_monomials])), (h_this_numbers, .inl (cI, 2325, .inl v_numbers))] (some (.int rr)) :=
  zM.intro (by decide) rfl (fun _ h => List.mem_cons_of_mem _ h) (Nat.le_of_ble_eq_true rfl) (fun _ _ _ _ _ _ _ C hr _ => k_Po_numberOf C hr hf)
def rm_Po_add : Room := { frames := 2, cells := 0, slots := 0, locals := 47 }
/-- PathSums$Polynomial.add(II)V -/
def f_Po_add (x1 : Int32) (x2 : Int32) (v_monomials : Int32) (v_numbers : Nat → Int32) : Option (Int32 × (Nat → Int32)) :=
  zlet (f_Po_placeOf x1) fun y_2 =>
  if y_2 < 0 then (
    some (v_monomials, v_numbers))
  else (
    if y_2 < (2325 : Int32) then (
      if y_2 < 0 ∨ 2325 ≤ y_2.toNatClampNeg then none else
      zlet (v_numbers y_2.toNatClampNeg) fun y_6 =>
      zlet ((y_6 + x2) &&& (7 : Int32)) fun y_7 =>
      if y_2 < 0 ∨ 2325 ≤ y_2.toNatClampNeg then none else
      zlet (upd v_numbers y_2.toNatClampNeg y_7) fun u_9 =>
      if y_7 = 0 then (
        if y_6 = 0 then (
          zlet (v_monomials + ((0 : Int32) - (0 : Int32))) fun y_12 =>
          some (y_12, u_9))
        else (
          zlet (v_monomials + ((0 : Int32) - (1 : Int32))) fun y_13 =>
          some (y_13, u_9)))
      else (
        if y_6 = 0 then (
          zlet (v_monomials + ((1 : Int32) - (0 : Int32))) fun y_15 =>
          some (y_15, u_9))
        else (
          zlet (v_monomials + ((1 : Int32) - (1 : Int32))) fun y_16 =>
          some (y_16, u_9))))
    else (
      some (v_monomials, v_numbers)))
set_option maxRecDepth 100000 in
set_option maxHeartbeats 4000000 in
theorem k_Po_add {p : Program} {l : Launch} {e : Env} {s : State} {m : MethodId} {args : Array Value} {below : List Frame} {meth : Method} {c : Code} {D : va_G} {cI cL : ClassId} {h_this h_this_numbers : Nat} {v_monomials o_monomials x1 x2 : Int32} {v_numbers o_numbers : Nat → Int32} (C : zC p s m args meth c b_Po_add 6 R_Po D vwCl [(cI, .int), (cL, .long)] (zA [h_this, h_this_numbers] s.heap.size)) (hr : meth.sig.returnType = none) (hf : f_Po_add x1 x2 v_monomials v_numbers = some (o_monomials, o_numbers)) : ZV p l e rm_Po_add s m args below meth c 6 D (none) [(h_this, .inr (1, [.ref h_this_numbers, .int o_monomials])), (h_this_numbers, .inl (cI, 2325, .inl o_numbers))] [h_this, h_this_numbers] [(h_this, .inr (1, [.ref h_this_numbers, .int v_monomials])), (h_this_numbers, .inl (cI, 2325, .inl v_numbers))] 0 [(0, .ref h_this), (1, .int x1), (2, .int x2)] [] := by
  unfold f_Po_add at hf
  refine z_iload_n C d_Po_add_0 rfl 1 rfl ?_
  refine z_callS (As := [.int x1]) (rest := []) (ws' := [(h_this, .inr (1, [.ref h_this_numbers, .int v_monomials])), (h_this_numbers, .inl (cI, 2325, .inl v_numbers))]) C (c_Po_placeOf rfl) mi_Po_placeOf zw_235 (by decide) [] (by decide) rfl rfl rfl rfl rfl (by decide) ⟨Nat.zero_le _, Nat.zero_le _⟩ d_Po_add_1 ?_
  refine z_topi (fun y_2 ey_2 => ?_)
  have hf := zlet_at ey_2 hf
  refine z_istore_n (lv' := [(3, .int y_2), (0, .ref h_this), (1, .int x1), (2, .int x2)]) C d_Po_add_4 rfl (by decide) rfl ?_
  refine z_iload_n C d_Po_add_5 rfl 0 rfl ?_
  refine z_if_lt (tgt := 16) C d_Po_add_6 (by decide) (fun c_3 => ?_) (fun c_3 => ?_)
  · have hf := zif_pos c_3 hf
    cases hf
    exact z_vret C hr d_Po_add_16
  · have hf := zif_neg c_3 hf
    refine z_iload_n C d_Po_add_9 rfl 0 rfl ?_
    refine z_sipush (v := 2325) C d_Po_add_10 (by decide) ?_
    refine z_icmp_lt (tgt := 17) C d_Po_add_13 (by decide) (fun c_4 => ?_) (fun c_4 => ?_)
    · have hf := zif_pos c_4 hf
      refine z_aload_n C d_Po_add_17 rfl 1 rfl ?_
      refine z_get C iw_Po 0 rfl rfl 0 (by decide) zw_74 rfl d_Po_add_18 ?_
      refine z_iload_n C d_Po_add_21 rfl 0 rfl ?_
      obtain ⟨g_5, hf⟩ := zguard hf
      refine z_iald C 1 0 rfl rfl g_5 d_Po_add_22 ?_
      refine z_topi (fun y_6 ey_6 => ?_)
      have hf := zlet_at ey_6 hf
      refine z_istore (lv' := [(4, .int y_6), (3, .int y_2), (0, .ref h_this), (1, .int x1), (2, .int x2)]) C d_Po_add_23 (by decide) rfl ?_
      refine z_iload C d_Po_add_25 0 rfl ?_
      refine z_iload_n C d_Po_add_27 rfl 4 rfl ?_
      refine z_iadd C d_Po_add_28 ?_
      refine z_bipush (v := 7) C d_Po_add_29 (by decide) ?_
      refine z_iand C d_Po_add_31 ?_
      refine z_topi (fun y_7 ey_7 => ?_)
      have hf := zlet_at ey_7 hf
      refine z_istore (lv' := [(5, .int y_7), (4, .int y_6), (3, .int y_2), (0, .ref h_this), (1, .int x1), (2, .int x2)]) C d_Po_add_32 (by decide) rfl ?_
      refine z_aload_n C d_Po_add_34 rfl 3 rfl ?_
      refine z_get C iw_Po 0 rfl rfl 0 (by decide) zw_74 rfl d_Po_add_35 ?_
      refine z_iload_n C d_Po_add_38 rfl 2 rfl ?_
      refine z_iload C d_Po_add_39 0 rfl ?_
      obtain ⟨g_8, hf⟩ := zguard hf
      obtain ⟨u_9, eu_9⟩ : ∃ u : Nat → Int32, u = upd v_numbers y_2.toNatClampNeg y_7 := ⟨_, rfl⟩
      have hf := zlet_at eu_9 hf
      refine z_iast (ws' := [(h_this, .inr (1, [.ref h_this_numbers, .int v_monomials])), (h_this_numbers, .inl (cI, 2325, .inl u_9))]) C 1 0 rfl rfl g_8 d_Po_add_41 (by rw [eu_9]; rfl) ?_
      refine z_aload_n C d_Po_add_42 rfl 3 rfl ?_
      refine z_dup C d_Po_add_43 rfl ?_
      refine z_get C iw_Po 0 rfl rfl 1 (by decide) zw_75 rfl d_Po_add_44 ?_
      refine z_iload C d_Po_add_47 0 rfl ?_
      refine z_if_ne (tgt := 56) C d_Po_add_49 (by decide) (fun c_10 => ?_) (fun c_10 => ?_)
      · have hf := zif_neg c_10 hf
        refine z_iconst (v := 1) C d_Po_add_56 (by decide) ?_
        refine z_iload C d_Po_add_57 1 rfl ?_
        refine z_if_ne (tgt := 66) C d_Po_add_59 (by decide) (fun c_14 => ?_) (fun c_14 => ?_)
        · have hf := zif_neg c_14 hf
          refine z_iconst (v := 1) C d_Po_add_66 (by decide) ?_
          refine z_isub C d_Po_add_67 ?_
          refine z_iadd C d_Po_add_68 ?_
          refine z_topi (fun y_16 ey_16 => ?_)
          have hf := zlet_at ey_16 hf
          refine z_put (ws' := [(h_this, .inr (1, [.ref h_this_numbers, .int y_16])), (h_this_numbers, .inl (cI, 2325, .inl u_9))]) C iw_Po t_Po t_Po_ok n_Po 0 rfl rfl 1 (by decide) zw_75 rfl (ty := .int) rfl rfl rfl (by simp) d_Po_add_69 rfl ?_
          cases hf
          exact z_vret C hr d_Po_add_72
        · have hf := zif_pos c_14 hf
          refine z_iconst (v := 0) C d_Po_add_62 (by decide) ?_
          refine z_goto (tgt := 67) C d_Po_add_63 (by decide) ?_
          refine z_isub C d_Po_add_67 ?_
          refine z_iadd C d_Po_add_68 ?_
          refine z_topi (fun y_15 ey_15 => ?_)
          have hf := zlet_at ey_15 hf
          refine z_put (ws' := [(h_this, .inr (1, [.ref h_this_numbers, .int y_15])), (h_this_numbers, .inl (cI, 2325, .inl u_9))]) C iw_Po t_Po t_Po_ok n_Po 0 rfl rfl 1 (by decide) zw_75 rfl (ty := .int) rfl rfl rfl (by simp) d_Po_add_69 rfl ?_
          cases hf
          exact z_vret C hr d_Po_add_72
      · have hf := zif_pos c_10 hf
        refine z_iconst (v := 0) C d_Po_add_52 (by decide) ?_
        refine z_goto (tgt := 57) C d_Po_add_53 (by decide) ?_
        refine z_iload C d_Po_add_57 1 rfl ?_
        refine z_if_ne (tgt := 66) C d_Po_add_59 (by decide) (fun c_11 => ?_) (fun c_11 => ?_)
        · have hf := zif_neg c_11 hf
          refine z_iconst (v := 1) C d_Po_add_66 (by decide) ?_
          refine z_isub C d_Po_add_67 ?_
          refine z_iadd C d_Po_add_68 ?_
          refine z_topi (fun y_13 ey_13 => ?_)
          have hf := zlet_at ey_13 hf
          refine z_put (ws' := [(h_this, .inr (1, [.ref h_this_numbers, .int y_13])), (h_this_numbers, .inl (cI, 2325, .inl u_9))]) C iw_Po t_Po t_Po_ok n_Po 0 rfl rfl 1 (by decide) zw_75 rfl (ty := .int) rfl rfl rfl (by simp) d_Po_add_69 rfl ?_
          cases hf
          exact z_vret C hr d_Po_add_72
        · have hf := zif_pos c_11 hf
          refine z_iconst (v := 0) C d_Po_add_62 (by decide) ?_
          refine z_goto (tgt := 67) C d_Po_add_63 (by decide) ?_
          refine z_isub C d_Po_add_67 ?_
          refine z_iadd C d_Po_add_68 ?_
          refine z_topi (fun y_12 ey_12 => ?_)
          have hf := zlet_at ey_12 hf
          refine z_put (ws' := [(h_this, .inr (1, [.ref h_this_numbers, .int y_12])), (h_this_numbers, .inl (cI, 2325, .inl u_9))]) C iw_Po t_Po t_Po_ok n_Po 0 rfl rfl 1 (by decide) zw_75 rfl (ty := .int) rfl rfl rfl (by simp) d_Po_add_69 rfl ?_
          cases hf
          exact z_vret C hr d_Po_add_72
    · have hf := zif_neg c_4 hf
      cases hf
      exact z_vret C hr d_Po_add_16
theorem c_Po_add {l : Launch} {D : va_G} {cI cL : ClassId} {h_this h_this_numbers : Nat} {v_monomials o_monomials x1 x2 : Int32} {v_numbers o_numbers : Nat → Int32} (hf : f_Po_add x1 x2 v_monomials v_numbers = some (o_monomials, o_numbers)) : zM l y_Po_add (Cond.code y_Po_add b_Po_add 6 none :: zT) rm_Po_add D vwCl [(cI, .int), (cL, .long)] [.ref h_this, .int x1, .int x2] [(h_this, .inr (1, [.ref h_this_numbers, .int v_monomials])), (h_this_numbers, .inl (cI, 2325, .inl v_numbers))] [(h_this, .inr (1, [.ref h_this_numbers, .int o_monomials])), (h_this_numbers, .inl (cI, 2325, .inl o_numbers))] (none) :=
  zM.intro (by decide) rfl (fun _ h => List.mem_cons_of_mem _ h) (Nat.le_of_ble_eq_true rfl) (fun _ _ _ _ _ _ _ C hr _ => k_Po_add C hr hf)
def rm_Po_clear : Room := { frames := 1, cells := 0, slots := 0, locals := 23 }
/-- PathSums$Polynomial.clear()V -/
def f_Po_clear (v_monomials : Int32) (v_numbers : Nat → Int32) : Option (Int32 × (Nat → Int32)) :=
  zb1 (f_Jarr_fill 2325 (0 : Int32) v_numbers) fun q_2 =>
  some ((0 : Int32), q_2)
set_option maxRecDepth 100000 in
set_option maxHeartbeats 4000000 in
theorem k_Po_clear {p : Program} {l : Launch} {e : Env} {s : State} {m : MethodId} {args : Array Value} {below : List Frame} {meth : Method} {c : Code} {D : va_G} {cI cL : ClassId} {h_this h_this_numbers : Nat} {v_monomials o_monomials : Int32} {v_numbers o_numbers : Nat → Int32} (C : zC p s m args meth c b_Po_clear 1 R_Po D vwCl [(cI, .int), (cL, .long)] (zA [h_this, h_this_numbers] s.heap.size)) (hr : meth.sig.returnType = none) (hf : f_Po_clear v_monomials v_numbers = some (o_monomials, o_numbers)) : ZV p l e rm_Po_clear s m args below meth c 1 D (none) [(h_this, .inr (1, [.ref h_this_numbers, .int o_monomials])), (h_this_numbers, .inl (cI, 2325, .inl o_numbers))] [h_this, h_this_numbers] [(h_this, .inr (1, [.ref h_this_numbers, .int v_monomials])), (h_this_numbers, .inl (cI, 2325, .inl v_numbers))] 0 [(0, .ref h_this)] [] := by
  unfold f_Po_clear at hf
  refine z_aload_n C d_Po_clear_0 rfl 0 rfl ?_
  refine z_get C iw_Po 0 rfl rfl 0 (by decide) zw_74 rfl d_Po_clear_1 ?_
  refine z_iconst (v := 0) C d_Po_clear_4 (by decide) ?_
  obtain ⟨q_2, h_1, hf⟩ := zb1_elim hf
  refine z_callS (As := [.ref h_this_numbers, .int (0 : Int32)]) (rest := []) (ws' := [(h_this, .inr (1, [.ref h_this_numbers, .int v_monomials])), (h_this_numbers, .inl (cI, 2325, .inl q_2))]) C (c_Jarr_fill h_1) mi_Jarr_fill zw_159 (by decide) [1] (by decide) rfl rfl rfl rfl rfl (by decide) ⟨Nat.zero_le _, Nat.zero_le _⟩ d_Po_clear_5 ?_
  refine z_aload_n C d_Po_clear_8 rfl 0 rfl ?_
  refine z_iconst (v := 0) C d_Po_clear_9 (by decide) ?_
  refine z_put (ws' := [(h_this, .inr (1, [.ref h_this_numbers, .int (0 : Int32)])), (h_this_numbers, .inl (cI, 2325, .inl q_2))]) C iw_Po t_Po t_Po_ok n_Po 0 rfl rfl 1 (by decide) zw_75 rfl (ty := .int) rfl rfl rfl (by simp) d_Po_clear_10 rfl ?_
  cases hf
  exact z_vret C hr d_Po_clear_13
theorem c_Po_clear {l : Launch} {D : va_G} {cI cL : ClassId} {h_this h_this_numbers : Nat} {v_monomials o_monomials : Int32} {v_numbers o_numbers : Nat → Int32} (hf : f_Po_clear v_monomials v_numbers = some (o_monomials, o_numbers)) : zM l y_Po_clear (Cond.code y_Po_clear b_Po_clear 1 none :: zT) rm_Po_clear D vwCl [(cI, .int), (cL, .long)] [.ref h_this] [(h_this, .inr (1, [.ref h_this_numbers, .int v_monomials])), (h_this_numbers, .inl (cI, 2325, .inl v_numbers))] [(h_this, .inr (1, [.ref h_this_numbers, .int o_monomials])), (h_this_numbers, .inl (cI, 2325, .inl o_numbers))] (none) :=
  zM.intro (by decide) rfl (fun _ h => List.mem_cons_of_mem _ h) (Nat.le_of_ble_eq_true rfl) (fun _ _ _ _ _ _ _ C hr _ => k_Po_clear C hr hf)
def rm_Po_addTriplesBelow : Room := { frames := 3, cells := 0, slots := 0, locals := 72 }
def f_Po_addTriplesBelow_l3 (x1 : Int32) (x2 : Int32) (x3 : Int32) (x4 : Int32) (v_monomials : Int32) (v_numbers : Nat → Int32) : Option ((Int32 × Int32 × (Nat → Int32)) ⊕ (Int32 × (Nat → Int32))) :=
  if x1 ≤ x4 then (
    some (.inr (v_monomials, v_numbers)))
  else (
    if (f_Ps_has x2 x4) = 0 then (
      zlet (x4 + 1) fun y_4 =>
      some (.inl (y_4, v_monomials, v_numbers)))
    else (
      zb2 (f_Po_add (x3 ||| ((1 : Int32) <<< (x4 &&& 31))) (4 : Int32) v_monomials v_numbers) fun q_6 q_7 =>
      zlet (x4 + 1) fun y_8 =>
      some (.inl (y_8, q_6, q_7))))
set_option maxRecDepth 100000 in
set_option maxHeartbeats 4000000 in
theorem k_Po_addTriplesBelow_l3 {p : Program} {l : Launch} {e : Env} {s : State} {m : MethodId} {args : Array Value} {below : List Frame} {meth : Method} {c : Code} {D : va_G} {cI cL : ClassId} {h_this h_this_numbers : Nat} {v_monomials o_monomials x1 x2 x3 x4 : Int32} {v_numbers o_numbers : Nat → Int32} (C : zC p s m args meth c b_Po_addTriplesBelow 5 R_Po D vwCl [(cI, .int), (cL, .long)] (zA [h_this, h_this_numbers] s.heap.size)) (hr : meth.sig.returnType = none) {z : (Int32 × Int32 × (Nat → Int32)) ⊕ (Int32 × (Nat → Int32))} (hf : f_Po_addTriplesBelow_l3 x1 x2 x3 x4 v_monomials v_numbers = some z) (hK : zcase (fun q => ZV p l e rm_Po_addTriplesBelow s m args below meth c 5 D (none) [(h_this, .inr (1, [.ref h_this_numbers, .int o_monomials])), (h_this_numbers, .inl (cI, 2325, .inl o_numbers))] [h_this, h_this_numbers] [(h_this, .inr (1, [.ref h_this_numbers, .int q.2.1])), (h_this_numbers, .inl (cI, 2325, .inl q.2.2))] 3 [(0, .ref h_this), (1, .int x1), (2, .int x2), (3, .int x3), (4, .int q.1)] []) (fun q => ZV p l e rm_Po_addTriplesBelow s m args below meth c 5 D (none) [(h_this, .inr (1, [.ref h_this_numbers, .int o_monomials])), (h_this_numbers, .inl (cI, 2325, .inl o_numbers))] [h_this, h_this_numbers] [(h_this, .inr (1, [.ref h_this_numbers, .int q.1])), (h_this_numbers, .inl (cI, 2325, .inl q.2))] 35 [] []) z) : ZV p l e rm_Po_addTriplesBelow s m args below meth c 5 D (none) [(h_this, .inr (1, [.ref h_this_numbers, .int o_monomials])), (h_this_numbers, .inl (cI, 2325, .inl o_numbers))] [h_this, h_this_numbers] [(h_this, .inr (1, [.ref h_this_numbers, .int v_monomials])), (h_this_numbers, .inl (cI, 2325, .inl v_numbers))] 3 [(0, .ref h_this), (1, .int x1), (2, .int x2), (3, .int x3), (4, .int x4)] [] := by
  unfold f_Po_addTriplesBelow_l3 at hf
  refine z_iload C d_Po_addTriplesBelow_3 4 rfl ?_
  refine z_iload_n C d_Po_addTriplesBelow_5 rfl 1 rfl ?_
  refine z_icmp_ge (tgt := 35) C d_Po_addTriplesBelow_6 (by decide) (fun c_1 => ?_) (fun c_1 => ?_)
  · have hf := zif_pos c_1 hf
    refine z_lv [] rfl ?_
    cases hf
    exact hK
  · have hf := zif_neg c_1 hf
    refine z_iload_n C d_Po_addTriplesBelow_9 rfl 2 rfl ?_
    refine z_iload C d_Po_addTriplesBelow_10 4 rfl ?_
    refine z_callSN (As := [.int x2, .int x4]) (rest := []) (ws' := [(h_this, .inr (1, [.ref h_this_numbers, .int v_monomials])), (h_this_numbers, .inl (cI, 2325, .inl v_numbers))]) C (c_Ps_has rfl) mi_Ps_has (znest C 7 rfl) (by decide) [] (by decide) rfl rfl rfl rfl rfl (by decide) ⟨Nat.zero_le _, Nat.zero_le _⟩ d_Po_addTriplesBelow_12 ?_
    refine z_if_eq (tgt := 29) C d_Po_addTriplesBelow_15 (by decide) (fun c_3 => ?_) (fun c_3 => ?_)
    · have hf := zif_pos c_3 hf
      obtain ⟨y_4, ey_4⟩ : ∃ y : Int32, y = x4 + 1 := ⟨_, rfl⟩
      have hf := zlet_at ey_4 hf
      refine z_iinc (v := y_4) (lv' := [(4, .int y_4), (0, .ref h_this), (1, .int x1), (2, .int x2), (3, .int x3)]) C d_Po_addTriplesBelow_29 (k := 4) rfl (by rw [ey_4]; rfl) (by decide) rfl ?_
      refine z_goto (tgt := 3) C d_Po_addTriplesBelow_32 (by decide) ?_
      refine z_lv [1, 2, 3, 4, 0] rfl ?_
      cases hf
      exact hK
    · have hf := zif_neg c_3 hf
      refine z_aload_n C d_Po_addTriplesBelow_18 rfl 0 rfl ?_
      refine z_iload_n C d_Po_addTriplesBelow_19 rfl 3 rfl ?_
      refine z_iconst (v := 1) C d_Po_addTriplesBelow_20 (by decide) ?_
      refine z_iload C d_Po_addTriplesBelow_21 4 rfl ?_
      refine z_ishl C d_Po_addTriplesBelow_23 ?_
      refine z_ior C d_Po_addTriplesBelow_24 ?_
      refine z_iconst (v := 4) C d_Po_addTriplesBelow_25 (by decide) ?_
      obtain ⟨q_6, q_7, h_5, hf⟩ := zb2_elim hf
      refine z_callV (As := [.int (x3 ||| ((1 : Int32) <<< (x4 &&& 31))), .int (4 : Int32)]) (rest := []) (ws' := [(h_this, .inr (1, [.ref h_this_numbers, .int q_6])), (h_this_numbers, .inl (cI, 2325, .inl q_7))]) C (c_Po_add h_5) mi_Po_add zw_231 (by decide) 0 rfl rfl [0, 1] (by decide) rfl rfl rfl rfl rfl (by decide) ⟨Nat.zero_le _, Nat.zero_le _⟩ d_Po_addTriplesBelow_26 ?_
      obtain ⟨y_8, ey_8⟩ : ∃ y : Int32, y = x4 + 1 := ⟨_, rfl⟩
      have hf := zlet_at ey_8 hf
      refine z_iinc (v := y_8) (lv' := [(4, .int y_8), (0, .ref h_this), (1, .int x1), (2, .int x2), (3, .int x3)]) C d_Po_addTriplesBelow_29 (k := 4) rfl (by rw [ey_8]; rfl) (by decide) rfl ?_
      refine z_goto (tgt := 3) C d_Po_addTriplesBelow_32 (by decide) ?_
      refine z_lv [1, 2, 3, 4, 0] rfl ?_
      cases hf
      exact hK
theorem k_Po_addTriplesBelow_l3_run {p : Program} {l : Launch} {e : Env} {s : State} {m : MethodId} {args : Array Value} {below : List Frame} {meth : Method} {c : Code} {D : va_G} {cI cL : ClassId} {h_this h_this_numbers : Nat} {v_monomials o_monomials x1 x2 x3 x4 : Int32} {v_numbers o_numbers : Nat → Int32} (C : zC p s m args meth c b_Po_addTriplesBelow 5 R_Po D vwCl [(cI, .int), (cL, .long)] (zA [h_this, h_this_numbers] s.heap.size)) (hr : meth.sig.returnType = none) {o0 : Int32} {o1 : Nat → Int32} (hf : zloop (fun q => f_Po_addTriplesBelow_l3 x1 x2 x3 q.1 q.2.1 q.2.2) zF (x4, v_monomials, v_numbers) = some (o0, o1)) (hK : ZV p l e rm_Po_addTriplesBelow s m args below meth c 5 D (none) [(h_this, .inr (1, [.ref h_this_numbers, .int o_monomials])), (h_this_numbers, .inl (cI, 2325, .inl o_numbers))] [h_this, h_this_numbers] [(h_this, .inr (1, [.ref h_this_numbers, .int o0])), (h_this_numbers, .inl (cI, 2325, .inl o1))] 35 [] []) : ZV p l e rm_Po_addTriplesBelow s m args below meth c 5 D (none) [(h_this, .inr (1, [.ref h_this_numbers, .int o_monomials])), (h_this_numbers, .inl (cI, 2325, .inl o_numbers))] [h_this, h_this_numbers] [(h_this, .inr (1, [.ref h_this_numbers, .int v_monomials])), (h_this_numbers, .inl (cI, 2325, .inl v_numbers))] 3 [(0, .ref h_this), (1, .int x1), (2, .int x2), (3, .int x3), (4, .int x4)] [] :=
  zloop_run (P := fun q => ZV p l e rm_Po_addTriplesBelow s m args below meth c 5 D (none) [(h_this, .inr (1, [.ref h_this_numbers, .int o_monomials])), (h_this_numbers, .inl (cI, 2325, .inl o_numbers))] [h_this, h_this_numbers] [(h_this, .inr (1, [.ref h_this_numbers, .int q.2.1])), (h_this_numbers, .inl (cI, 2325, .inl q.2.2))] 3 [(0, .ref h_this), (1, .int x1), (2, .int x2), (3, .int x3), (4, .int q.1)] []) (K := (fun q => ZV p l e rm_Po_addTriplesBelow s m args below meth c 5 D (none) [(h_this, .inr (1, [.ref h_this_numbers, .int o_monomials])), (h_this_numbers, .inl (cI, 2325, .inl o_numbers))] [h_this, h_this_numbers] [(h_this, .inr (1, [.ref h_this_numbers, .int q.1])), (h_this_numbers, .inl (cI, 2325, .inl q.2))] 35 [] [])) (fun q z hz hK => k_Po_addTriplesBelow_l3 C hr hz hK) zF _ ((o0, o1)) hf hK
/-- PathSums$Polynomial.addTriplesBelow(III)V -/
def f_Po_addTriplesBelow (x1 : Int32) (x2 : Int32) (x3 : Int32) (v_monomials : Int32) (v_numbers : Nat → Int32) : Option (Int32 × (Nat → Int32)) :=
  zb2 (zloop (fun q => f_Po_addTriplesBelow_l3 x1 x2 x3 q.1 q.2.1 q.2.2) zF ((0 : Int32), v_monomials, v_numbers)) fun q_1 q_2 =>
  some (q_1, q_2)
set_option maxRecDepth 100000 in
set_option maxHeartbeats 4000000 in
theorem k_Po_addTriplesBelow {p : Program} {l : Launch} {e : Env} {s : State} {m : MethodId} {args : Array Value} {below : List Frame} {meth : Method} {c : Code} {D : va_G} {cI cL : ClassId} {h_this h_this_numbers : Nat} {v_monomials o_monomials x1 x2 x3 : Int32} {v_numbers o_numbers : Nat → Int32} (C : zC p s m args meth c b_Po_addTriplesBelow 5 R_Po D vwCl [(cI, .int), (cL, .long)] (zA [h_this, h_this_numbers] s.heap.size)) (hr : meth.sig.returnType = none) (hf : f_Po_addTriplesBelow x1 x2 x3 v_monomials v_numbers = some (o_monomials, o_numbers)) : ZV p l e rm_Po_addTriplesBelow s m args below meth c 5 D (none) [(h_this, .inr (1, [.ref h_this_numbers, .int o_monomials])), (h_this_numbers, .inl (cI, 2325, .inl o_numbers))] [h_this, h_this_numbers] [(h_this, .inr (1, [.ref h_this_numbers, .int v_monomials])), (h_this_numbers, .inl (cI, 2325, .inl v_numbers))] 0 [(0, .ref h_this), (1, .int x1), (2, .int x2), (3, .int x3)] [] := by
  unfold f_Po_addTriplesBelow at hf
  refine z_iconst (v := 0) C d_Po_addTriplesBelow_0 (by decide) ?_
  refine z_istore (lv' := [(4, .int (0 : Int32)), (0, .ref h_this), (1, .int x1), (2, .int x2), (3, .int x3)]) C d_Po_addTriplesBelow_1 (by decide) rfl ?_
  refine z_lv [1, 2, 3, 4, 0] rfl ?_
  obtain ⟨q_1, q_2, h_3, hf⟩ := zb2_elim hf
  refine k_Po_addTriplesBelow_l3_run C hr h_3 ?_
  cases hf
  exact z_vret C hr d_Po_addTriplesBelow_35
theorem c_Po_addTriplesBelow {l : Launch} {D : va_G} {cI cL : ClassId} {h_this h_this_numbers : Nat} {v_monomials o_monomials x1 x2 x3 : Int32} {v_numbers o_numbers : Nat → Int32} (hf : f_Po_addTriplesBelow x1 x2 x3 v_monomials v_numbers = some (o_monomials, o_numbers)) : zM l y_Po_addTriplesBelow (Cond.code y_Po_addTriplesBelow b_Po_addTriplesBelow 5 none :: zT) rm_Po_addTriplesBelow D vwCl [(cI, .int), (cL, .long)] [.ref h_this, .int x1, .int x2, .int x3] [(h_this, .inr (1, [.ref h_this_numbers, .int v_monomials])), (h_this_numbers, .inl (cI, 2325, .inl v_numbers))] [(h_this, .inr (1, [.ref h_this_numbers, .int o_monomials])), (h_this_numbers, .inl (cI, 2325, .inl o_numbers))] (none) :=
  zM.intro (by decide) rfl (fun _ h => List.mem_cons_of_mem _ h) (Nat.le_of_ble_eq_true rfl) (fun _ _ _ _ _ _ _ C hr _ => k_Po_addTriplesBelow C hr hf)
def rm_Po_addPairsBelow : Room := { frames := 4, cells := 0, slots := 0, locals := 96 }
def f_Po_addPairsBelow_l3 (x1 : Int32) (x2 : Int32) (x3 : Int32) (x4 : Int32) (x5 : Int32) (v_monomials : Int32) (v_numbers : Nat → Int32) : Option ((Int32 × Int32 × (Nat → Int32)) ⊕ (Int32 × (Nat → Int32))) :=
  if x1 ≤ x5 then (
    some (.inr (v_monomials, v_numbers)))
  else (
    if (f_Ps_has x3 x5) = 0 then (
      zlet (x5 + 1) fun y_4 =>
      some (.inl (y_4, v_monomials, v_numbers)))
    else (
      zb2 (f_Po_add (x4 ||| ((1 : Int32) <<< (x5 &&& 31))) ((-2 : Int32) * x2) v_monomials v_numbers) fun q_6 q_7 =>
      if (f_Ps_has x2 (0 : Int32)) = 0 then (
        zlet (x5 + 1) fun y_10 =>
        some (.inl (y_10, q_6, q_7)))
      else (
        zb2 (f_Po_addTriplesBelow x5 x3 (x4 ||| ((1 : Int32) <<< (x5 &&& 31))) q_6 q_7) fun q_12 q_13 =>
        zlet (x5 + 1) fun y_14 =>
        some (.inl (y_14, q_12, q_13)))))
set_option maxRecDepth 100000 in
set_option maxHeartbeats 4000000 in
theorem k_Po_addPairsBelow_l3 {p : Program} {l : Launch} {e : Env} {s : State} {m : MethodId} {args : Array Value} {below : List Frame} {meth : Method} {c : Code} {D : va_G} {cI cL : ClassId} {h_this h_this_numbers : Nat} {v_monomials o_monomials x1 x2 x3 x4 x5 : Int32} {v_numbers o_numbers : Nat → Int32} (C : zC p s m args meth c b_Po_addPairsBelow 6 R_Po D vwCl [(cI, .int), (cL, .long)] (zA [h_this, h_this_numbers] s.heap.size)) (hr : meth.sig.returnType = none) {z : (Int32 × Int32 × (Nat → Int32)) ⊕ (Int32 × (Nat → Int32))} (hf : f_Po_addPairsBelow_l3 x1 x2 x3 x4 x5 v_monomials v_numbers = some z) (hK : zcase (fun q => ZV p l e rm_Po_addPairsBelow s m args below meth c 6 D (none) [(h_this, .inr (1, [.ref h_this_numbers, .int o_monomials])), (h_this_numbers, .inl (cI, 2325, .inl o_numbers))] [h_this, h_this_numbers] [(h_this, .inr (1, [.ref h_this_numbers, .int q.2.1])), (h_this_numbers, .inl (cI, 2325, .inl q.2.2))] 3 [(0, .ref h_this), (1, .int x1), (2, .int x2), (3, .int x3), (4, .int x4), (5, .int q.1)] []) (fun q => ZV p l e rm_Po_addPairsBelow s m args below meth c 6 D (none) [(h_this, .inr (1, [.ref h_this_numbers, .int o_monomials])), (h_this_numbers, .inl (cI, 2325, .inl o_numbers))] [h_this, h_this_numbers] [(h_this, .inr (1, [.ref h_this_numbers, .int q.1])), (h_this_numbers, .inl (cI, 2325, .inl q.2))] 61 [] []) z) : ZV p l e rm_Po_addPairsBelow s m args below meth c 6 D (none) [(h_this, .inr (1, [.ref h_this_numbers, .int o_monomials])), (h_this_numbers, .inl (cI, 2325, .inl o_numbers))] [h_this, h_this_numbers] [(h_this, .inr (1, [.ref h_this_numbers, .int v_monomials])), (h_this_numbers, .inl (cI, 2325, .inl v_numbers))] 3 [(0, .ref h_this), (1, .int x1), (2, .int x2), (3, .int x3), (4, .int x4), (5, .int x5)] [] := by
  unfold f_Po_addPairsBelow_l3 at hf
  refine z_iload C d_Po_addPairsBelow_3 5 rfl ?_
  refine z_iload_n C d_Po_addPairsBelow_5 rfl 1 rfl ?_
  refine z_icmp_ge (tgt := 61) C d_Po_addPairsBelow_6 (by decide) (fun c_1 => ?_) (fun c_1 => ?_)
  · have hf := zif_pos c_1 hf
    refine z_lv [] rfl ?_
    cases hf
    exact hK
  · have hf := zif_neg c_1 hf
    refine z_iload_n C d_Po_addPairsBelow_9 rfl 3 rfl ?_
    refine z_iload C d_Po_addPairsBelow_10 5 rfl ?_
    refine z_callSN (As := [.int x3, .int x5]) (rest := []) (ws' := [(h_this, .inr (1, [.ref h_this_numbers, .int v_monomials])), (h_this_numbers, .inl (cI, 2325, .inl v_numbers))]) C (c_Ps_has rfl) mi_Ps_has (znest C 7 rfl) (by decide) [] (by decide) rfl rfl rfl rfl rfl (by decide) ⟨Nat.zero_le _, Nat.zero_le _⟩ d_Po_addPairsBelow_12 ?_
    refine z_if_eq (tgt := 55) C d_Po_addPairsBelow_15 (by decide) (fun c_3 => ?_) (fun c_3 => ?_)
    · have hf := zif_pos c_3 hf
      obtain ⟨y_4, ey_4⟩ : ∃ y : Int32, y = x5 + 1 := ⟨_, rfl⟩
      have hf := zlet_at ey_4 hf
      refine z_iinc (v := y_4) (lv' := [(5, .int y_4), (0, .ref h_this), (1, .int x1), (2, .int x2), (3, .int x3), (4, .int x4)]) C d_Po_addPairsBelow_55 (k := 5) rfl (by rw [ey_4]; rfl) (by decide) rfl ?_
      refine z_goto (tgt := 3) C d_Po_addPairsBelow_58 (by decide) ?_
      refine z_lv [1, 2, 3, 4, 5, 0] rfl ?_
      cases hf
      exact hK
    · have hf := zif_neg c_3 hf
      refine z_aload_n C d_Po_addPairsBelow_18 rfl 0 rfl ?_
      refine z_iload C d_Po_addPairsBelow_19 4 rfl ?_
      refine z_iconst (v := 1) C d_Po_addPairsBelow_21 (by decide) ?_
      refine z_iload C d_Po_addPairsBelow_22 5 rfl ?_
      refine z_ishl C d_Po_addPairsBelow_24 ?_
      refine z_ior C d_Po_addPairsBelow_25 ?_
      refine z_bipush (v := -2) C d_Po_addPairsBelow_26 (by decide) ?_
      refine z_iload_n C d_Po_addPairsBelow_28 rfl 2 rfl ?_
      refine z_imul C d_Po_addPairsBelow_29 ?_
      obtain ⟨q_6, q_7, h_5, hf⟩ := zb2_elim hf
      refine z_callV (As := [.int (x4 ||| ((1 : Int32) <<< (x5 &&& 31))), .int ((-2 : Int32) * x2)]) (rest := []) (ws' := [(h_this, .inr (1, [.ref h_this_numbers, .int q_6])), (h_this_numbers, .inl (cI, 2325, .inl q_7))]) C (c_Po_add h_5) mi_Po_add zw_231 (by decide) 0 rfl rfl [0, 1] (by decide) rfl rfl rfl rfl rfl (by decide) ⟨Nat.zero_le _, Nat.zero_le _⟩ d_Po_addPairsBelow_30 ?_
      refine z_iload_n C d_Po_addPairsBelow_33 rfl 2 rfl ?_
      refine z_iconst (v := 0) C d_Po_addPairsBelow_34 (by decide) ?_
      refine z_callSN (As := [.int x2, .int (0 : Int32)]) (rest := []) (ws' := [(h_this, .inr (1, [.ref h_this_numbers, .int q_6])), (h_this_numbers, .inl (cI, 2325, .inl q_7))]) C (c_Ps_has rfl) mi_Ps_has (znest C 7 rfl) (by decide) [] (by decide) rfl rfl rfl rfl rfl (by decide) ⟨Nat.zero_le _, Nat.zero_le _⟩ d_Po_addPairsBelow_35 ?_
      refine z_if_eq (tgt := 55) C d_Po_addPairsBelow_38 (by decide) (fun c_9 => ?_) (fun c_9 => ?_)
      · have hf := zif_pos c_9 hf
        obtain ⟨y_10, ey_10⟩ : ∃ y : Int32, y = x5 + 1 := ⟨_, rfl⟩
        have hf := zlet_at ey_10 hf
        refine z_iinc (v := y_10) (lv' := [(5, .int y_10), (0, .ref h_this), (1, .int x1), (2, .int x2), (3, .int x3), (4, .int x4)]) C d_Po_addPairsBelow_55 (k := 5) rfl (by rw [ey_10]; rfl) (by decide) rfl ?_
        refine z_goto (tgt := 3) C d_Po_addPairsBelow_58 (by decide) ?_
        refine z_lv [1, 2, 3, 4, 5, 0] rfl ?_
        cases hf
        exact hK
      · have hf := zif_neg c_9 hf
        refine z_aload_n C d_Po_addPairsBelow_41 rfl 0 rfl ?_
        refine z_iload C d_Po_addPairsBelow_42 5 rfl ?_
        refine z_iload_n C d_Po_addPairsBelow_44 rfl 3 rfl ?_
        refine z_iload C d_Po_addPairsBelow_45 4 rfl ?_
        refine z_iconst (v := 1) C d_Po_addPairsBelow_47 (by decide) ?_
        refine z_iload C d_Po_addPairsBelow_48 5 rfl ?_
        refine z_ishl C d_Po_addPairsBelow_50 ?_
        refine z_ior C d_Po_addPairsBelow_51 ?_
        obtain ⟨q_12, q_13, h_11, hf⟩ := zb2_elim hf
        refine z_callV (As := [.int x5, .int x3, .int (x4 ||| ((1 : Int32) <<< (x5 &&& 31)))]) (rest := []) (ws' := [(h_this, .inr (1, [.ref h_this_numbers, .int q_12])), (h_this_numbers, .inl (cI, 2325, .inl q_13))]) C (c_Po_addTriplesBelow h_11) mi_Po_addTriplesBelow zw_249 (by decide) 0 rfl rfl [0, 1] (by decide) rfl rfl rfl rfl rfl (by decide) ⟨Nat.zero_le _, Nat.zero_le _⟩ d_Po_addPairsBelow_52 ?_
        obtain ⟨y_14, ey_14⟩ : ∃ y : Int32, y = x5 + 1 := ⟨_, rfl⟩
        have hf := zlet_at ey_14 hf
        refine z_iinc (v := y_14) (lv' := [(5, .int y_14), (0, .ref h_this), (1, .int x1), (2, .int x2), (3, .int x3), (4, .int x4)]) C d_Po_addPairsBelow_55 (k := 5) rfl (by rw [ey_14]; rfl) (by decide) rfl ?_
        refine z_goto (tgt := 3) C d_Po_addPairsBelow_58 (by decide) ?_
        refine z_lv [1, 2, 3, 4, 5, 0] rfl ?_
        cases hf
        exact hK
theorem k_Po_addPairsBelow_l3_run {p : Program} {l : Launch} {e : Env} {s : State} {m : MethodId} {args : Array Value} {below : List Frame} {meth : Method} {c : Code} {D : va_G} {cI cL : ClassId} {h_this h_this_numbers : Nat} {v_monomials o_monomials x1 x2 x3 x4 x5 : Int32} {v_numbers o_numbers : Nat → Int32} (C : zC p s m args meth c b_Po_addPairsBelow 6 R_Po D vwCl [(cI, .int), (cL, .long)] (zA [h_this, h_this_numbers] s.heap.size)) (hr : meth.sig.returnType = none) {o0 : Int32} {o1 : Nat → Int32} (hf : zloop (fun q => f_Po_addPairsBelow_l3 x1 x2 x3 x4 q.1 q.2.1 q.2.2) zF (x5, v_monomials, v_numbers) = some (o0, o1)) (hK : ZV p l e rm_Po_addPairsBelow s m args below meth c 6 D (none) [(h_this, .inr (1, [.ref h_this_numbers, .int o_monomials])), (h_this_numbers, .inl (cI, 2325, .inl o_numbers))] [h_this, h_this_numbers] [(h_this, .inr (1, [.ref h_this_numbers, .int o0])), (h_this_numbers, .inl (cI, 2325, .inl o1))] 61 [] []) : ZV p l e rm_Po_addPairsBelow s m args below meth c 6 D (none) [(h_this, .inr (1, [.ref h_this_numbers, .int o_monomials])), (h_this_numbers, .inl (cI, 2325, .inl o_numbers))] [h_this, h_this_numbers] [(h_this, .inr (1, [.ref h_this_numbers, .int v_monomials])), (h_this_numbers, .inl (cI, 2325, .inl v_numbers))] 3 [(0, .ref h_this), (1, .int x1), (2, .int x2), (3, .int x3), (4, .int x4), (5, .int x5)] [] :=
  zloop_run (P := fun q => ZV p l e rm_Po_addPairsBelow s m args below meth c 6 D (none) [(h_this, .inr (1, [.ref h_this_numbers, .int o_monomials])), (h_this_numbers, .inl (cI, 2325, .inl o_numbers))] [h_this, h_this_numbers] [(h_this, .inr (1, [.ref h_this_numbers, .int q.2.1])), (h_this_numbers, .inl (cI, 2325, .inl q.2.2))] 3 [(0, .ref h_this), (1, .int x1), (2, .int x2), (3, .int x3), (4, .int x4), (5, .int q.1)] []) (K := (fun q => ZV p l e rm_Po_addPairsBelow s m args below meth c 6 D (none) [(h_this, .inr (1, [.ref h_this_numbers, .int o_monomials])), (h_this_numbers, .inl (cI, 2325, .inl o_numbers))] [h_this, h_this_numbers] [(h_this, .inr (1, [.ref h_this_numbers, .int q.1])), (h_this_numbers, .inl (cI, 2325, .inl q.2))] 61 [] [])) (fun q z hz hK => k_Po_addPairsBelow_l3 C hr hz hK) zF _ ((o0, o1)) hf hK
/-- PathSums$Polynomial.addPairsBelow(IIII)V -/
def f_Po_addPairsBelow (x1 : Int32) (x2 : Int32) (x3 : Int32) (x4 : Int32) (v_monomials : Int32) (v_numbers : Nat → Int32) : Option (Int32 × (Nat → Int32)) :=
  zb2 (zloop (fun q => f_Po_addPairsBelow_l3 x1 x2 x3 x4 q.1 q.2.1 q.2.2) zF ((0 : Int32), v_monomials, v_numbers)) fun q_1 q_2 =>
  some (q_1, q_2)
set_option maxRecDepth 100000 in
set_option maxHeartbeats 4000000 in
theorem k_Po_addPairsBelow {p : Program} {l : Launch} {e : Env} {s : State} {m : MethodId} {args : Array Value} {below : List Frame} {meth : Method} {c : Code} {D : va_G} {cI cL : ClassId} {h_this h_this_numbers : Nat} {v_monomials o_monomials x1 x2 x3 x4 : Int32} {v_numbers o_numbers : Nat → Int32} (C : zC p s m args meth c b_Po_addPairsBelow 6 R_Po D vwCl [(cI, .int), (cL, .long)] (zA [h_this, h_this_numbers] s.heap.size)) (hr : meth.sig.returnType = none) (hf : f_Po_addPairsBelow x1 x2 x3 x4 v_monomials v_numbers = some (o_monomials, o_numbers)) : ZV p l e rm_Po_addPairsBelow s m args below meth c 6 D (none) [(h_this, .inr (1, [.ref h_this_numbers, .int o_monomials])), (h_this_numbers, .inl (cI, 2325, .inl o_numbers))] [h_this, h_this_numbers] [(h_this, .inr (1, [.ref h_this_numbers, .int v_monomials])), (h_this_numbers, .inl (cI, 2325, .inl v_numbers))] 0 [(0, .ref h_this), (1, .int x1), (2, .int x2), (3, .int x3), (4, .int x4)] [] := by
  unfold f_Po_addPairsBelow at hf
  refine z_iconst (v := 0) C d_Po_addPairsBelow_0 (by decide) ?_
  refine z_istore (lv' := [(5, .int (0 : Int32)), (0, .ref h_this), (1, .int x1), (2, .int x2), (3, .int x3), (4, .int x4)]) C d_Po_addPairsBelow_1 (by decide) rfl ?_
  refine z_lv [1, 2, 3, 4, 5, 0] rfl ?_
  obtain ⟨q_1, q_2, h_3, hf⟩ := zb2_elim hf
  refine k_Po_addPairsBelow_l3_run C hr h_3 ?_
  cases hf
  exact z_vret C hr d_Po_addPairsBelow_61
theorem c_Po_addPairsBelow {l : Launch} {D : va_G} {cI cL : ClassId} {h_this h_this_numbers : Nat} {v_monomials o_monomials x1 x2 x3 x4 : Int32} {v_numbers o_numbers : Nat → Int32} (hf : f_Po_addPairsBelow x1 x2 x3 x4 v_monomials v_numbers = some (o_monomials, o_numbers)) : zM l y_Po_addPairsBelow (Cond.code y_Po_addPairsBelow b_Po_addPairsBelow 6 none :: zT) rm_Po_addPairsBelow D vwCl [(cI, .int), (cL, .long)] [.ref h_this, .int x1, .int x2, .int x3, .int x4] [(h_this, .inr (1, [.ref h_this_numbers, .int v_monomials])), (h_this_numbers, .inl (cI, 2325, .inl v_numbers))] [(h_this, .inr (1, [.ref h_this_numbers, .int o_monomials])), (h_this_numbers, .inl (cI, 2325, .inl o_numbers))] (none) :=
  zM.intro (by decide) rfl (fun _ h => List.mem_cons_of_mem _ h) (Nat.le_of_ble_eq_true rfl) (fun _ _ _ _ _ _ _ C hr _ => k_Po_addPairsBelow C hr hf)
def rm_Po_addXor : Room := { frames := 5, cells := 0, slots := 0, locals := 121 }
def f_Po_addXor_l25 (x2 : Int32) (x3 : Int32) (x4 : Int32) (x5 : Int32) (v_monomials : Int32) (v_numbers : Nat → Int32) : Option ((Int32 × Int32 × (Nat → Int32)) ⊕ (Int32 × (Nat → Int32))) :=
  if (24 : Int32) ≤ x5 then (
    some (.inr (v_monomials, v_numbers)))
  else (
    if (f_Ps_has x2 x5) = 0 then (
      zlet (x5 + 1) fun y_4 =>
      some (.inl (y_4, v_monomials, v_numbers)))
    else (
      zb2 (f_Po_add (x3 ||| ((1 : Int32) <<< (x5 &&& 31))) x4 v_monomials v_numbers) fun q_6 q_7 =>
      if (x4 &&& (3 : Int32)) = 0 then (
        zlet (x5 + 1) fun y_9 =>
        some (.inl (y_9, q_6, q_7)))
      else (
        zb2 (f_Po_addPairsBelow x5 x4 x2 (x3 ||| ((1 : Int32) <<< (x5 &&& 31))) q_6 q_7) fun q_11 q_12 =>
        zlet (x5 + 1) fun y_13 =>
        some (.inl (y_13, q_11, q_12)))))
set_option maxRecDepth 100000 in
set_option maxHeartbeats 4000000 in
theorem k_Po_addXor_l25 {p : Program} {l : Launch} {e : Env} {s : State} {m : MethodId} {args : Array Value} {below : List Frame} {meth : Method} {c : Code} {D : va_G} {cI cL : ClassId} {h_this h_this_numbers : Nat} {v_monomials o_monomials x2 x3 x4 x5 : Int32} {v_numbers o_numbers : Nat → Int32} (C : zC p s m args meth c b_Po_addXor 6 R_Po D vwCl [(cI, .int), (cL, .long)] (zA [h_this, h_this_numbers] s.heap.size)) (hr : meth.sig.returnType = none) {z : (Int32 × Int32 × (Nat → Int32)) ⊕ (Int32 × (Nat → Int32))} (hf : f_Po_addXor_l25 x2 x3 x4 x5 v_monomials v_numbers = some z) (hK : zcase (fun q => ZV p l e rm_Po_addXor s m args below meth c 6 D (none) [(h_this, .inr (1, [.ref h_this_numbers, .int o_monomials])), (h_this_numbers, .inl (cI, 2325, .inl o_numbers))] [h_this, h_this_numbers] [(h_this, .inr (1, [.ref h_this_numbers, .int q.2.1])), (h_this_numbers, .inl (cI, 2325, .inl q.2.2))] 25 [(0, .ref h_this), (2, .int x2), (3, .int x3), (4, .int x4), (5, .int q.1)] []) (fun q => ZV p l e rm_Po_addXor s m args below meth c 6 D (none) [(h_this, .inr (1, [.ref h_this_numbers, .int o_monomials])), (h_this_numbers, .inl (cI, 2325, .inl o_numbers))] [h_this, h_this_numbers] [(h_this, .inr (1, [.ref h_this_numbers, .int q.1])), (h_this_numbers, .inl (cI, 2325, .inl q.2))] 81 [] []) z) : ZV p l e rm_Po_addXor s m args below meth c 6 D (none) [(h_this, .inr (1, [.ref h_this_numbers, .int o_monomials])), (h_this_numbers, .inl (cI, 2325, .inl o_numbers))] [h_this, h_this_numbers] [(h_this, .inr (1, [.ref h_this_numbers, .int v_monomials])), (h_this_numbers, .inl (cI, 2325, .inl v_numbers))] 25 [(0, .ref h_this), (2, .int x2), (3, .int x3), (4, .int x4), (5, .int x5)] [] := by
  unfold f_Po_addXor_l25 at hf
  refine z_iload C d_Po_addXor_25 4 rfl ?_
  refine z_bipush (v := 24) C d_Po_addXor_27 (by decide) ?_
  refine z_icmp_ge (tgt := 81) C d_Po_addXor_29 (by decide) (fun c_1 => ?_) (fun c_1 => ?_)
  · have hf := zif_pos c_1 hf
    refine z_lv [] rfl ?_
    cases hf
    exact hK
  · have hf := zif_neg c_1 hf
    refine z_iload_n C d_Po_addXor_32 rfl 1 rfl ?_
    refine z_iload C d_Po_addXor_33 4 rfl ?_
    refine z_callSN (As := [.int x2, .int x5]) (rest := []) (ws' := [(h_this, .inr (1, [.ref h_this_numbers, .int v_monomials])), (h_this_numbers, .inl (cI, 2325, .inl v_numbers))]) C (c_Ps_has rfl) mi_Ps_has (znest C 7 rfl) (by decide) [] (by decide) rfl rfl rfl rfl rfl (by decide) ⟨Nat.zero_le _, Nat.zero_le _⟩ d_Po_addXor_35 ?_
    refine z_if_eq (tgt := 75) C d_Po_addXor_38 (by decide) (fun c_3 => ?_) (fun c_3 => ?_)
    · have hf := zif_pos c_3 hf
      obtain ⟨y_4, ey_4⟩ : ∃ y : Int32, y = x5 + 1 := ⟨_, rfl⟩
      have hf := zlet_at ey_4 hf
      refine z_iinc (v := y_4) (lv' := [(5, .int y_4), (0, .ref h_this), (2, .int x2), (3, .int x3), (4, .int x4)]) C d_Po_addXor_75 (k := 4) rfl (by rw [ey_4]; rfl) (by decide) rfl ?_
      refine z_goto (tgt := 25) C d_Po_addXor_78 (by decide) ?_
      refine z_lv [1, 2, 3, 4, 0] rfl ?_
      cases hf
      exact hK
    · have hf := zif_neg c_3 hf
      refine z_aload_n C d_Po_addXor_41 rfl 0 rfl ?_
      refine z_iload_n C d_Po_addXor_42 rfl 2 rfl ?_
      refine z_iconst (v := 1) C d_Po_addXor_43 (by decide) ?_
      refine z_iload C d_Po_addXor_44 4 rfl ?_
      refine z_ishl C d_Po_addXor_46 ?_
      refine z_ior C d_Po_addXor_47 ?_
      refine z_iload C d_Po_addXor_48 3 rfl ?_
      obtain ⟨q_6, q_7, h_5, hf⟩ := zb2_elim hf
      refine z_callV (As := [.int (x3 ||| ((1 : Int32) <<< (x5 &&& 31))), .int x4]) (rest := []) (ws' := [(h_this, .inr (1, [.ref h_this_numbers, .int q_6])), (h_this_numbers, .inl (cI, 2325, .inl q_7))]) C (c_Po_add h_5) mi_Po_add zw_231 (by decide) 0 rfl rfl [0, 1] (by decide) rfl rfl rfl rfl rfl (by decide) ⟨Nat.zero_le _, Nat.zero_le _⟩ d_Po_addXor_50 ?_
      refine z_iload C d_Po_addXor_53 3 rfl ?_
      refine z_iconst (v := 3) C d_Po_addXor_55 (by decide) ?_
      refine z_iand C d_Po_addXor_56 ?_
      refine z_if_eq (tgt := 75) C d_Po_addXor_57 (by decide) (fun c_8 => ?_) (fun c_8 => ?_)
      · have hf := zif_pos c_8 hf
        obtain ⟨y_9, ey_9⟩ : ∃ y : Int32, y = x5 + 1 := ⟨_, rfl⟩
        have hf := zlet_at ey_9 hf
        refine z_iinc (v := y_9) (lv' := [(5, .int y_9), (0, .ref h_this), (2, .int x2), (3, .int x3), (4, .int x4)]) C d_Po_addXor_75 (k := 4) rfl (by rw [ey_9]; rfl) (by decide) rfl ?_
        refine z_goto (tgt := 25) C d_Po_addXor_78 (by decide) ?_
        refine z_lv [1, 2, 3, 4, 0] rfl ?_
        cases hf
        exact hK
      · have hf := zif_neg c_8 hf
        refine z_aload_n C d_Po_addXor_60 rfl 0 rfl ?_
        refine z_iload C d_Po_addXor_61 4 rfl ?_
        refine z_iload C d_Po_addXor_63 3 rfl ?_
        refine z_iload_n C d_Po_addXor_65 rfl 1 rfl ?_
        refine z_iload_n C d_Po_addXor_66 rfl 2 rfl ?_
        refine z_iconst (v := 1) C d_Po_addXor_67 (by decide) ?_
        refine z_iload C d_Po_addXor_68 4 rfl ?_
        refine z_ishl C d_Po_addXor_70 ?_
        refine z_ior C d_Po_addXor_71 ?_
        obtain ⟨q_11, q_12, h_10, hf⟩ := zb2_elim hf
        refine z_callV (As := [.int x5, .int x4, .int x2, .int (x3 ||| ((1 : Int32) <<< (x5 &&& 31)))]) (rest := []) (ws' := [(h_this, .inr (1, [.ref h_this_numbers, .int q_11])), (h_this_numbers, .inl (cI, 2325, .inl q_12))]) C (c_Po_addPairsBelow h_10) mi_Po_addPairsBelow zw_245 (by decide) 0 rfl rfl [0, 1] (by decide) rfl rfl rfl rfl rfl (by decide) ⟨Nat.zero_le _, Nat.zero_le _⟩ d_Po_addXor_72 ?_
        obtain ⟨y_13, ey_13⟩ : ∃ y : Int32, y = x5 + 1 := ⟨_, rfl⟩
        have hf := zlet_at ey_13 hf
        refine z_iinc (v := y_13) (lv' := [(5, .int y_13), (0, .ref h_this), (2, .int x2), (3, .int x3), (4, .int x4)]) C d_Po_addXor_75 (k := 4) rfl (by rw [ey_13]; rfl) (by decide) rfl ?_
        refine z_goto (tgt := 25) C d_Po_addXor_78 (by decide) ?_
        refine z_lv [1, 2, 3, 4, 0] rfl ?_
        cases hf
        exact hK
theorem k_Po_addXor_l25_run {p : Program} {l : Launch} {e : Env} {s : State} {m : MethodId} {args : Array Value} {below : List Frame} {meth : Method} {c : Code} {D : va_G} {cI cL : ClassId} {h_this h_this_numbers : Nat} {v_monomials o_monomials x2 x3 x4 x5 : Int32} {v_numbers o_numbers : Nat → Int32} (C : zC p s m args meth c b_Po_addXor 6 R_Po D vwCl [(cI, .int), (cL, .long)] (zA [h_this, h_this_numbers] s.heap.size)) (hr : meth.sig.returnType = none) {o0 : Int32} {o1 : Nat → Int32} (hf : zloop (fun q => f_Po_addXor_l25 x2 x3 x4 q.1 q.2.1 q.2.2) zF (x5, v_monomials, v_numbers) = some (o0, o1)) (hK : ZV p l e rm_Po_addXor s m args below meth c 6 D (none) [(h_this, .inr (1, [.ref h_this_numbers, .int o_monomials])), (h_this_numbers, .inl (cI, 2325, .inl o_numbers))] [h_this, h_this_numbers] [(h_this, .inr (1, [.ref h_this_numbers, .int o0])), (h_this_numbers, .inl (cI, 2325, .inl o1))] 81 [] []) : ZV p l e rm_Po_addXor s m args below meth c 6 D (none) [(h_this, .inr (1, [.ref h_this_numbers, .int o_monomials])), (h_this_numbers, .inl (cI, 2325, .inl o_numbers))] [h_this, h_this_numbers] [(h_this, .inr (1, [.ref h_this_numbers, .int v_monomials])), (h_this_numbers, .inl (cI, 2325, .inl v_numbers))] 25 [(0, .ref h_this), (2, .int x2), (3, .int x3), (4, .int x4), (5, .int x5)] [] :=
  zloop_run (P := fun q => ZV p l e rm_Po_addXor s m args below meth c 6 D (none) [(h_this, .inr (1, [.ref h_this_numbers, .int o_monomials])), (h_this_numbers, .inl (cI, 2325, .inl o_numbers))] [h_this, h_this_numbers] [(h_this, .inr (1, [.ref h_this_numbers, .int q.2.1])), (h_this_numbers, .inl (cI, 2325, .inl q.2.2))] 25 [(0, .ref h_this), (2, .int x2), (3, .int x3), (4, .int x4), (5, .int q.1)] []) (K := (fun q => ZV p l e rm_Po_addXor s m args below meth c 6 D (none) [(h_this, .inr (1, [.ref h_this_numbers, .int o_monomials])), (h_this_numbers, .inl (cI, 2325, .inl o_numbers))] [h_this, h_this_numbers] [(h_this, .inr (1, [.ref h_this_numbers, .int q.1])), (h_this_numbers, .inl (cI, 2325, .inl q.2))] 81 [] [])) (fun q z hz hK => k_Po_addXor_l25 C hr hz hK) zF _ ((o0, o1)) hf hK
def f_Po_addXor_j22 (x2 : Int32) (x3 : Int32) (x4 : Int32) (v_monomials : Int32) (v_numbers : Nat → Int32) : Option (Int32 × (Nat → Int32)) :=
  zb2 (zloop (fun q => f_Po_addXor_l25 x2 x3 x4 q.1 q.2.1 q.2.2) zF ((0 : Int32), v_monomials, v_numbers)) fun q_1 q_2 =>
  some (q_1, q_2)
set_option maxRecDepth 100000 in
set_option maxHeartbeats 4000000 in
theorem k_Po_addXor_j22 {p : Program} {l : Launch} {e : Env} {s : State} {m : MethodId} {args : Array Value} {below : List Frame} {meth : Method} {c : Code} {D : va_G} {cI cL : ClassId} {h_this h_this_numbers : Nat} {v_monomials o_monomials x2 x3 x4 : Int32} {v_numbers o_numbers : Nat → Int32}  (C : zC p s m args meth c b_Po_addXor 6 R_Po D vwCl [(cI, .int), (cL, .long)] (zA [h_this, h_this_numbers] s.heap.size)) (hr : meth.sig.returnType = none) (hf : f_Po_addXor_j22 x2 x3 x4 v_monomials v_numbers = some (o_monomials, o_numbers)) : ZV p l e rm_Po_addXor s m args below meth c 6 D (none) [(h_this, .inr (1, [.ref h_this_numbers, .int o_monomials])), (h_this_numbers, .inl (cI, 2325, .inl o_numbers))] [h_this, h_this_numbers] [(h_this, .inr (1, [.ref h_this_numbers, .int v_monomials])), (h_this_numbers, .inl (cI, 2325, .inl v_numbers))] 22 [(0, .ref h_this), (2, .int x2), (3, .int x3), (4, .int x4)] [] := by
  unfold f_Po_addXor_j22 at hf
  refine z_iconst (v := 0) C d_Po_addXor_22 (by decide) ?_
  refine z_istore (lv' := [(5, .int (0 : Int32)), (0, .ref h_this), (2, .int x2), (3, .int x3), (4, .int x4)]) C d_Po_addXor_23 (by decide) rfl ?_
  refine z_lv [1, 2, 3, 4, 0] rfl ?_
  obtain ⟨q_1, q_2, h_3, hf⟩ := zb2_elim hf
  refine k_Po_addXor_l25_run C hr h_3 ?_
  cases hf
  exact z_vret C hr d_Po_addXor_81
/-- PathSums$Polynomial.addXor(III)V -/
def f_Po_addXor (x1 : Int32) (x2 : Int32) (x3 : Int32) (v_monomials : Int32) (v_numbers : Nat → Int32) : Option (Int32 × (Nat → Int32)) :=
  if (f_Ps_has x2 (24 : Int32)) = 0 then (
    f_Po_addXor_j22 x2 x3 x1 v_monomials v_numbers)
  else (
    zb2 (f_Po_add x3 x1 v_monomials v_numbers) fun q_4 q_5 =>
    zlet (-x1) fun y_6 =>
    f_Po_addXor_j22 x2 x3 y_6 q_4 q_5)
set_option maxRecDepth 100000 in
set_option maxHeartbeats 4000000 in
theorem k_Po_addXor {p : Program} {l : Launch} {e : Env} {s : State} {m : MethodId} {args : Array Value} {below : List Frame} {meth : Method} {c : Code} {D : va_G} {cI cL : ClassId} {h_this h_this_numbers : Nat} {v_monomials o_monomials x1 x2 x3 : Int32} {v_numbers o_numbers : Nat → Int32} (C : zC p s m args meth c b_Po_addXor 6 R_Po D vwCl [(cI, .int), (cL, .long)] (zA [h_this, h_this_numbers] s.heap.size)) (hr : meth.sig.returnType = none) (hf : f_Po_addXor x1 x2 x3 v_monomials v_numbers = some (o_monomials, o_numbers)) : ZV p l e rm_Po_addXor s m args below meth c 6 D (none) [(h_this, .inr (1, [.ref h_this_numbers, .int o_monomials])), (h_this_numbers, .inl (cI, 2325, .inl o_numbers))] [h_this, h_this_numbers] [(h_this, .inr (1, [.ref h_this_numbers, .int v_monomials])), (h_this_numbers, .inl (cI, 2325, .inl v_numbers))] 0 [(0, .ref h_this), (1, .int x1), (2, .int x2), (3, .int x3)] [] := by
  unfold f_Po_addXor at hf
  refine z_iload_n C d_Po_addXor_0 rfl 1 rfl ?_
  refine z_istore (lv' := [(4, .int x1), (0, .ref h_this), (1, .int x1), (2, .int x2), (3, .int x3)]) C d_Po_addXor_1 (by decide) rfl ?_
  refine z_iload_n C d_Po_addXor_3 rfl 3 rfl ?_
  refine z_bipush (v := 24) C d_Po_addXor_4 (by decide) ?_
  refine z_callSN (As := [.int x2, .int (24 : Int32)]) (rest := []) (ws' := [(h_this, .inr (1, [.ref h_this_numbers, .int v_monomials])), (h_this_numbers, .inl (cI, 2325, .inl v_numbers))]) C (c_Ps_has rfl) mi_Ps_has (znest C 7 rfl) (by decide) [] (by decide) rfl rfl rfl rfl rfl (by decide) ⟨Nat.zero_le _, Nat.zero_le _⟩ d_Po_addXor_6 ?_
  refine z_if_eq (tgt := 22) C d_Po_addXor_9 (by decide) (fun c_2 => ?_) (fun c_2 => ?_)
  · have hf := zif_pos c_2 hf
    refine z_lv [1, 3, 4, 0] rfl ?_
    exact k_Po_addXor_j22 C hr hf
  · have hf := zif_neg c_2 hf
    refine z_aload_n C d_Po_addXor_12 rfl 1 rfl ?_
    refine z_iload_n C d_Po_addXor_13 rfl 4 rfl ?_
    refine z_iload_n C d_Po_addXor_14 rfl 2 rfl ?_
    obtain ⟨q_4, q_5, h_3, hf⟩ := zb2_elim hf
    refine z_callV (As := [.int x3, .int x1]) (rest := []) (ws' := [(h_this, .inr (1, [.ref h_this_numbers, .int q_4])), (h_this_numbers, .inl (cI, 2325, .inl q_5))]) C (c_Po_add h_3) mi_Po_add zw_231 (by decide) 0 rfl rfl [0, 1] (by decide) rfl rfl rfl rfl rfl (by decide) ⟨Nat.zero_le _, Nat.zero_le _⟩ d_Po_addXor_15 ?_
    refine z_iload_n C d_Po_addXor_18 rfl 2 rfl ?_
    refine z_ineg C d_Po_addXor_19 ?_
    refine z_topi (fun y_6 ey_6 => ?_)
    have hf := zlet_at ey_6 hf
    refine z_istore (lv' := [(4, .int y_6), (0, .ref h_this), (1, .int x1), (2, .int x2), (3, .int x3)]) C d_Po_addXor_20 (by decide) rfl ?_
    refine z_lv [1, 3, 4, 0] rfl ?_
    exact k_Po_addXor_j22 C hr hf
theorem c_Po_addXor {l : Launch} {D : va_G} {cI cL : ClassId} {h_this h_this_numbers : Nat} {v_monomials o_monomials x1 x2 x3 : Int32} {v_numbers o_numbers : Nat → Int32} (hf : f_Po_addXor x1 x2 x3 v_monomials v_numbers = some (o_monomials, o_numbers)) : zM l y_Po_addXor (Cond.code y_Po_addXor b_Po_addXor 6 none :: zT) rm_Po_addXor D vwCl [(cI, .int), (cL, .long)] [.ref h_this, .int x1, .int x2, .int x3] [(h_this, .inr (1, [.ref h_this_numbers, .int v_monomials])), (h_this_numbers, .inl (cI, 2325, .inl v_numbers))] [(h_this, .inr (1, [.ref h_this_numbers, .int o_monomials])), (h_this_numbers, .inl (cI, 2325, .inl o_numbers))] (none) :=
  zM.intro (by decide) rfl (fun _ h => List.mem_cons_of_mem _ h) (Nat.le_of_ble_eq_true rfl) (fun _ _ _ _ _ _ _ C hr _ => k_Po_addXor C hr hf)
def rm_Po_addFourTimes : Room := { frames := 3, cells := 0, slots := 0, locals := 72 }
def f_Po_addFourTimes_l47 (x1 : Int32) (x2 : Int32) (x3 : Int32) (x4 : Int32) (x5 : Int32) (x6 : Int32) (v_monomials : Int32) (v_numbers : Nat → Int32) : Option ((Int32 × Int32 × (Nat → Int32)) ⊕ (Int32 × (Nat → Int32))) :=
  if (24 : Int32) < x6 then (
    some (.inr (v_monomials, v_numbers)))
  else (
    if (f_Ps_has x3 x6) = 0 then (
      zlet (x6 + 1) fun y_4 =>
      some (.inl (y_4, v_monomials, v_numbers)))
    else (
      zb2 (f_Po_add (((((1 : Int32) <<< (x4 &&& 31)) ||| ((1 : Int32) <<< (x5 &&& 31))) ||| ((1 : Int32) <<< (x6 &&& 31))) &&& (16777215 : Int32)) (4 : Int32) v_monomials v_numbers) fun q_6 q_7 =>
      zlet (x6 + 1) fun y_8 =>
      some (.inl (y_8, q_6, q_7))))
set_option maxRecDepth 100000 in
set_option maxHeartbeats 4000000 in
theorem k_Po_addFourTimes_l47 {p : Program} {l : Launch} {e : Env} {s : State} {m : MethodId} {args : Array Value} {below : List Frame} {meth : Method} {c : Code} {D : va_G} {cI cL : ClassId} {h_this h_this_numbers : Nat} {v_monomials o_monomials x1 x2 x3 x4 x5 x6 : Int32} {v_numbers o_numbers : Nat → Int32} (C : zC p s m args meth c b_Po_addFourTimes 7 R_Po D vwCl [(cI, .int), (cL, .long)] (zA [h_this, h_this_numbers] s.heap.size)) (hr : meth.sig.returnType = none) {z : (Int32 × Int32 × (Nat → Int32)) ⊕ (Int32 × (Nat → Int32))} (hf : f_Po_addFourTimes_l47 x1 x2 x3 x4 x5 x6 v_monomials v_numbers = some z) (hK : zcase (fun q => ZV p l e rm_Po_addFourTimes s m args below meth c 7 D (none) [(h_this, .inr (1, [.ref h_this_numbers, .int o_monomials])), (h_this_numbers, .inl (cI, 2325, .inl o_numbers))] [h_this, h_this_numbers] [(h_this, .inr (1, [.ref h_this_numbers, .int q.2.1])), (h_this_numbers, .inl (cI, 2325, .inl q.2.2))] 47 [(0, .ref h_this), (1, .int x1), (2, .int x2), (3, .int x3), (4, .int x4), (5, .int x5), (6, .int q.1)] []) (fun q => ZV p l e rm_Po_addFourTimes s m args below meth c 7 D (none) [(h_this, .inr (1, [.ref h_this_numbers, .int o_monomials])), (h_this_numbers, .inl (cI, 2325, .inl o_numbers))] [h_this, h_this_numbers] [(h_this, .inr (1, [.ref h_this_numbers, .int q.1])), (h_this_numbers, .inl (cI, 2325, .inl q.2))] 91 [(0, .ref h_this), (1, .int x1), (2, .int x2), (3, .int x3), (4, .int x4), (5, .int x5)] []) z) : ZV p l e rm_Po_addFourTimes s m args below meth c 7 D (none) [(h_this, .inr (1, [.ref h_this_numbers, .int o_monomials])), (h_this_numbers, .inl (cI, 2325, .inl o_numbers))] [h_this, h_this_numbers] [(h_this, .inr (1, [.ref h_this_numbers, .int v_monomials])), (h_this_numbers, .inl (cI, 2325, .inl v_numbers))] 47 [(0, .ref h_this), (1, .int x1), (2, .int x2), (3, .int x3), (4, .int x4), (5, .int x5), (6, .int x6)] [] := by
  unfold f_Po_addFourTimes_l47 at hf
  refine z_iload C d_Po_addFourTimes_47 6 rfl ?_
  refine z_bipush (v := 24) C d_Po_addFourTimes_49 (by decide) ?_
  refine z_icmp_gt (tgt := 91) C d_Po_addFourTimes_51 (by decide) (fun c_1 => ?_) (fun c_1 => ?_)
  · have hf := zif_pos c_1 hf
    refine z_lv [0, 1, 2, 3, 4, 5] rfl ?_
    cases hf
    exact hK
  · have hf := zif_neg c_1 hf
    refine z_iload_n C d_Po_addFourTimes_54 rfl 3 rfl ?_
    refine z_iload C d_Po_addFourTimes_55 6 rfl ?_
    refine z_callSN (As := [.int x3, .int x6]) (rest := []) (ws' := [(h_this, .inr (1, [.ref h_this_numbers, .int v_monomials])), (h_this_numbers, .inl (cI, 2325, .inl v_numbers))]) C (c_Ps_has rfl) mi_Ps_has (znest C 7 rfl) (by decide) [] (by decide) rfl rfl rfl rfl rfl (by decide) ⟨Nat.zero_le _, Nat.zero_le _⟩ d_Po_addFourTimes_57 ?_
    refine z_if_eq (tgt := 85) C d_Po_addFourTimes_60 (by decide) (fun c_3 => ?_) (fun c_3 => ?_)
    · have hf := zif_pos c_3 hf
      obtain ⟨y_4, ey_4⟩ : ∃ y : Int32, y = x6 + 1 := ⟨_, rfl⟩
      have hf := zlet_at ey_4 hf
      refine z_iinc (v := y_4) (lv' := [(6, .int y_4), (0, .ref h_this), (1, .int x1), (2, .int x2), (3, .int x3), (4, .int x4), (5, .int x5)]) C d_Po_addFourTimes_85 (k := 6) rfl (by rw [ey_4]; rfl) (by decide) rfl ?_
      refine z_goto (tgt := 47) C d_Po_addFourTimes_88 (by decide) ?_
      refine z_lv [1, 2, 3, 4, 5, 6, 0] rfl ?_
      cases hf
      exact hK
    · have hf := zif_neg c_3 hf
      refine z_aload_n C d_Po_addFourTimes_63 rfl 0 rfl ?_
      refine z_iconst (v := 1) C d_Po_addFourTimes_64 (by decide) ?_
      refine z_iload C d_Po_addFourTimes_65 4 rfl ?_
      refine z_ishl C d_Po_addFourTimes_67 ?_
      refine z_iconst (v := 1) C d_Po_addFourTimes_68 (by decide) ?_
      refine z_iload C d_Po_addFourTimes_69 5 rfl ?_
      refine z_ishl C d_Po_addFourTimes_71 ?_
      refine z_ior C d_Po_addFourTimes_72 ?_
      refine z_iconst (v := 1) C d_Po_addFourTimes_73 (by decide) ?_
      refine z_iload C d_Po_addFourTimes_74 6 rfl ?_
      refine z_ishl C d_Po_addFourTimes_76 ?_
      refine z_ior C d_Po_addFourTimes_77 ?_
      refine z_ldc (v := 16777215) C zw_238 d_Po_addFourTimes_78 ?_
      refine z_iand C d_Po_addFourTimes_80 ?_
      refine z_iconst (v := 4) C d_Po_addFourTimes_81 (by decide) ?_
      obtain ⟨q_6, q_7, h_5, hf⟩ := zb2_elim hf
      refine z_callV (As := [.int (((((1 : Int32) <<< (x4 &&& 31)) ||| ((1 : Int32) <<< (x5 &&& 31))) ||| ((1 : Int32) <<< (x6 &&& 31))) &&& (16777215 : Int32)), .int (4 : Int32)]) (rest := []) (ws' := [(h_this, .inr (1, [.ref h_this_numbers, .int q_6])), (h_this_numbers, .inl (cI, 2325, .inl q_7))]) C (c_Po_add h_5) mi_Po_add zw_231 (by decide) 0 rfl rfl [0, 1] (by decide) rfl rfl rfl rfl rfl (by decide) ⟨Nat.zero_le _, Nat.zero_le _⟩ d_Po_addFourTimes_82 ?_
      obtain ⟨y_8, ey_8⟩ : ∃ y : Int32, y = x6 + 1 := ⟨_, rfl⟩
      have hf := zlet_at ey_8 hf
      refine z_iinc (v := y_8) (lv' := [(6, .int y_8), (0, .ref h_this), (1, .int x1), (2, .int x2), (3, .int x3), (4, .int x4), (5, .int x5)]) C d_Po_addFourTimes_85 (k := 6) rfl (by rw [ey_8]; rfl) (by decide) rfl ?_
      refine z_goto (tgt := 47) C d_Po_addFourTimes_88 (by decide) ?_
      refine z_lv [1, 2, 3, 4, 5, 6, 0] rfl ?_
      cases hf
      exact hK
theorem k_Po_addFourTimes_l47_run {p : Program} {l : Launch} {e : Env} {s : State} {m : MethodId} {args : Array Value} {below : List Frame} {meth : Method} {c : Code} {D : va_G} {cI cL : ClassId} {h_this h_this_numbers : Nat} {v_monomials o_monomials x1 x2 x3 x4 x5 x6 : Int32} {v_numbers o_numbers : Nat → Int32} (C : zC p s m args meth c b_Po_addFourTimes 7 R_Po D vwCl [(cI, .int), (cL, .long)] (zA [h_this, h_this_numbers] s.heap.size)) (hr : meth.sig.returnType = none) {o0 : Int32} {o1 : Nat → Int32} (hf : zloop (fun q => f_Po_addFourTimes_l47 x1 x2 x3 x4 x5 q.1 q.2.1 q.2.2) zF (x6, v_monomials, v_numbers) = some (o0, o1)) (hK : ZV p l e rm_Po_addFourTimes s m args below meth c 7 D (none) [(h_this, .inr (1, [.ref h_this_numbers, .int o_monomials])), (h_this_numbers, .inl (cI, 2325, .inl o_numbers))] [h_this, h_this_numbers] [(h_this, .inr (1, [.ref h_this_numbers, .int o0])), (h_this_numbers, .inl (cI, 2325, .inl o1))] 91 [(0, .ref h_this), (1, .int x1), (2, .int x2), (3, .int x3), (4, .int x4), (5, .int x5)] []) : ZV p l e rm_Po_addFourTimes s m args below meth c 7 D (none) [(h_this, .inr (1, [.ref h_this_numbers, .int o_monomials])), (h_this_numbers, .inl (cI, 2325, .inl o_numbers))] [h_this, h_this_numbers] [(h_this, .inr (1, [.ref h_this_numbers, .int v_monomials])), (h_this_numbers, .inl (cI, 2325, .inl v_numbers))] 47 [(0, .ref h_this), (1, .int x1), (2, .int x2), (3, .int x3), (4, .int x4), (5, .int x5), (6, .int x6)] [] :=
  zloop_run (P := fun q => ZV p l e rm_Po_addFourTimes s m args below meth c 7 D (none) [(h_this, .inr (1, [.ref h_this_numbers, .int o_monomials])), (h_this_numbers, .inl (cI, 2325, .inl o_numbers))] [h_this, h_this_numbers] [(h_this, .inr (1, [.ref h_this_numbers, .int q.2.1])), (h_this_numbers, .inl (cI, 2325, .inl q.2.2))] 47 [(0, .ref h_this), (1, .int x1), (2, .int x2), (3, .int x3), (4, .int x4), (5, .int x5), (6, .int q.1)] []) (K := (fun q => ZV p l e rm_Po_addFourTimes s m args below meth c 7 D (none) [(h_this, .inr (1, [.ref h_this_numbers, .int o_monomials])), (h_this_numbers, .inl (cI, 2325, .inl o_numbers))] [h_this, h_this_numbers] [(h_this, .inr (1, [.ref h_this_numbers, .int q.1])), (h_this_numbers, .inl (cI, 2325, .inl q.2))] 91 [(0, .ref h_this), (1, .int x1), (2, .int x2), (3, .int x3), (4, .int x4), (5, .int x5)] [])) (fun q z hz hK => k_Po_addFourTimes_l47 C hr hz hK) zF _ ((o0, o1)) hf hK
def f_Po_addFourTimes_l25 (x1 : Int32) (x2 : Int32) (x3 : Int32) (x4 : Int32) (x5 : Int32) (v_monomials : Int32) (v_numbers : Nat → Int32) : Option ((Int32 × Int32 × (Nat → Int32)) ⊕ (Int32 × (Nat → Int32))) :=
  if (24 : Int32) < x5 then (
    some (.inr (v_monomials, v_numbers)))
  else (
    if (f_Ps_has x2 x5) = 0 then (
      zlet (x5 + 1) fun y_4 =>
      some (.inl (y_4, v_monomials, v_numbers)))
    else (
      zb2 (zloop (fun q => f_Po_addFourTimes_l47 x1 x2 x3 x4 x5 q.1 q.2.1 q.2.2) zF ((0 : Int32), v_monomials, v_numbers)) fun q_5 q_6 =>
      zlet (x5 + 1) fun y_8 =>
      some (.inl (y_8, q_5, q_6))))
set_option maxRecDepth 100000 in
set_option maxHeartbeats 4000000 in
theorem k_Po_addFourTimes_l25 {p : Program} {l : Launch} {e : Env} {s : State} {m : MethodId} {args : Array Value} {below : List Frame} {meth : Method} {c : Code} {D : va_G} {cI cL : ClassId} {h_this h_this_numbers : Nat} {v_monomials o_monomials x1 x2 x3 x4 x5 : Int32} {v_numbers o_numbers : Nat → Int32} (C : zC p s m args meth c b_Po_addFourTimes 7 R_Po D vwCl [(cI, .int), (cL, .long)] (zA [h_this, h_this_numbers] s.heap.size)) (hr : meth.sig.returnType = none) {z : (Int32 × Int32 × (Nat → Int32)) ⊕ (Int32 × (Nat → Int32))} (hf : f_Po_addFourTimes_l25 x1 x2 x3 x4 x5 v_monomials v_numbers = some z) (hK : zcase (fun q => ZV p l e rm_Po_addFourTimes s m args below meth c 7 D (none) [(h_this, .inr (1, [.ref h_this_numbers, .int o_monomials])), (h_this_numbers, .inl (cI, 2325, .inl o_numbers))] [h_this, h_this_numbers] [(h_this, .inr (1, [.ref h_this_numbers, .int q.2.1])), (h_this_numbers, .inl (cI, 2325, .inl q.2.2))] 25 [(0, .ref h_this), (1, .int x1), (2, .int x2), (3, .int x3), (4, .int x4), (5, .int q.1)] []) (fun q => ZV p l e rm_Po_addFourTimes s m args below meth c 7 D (none) [(h_this, .inr (1, [.ref h_this_numbers, .int o_monomials])), (h_this_numbers, .inl (cI, 2325, .inl o_numbers))] [h_this, h_this_numbers] [(h_this, .inr (1, [.ref h_this_numbers, .int q.1])), (h_this_numbers, .inl (cI, 2325, .inl q.2))] 97 [(0, .ref h_this), (1, .int x1), (2, .int x2), (3, .int x3), (4, .int x4)] []) z) : ZV p l e rm_Po_addFourTimes s m args below meth c 7 D (none) [(h_this, .inr (1, [.ref h_this_numbers, .int o_monomials])), (h_this_numbers, .inl (cI, 2325, .inl o_numbers))] [h_this, h_this_numbers] [(h_this, .inr (1, [.ref h_this_numbers, .int v_monomials])), (h_this_numbers, .inl (cI, 2325, .inl v_numbers))] 25 [(0, .ref h_this), (1, .int x1), (2, .int x2), (3, .int x3), (4, .int x4), (5, .int x5)] [] := by
  unfold f_Po_addFourTimes_l25 at hf
  refine z_iload C d_Po_addFourTimes_25 5 rfl ?_
  refine z_bipush (v := 24) C d_Po_addFourTimes_27 (by decide) ?_
  refine z_icmp_gt (tgt := 97) C d_Po_addFourTimes_29 (by decide) (fun c_1 => ?_) (fun c_1 => ?_)
  · have hf := zif_pos c_1 hf
    refine z_lv [0, 1, 2, 3, 4] rfl ?_
    cases hf
    exact hK
  · have hf := zif_neg c_1 hf
    refine z_iload_n C d_Po_addFourTimes_32 rfl 2 rfl ?_
    refine z_iload C d_Po_addFourTimes_33 5 rfl ?_
    refine z_callSN (As := [.int x2, .int x5]) (rest := []) (ws' := [(h_this, .inr (1, [.ref h_this_numbers, .int v_monomials])), (h_this_numbers, .inl (cI, 2325, .inl v_numbers))]) C (c_Ps_has rfl) mi_Ps_has (znest C 7 rfl) (by decide) [] (by decide) rfl rfl rfl rfl rfl (by decide) ⟨Nat.zero_le _, Nat.zero_le _⟩ d_Po_addFourTimes_35 ?_
    refine z_if_ne (tgt := 44) C d_Po_addFourTimes_38 (by decide) (fun c_3 => ?_) (fun c_3 => ?_)
    · have hf := zif_neg c_3 hf
      refine z_iconst (v := 0) C d_Po_addFourTimes_44 (by decide) ?_
      refine z_istore (lv' := [(6, .int (0 : Int32)), (0, .ref h_this), (1, .int x1), (2, .int x2), (3, .int x3), (4, .int x4), (5, .int x5)]) C d_Po_addFourTimes_45 (by decide) rfl ?_
      refine z_lv [1, 2, 3, 4, 5, 6, 0] rfl ?_
      obtain ⟨q_5, q_6, h_7, hf⟩ := zb2_elim hf
      refine k_Po_addFourTimes_l47_run C hr h_7 ?_
      obtain ⟨y_8, ey_8⟩ : ∃ y : Int32, y = x5 + 1 := ⟨_, rfl⟩
      have hf := zlet_at ey_8 hf
      refine z_iinc (v := y_8) (lv' := [(5, .int y_8), (0, .ref h_this), (1, .int x1), (2, .int x2), (3, .int x3), (4, .int x4)]) C d_Po_addFourTimes_91 (k := 5) rfl (by rw [ey_8]; rfl) (by decide) rfl ?_
      refine z_goto (tgt := 25) C d_Po_addFourTimes_94 (by decide) ?_
      refine z_lv [1, 2, 3, 4, 5, 0] rfl ?_
      cases hf
      exact hK
    · have hf := zif_pos c_3 hf
      refine z_goto (tgt := 91) C d_Po_addFourTimes_41 (by decide) ?_
      obtain ⟨y_4, ey_4⟩ : ∃ y : Int32, y = x5 + 1 := ⟨_, rfl⟩
      have hf := zlet_at ey_4 hf
      refine z_iinc (v := y_4) (lv' := [(5, .int y_4), (0, .ref h_this), (1, .int x1), (2, .int x2), (3, .int x3), (4, .int x4)]) C d_Po_addFourTimes_91 (k := 5) rfl (by rw [ey_4]; rfl) (by decide) rfl ?_
      refine z_goto (tgt := 25) C d_Po_addFourTimes_94 (by decide) ?_
      refine z_lv [1, 2, 3, 4, 5, 0] rfl ?_
      cases hf
      exact hK
theorem k_Po_addFourTimes_l25_run {p : Program} {l : Launch} {e : Env} {s : State} {m : MethodId} {args : Array Value} {below : List Frame} {meth : Method} {c : Code} {D : va_G} {cI cL : ClassId} {h_this h_this_numbers : Nat} {v_monomials o_monomials x1 x2 x3 x4 x5 : Int32} {v_numbers o_numbers : Nat → Int32} (C : zC p s m args meth c b_Po_addFourTimes 7 R_Po D vwCl [(cI, .int), (cL, .long)] (zA [h_this, h_this_numbers] s.heap.size)) (hr : meth.sig.returnType = none) {o0 : Int32} {o1 : Nat → Int32} (hf : zloop (fun q => f_Po_addFourTimes_l25 x1 x2 x3 x4 q.1 q.2.1 q.2.2) zF (x5, v_monomials, v_numbers) = some (o0, o1)) (hK : ZV p l e rm_Po_addFourTimes s m args below meth c 7 D (none) [(h_this, .inr (1, [.ref h_this_numbers, .int o_monomials])), (h_this_numbers, .inl (cI, 2325, .inl o_numbers))] [h_this, h_this_numbers] [(h_this, .inr (1, [.ref h_this_numbers, .int o0])), (h_this_numbers, .inl (cI, 2325, .inl o1))] 97 [(0, .ref h_this), (1, .int x1), (2, .int x2), (3, .int x3), (4, .int x4)] []) : ZV p l e rm_Po_addFourTimes s m args below meth c 7 D (none) [(h_this, .inr (1, [.ref h_this_numbers, .int o_monomials])), (h_this_numbers, .inl (cI, 2325, .inl o_numbers))] [h_this, h_this_numbers] [(h_this, .inr (1, [.ref h_this_numbers, .int v_monomials])), (h_this_numbers, .inl (cI, 2325, .inl v_numbers))] 25 [(0, .ref h_this), (1, .int x1), (2, .int x2), (3, .int x3), (4, .int x4), (5, .int x5)] [] :=
  zloop_run (P := fun q => ZV p l e rm_Po_addFourTimes s m args below meth c 7 D (none) [(h_this, .inr (1, [.ref h_this_numbers, .int o_monomials])), (h_this_numbers, .inl (cI, 2325, .inl o_numbers))] [h_this, h_this_numbers] [(h_this, .inr (1, [.ref h_this_numbers, .int q.2.1])), (h_this_numbers, .inl (cI, 2325, .inl q.2.2))] 25 [(0, .ref h_this), (1, .int x1), (2, .int x2), (3, .int x3), (4, .int x4), (5, .int q.1)] []) (K := (fun q => ZV p l e rm_Po_addFourTimes s m args below meth c 7 D (none) [(h_this, .inr (1, [.ref h_this_numbers, .int o_monomials])), (h_this_numbers, .inl (cI, 2325, .inl o_numbers))] [h_this, h_this_numbers] [(h_this, .inr (1, [.ref h_this_numbers, .int q.1])), (h_this_numbers, .inl (cI, 2325, .inl q.2))] 97 [(0, .ref h_this), (1, .int x1), (2, .int x2), (3, .int x3), (4, .int x4)] [])) (fun q z hz hK => k_Po_addFourTimes_l25 C hr hz hK) zF _ ((o0, o1)) hf hK
def f_Po_addFourTimes_l3 (x1 : Int32) (x2 : Int32) (x3 : Int32) (x4 : Int32) (v_monomials : Int32) (v_numbers : Nat → Int32) : Option ((Int32 × Int32 × (Nat → Int32)) ⊕ (Int32 × (Nat → Int32))) :=
  if (24 : Int32) < x4 then (
    some (.inr (v_monomials, v_numbers)))
  else (
    if (f_Ps_has x1 x4) = 0 then (
      zlet (x4 + 1) fun y_4 =>
      some (.inl (y_4, v_monomials, v_numbers)))
    else (
      zb2 (zloop (fun q => f_Po_addFourTimes_l25 x1 x2 x3 x4 q.1 q.2.1 q.2.2) zF ((0 : Int32), v_monomials, v_numbers)) fun q_5 q_6 =>
      zlet (x4 + 1) fun y_8 =>
      some (.inl (y_8, q_5, q_6))))
set_option maxRecDepth 100000 in
set_option maxHeartbeats 4000000 in
theorem k_Po_addFourTimes_l3 {p : Program} {l : Launch} {e : Env} {s : State} {m : MethodId} {args : Array Value} {below : List Frame} {meth : Method} {c : Code} {D : va_G} {cI cL : ClassId} {h_this h_this_numbers : Nat} {v_monomials o_monomials x1 x2 x3 x4 : Int32} {v_numbers o_numbers : Nat → Int32} (C : zC p s m args meth c b_Po_addFourTimes 7 R_Po D vwCl [(cI, .int), (cL, .long)] (zA [h_this, h_this_numbers] s.heap.size)) (hr : meth.sig.returnType = none) {z : (Int32 × Int32 × (Nat → Int32)) ⊕ (Int32 × (Nat → Int32))} (hf : f_Po_addFourTimes_l3 x1 x2 x3 x4 v_monomials v_numbers = some z) (hK : zcase (fun q => ZV p l e rm_Po_addFourTimes s m args below meth c 7 D (none) [(h_this, .inr (1, [.ref h_this_numbers, .int o_monomials])), (h_this_numbers, .inl (cI, 2325, .inl o_numbers))] [h_this, h_this_numbers] [(h_this, .inr (1, [.ref h_this_numbers, .int q.2.1])), (h_this_numbers, .inl (cI, 2325, .inl q.2.2))] 3 [(0, .ref h_this), (1, .int x1), (2, .int x2), (3, .int x3), (4, .int q.1)] []) (fun q => ZV p l e rm_Po_addFourTimes s m args below meth c 7 D (none) [(h_this, .inr (1, [.ref h_this_numbers, .int o_monomials])), (h_this_numbers, .inl (cI, 2325, .inl o_numbers))] [h_this, h_this_numbers] [(h_this, .inr (1, [.ref h_this_numbers, .int q.1])), (h_this_numbers, .inl (cI, 2325, .inl q.2))] 103 [] []) z) : ZV p l e rm_Po_addFourTimes s m args below meth c 7 D (none) [(h_this, .inr (1, [.ref h_this_numbers, .int o_monomials])), (h_this_numbers, .inl (cI, 2325, .inl o_numbers))] [h_this, h_this_numbers] [(h_this, .inr (1, [.ref h_this_numbers, .int v_monomials])), (h_this_numbers, .inl (cI, 2325, .inl v_numbers))] 3 [(0, .ref h_this), (1, .int x1), (2, .int x2), (3, .int x3), (4, .int x4)] [] := by
  unfold f_Po_addFourTimes_l3 at hf
  refine z_iload C d_Po_addFourTimes_3 4 rfl ?_
  refine z_bipush (v := 24) C d_Po_addFourTimes_5 (by decide) ?_
  refine z_icmp_gt (tgt := 103) C d_Po_addFourTimes_7 (by decide) (fun c_1 => ?_) (fun c_1 => ?_)
  · have hf := zif_pos c_1 hf
    refine z_lv [] rfl ?_
    cases hf
    exact hK
  · have hf := zif_neg c_1 hf
    refine z_iload_n C d_Po_addFourTimes_10 rfl 1 rfl ?_
    refine z_iload C d_Po_addFourTimes_11 4 rfl ?_
    refine z_callSN (As := [.int x1, .int x4]) (rest := []) (ws' := [(h_this, .inr (1, [.ref h_this_numbers, .int v_monomials])), (h_this_numbers, .inl (cI, 2325, .inl v_numbers))]) C (c_Ps_has rfl) mi_Ps_has (znest C 7 rfl) (by decide) [] (by decide) rfl rfl rfl rfl rfl (by decide) ⟨Nat.zero_le _, Nat.zero_le _⟩ d_Po_addFourTimes_13 ?_
    refine z_if_ne (tgt := 22) C d_Po_addFourTimes_16 (by decide) (fun c_3 => ?_) (fun c_3 => ?_)
    · have hf := zif_neg c_3 hf
      refine z_iconst (v := 0) C d_Po_addFourTimes_22 (by decide) ?_
      refine z_istore (lv' := [(5, .int (0 : Int32)), (0, .ref h_this), (1, .int x1), (2, .int x2), (3, .int x3), (4, .int x4)]) C d_Po_addFourTimes_23 (by decide) rfl ?_
      refine z_lv [1, 2, 3, 4, 5, 0] rfl ?_
      obtain ⟨q_5, q_6, h_7, hf⟩ := zb2_elim hf
      refine k_Po_addFourTimes_l25_run C hr h_7 ?_
      obtain ⟨y_8, ey_8⟩ : ∃ y : Int32, y = x4 + 1 := ⟨_, rfl⟩
      have hf := zlet_at ey_8 hf
      refine z_iinc (v := y_8) (lv' := [(4, .int y_8), (0, .ref h_this), (1, .int x1), (2, .int x2), (3, .int x3)]) C d_Po_addFourTimes_97 (k := 4) rfl (by rw [ey_8]; rfl) (by decide) rfl ?_
      refine z_goto (tgt := 3) C d_Po_addFourTimes_100 (by decide) ?_
      refine z_lv [1, 2, 3, 4, 0] rfl ?_
      cases hf
      exact hK
    · have hf := zif_pos c_3 hf
      refine z_goto (tgt := 97) C d_Po_addFourTimes_19 (by decide) ?_
      obtain ⟨y_4, ey_4⟩ : ∃ y : Int32, y = x4 + 1 := ⟨_, rfl⟩
      have hf := zlet_at ey_4 hf
      refine z_iinc (v := y_4) (lv' := [(4, .int y_4), (0, .ref h_this), (1, .int x1), (2, .int x2), (3, .int x3)]) C d_Po_addFourTimes_97 (k := 4) rfl (by rw [ey_4]; rfl) (by decide) rfl ?_
      refine z_goto (tgt := 3) C d_Po_addFourTimes_100 (by decide) ?_
      refine z_lv [1, 2, 3, 4, 0] rfl ?_
      cases hf
      exact hK
theorem k_Po_addFourTimes_l3_run {p : Program} {l : Launch} {e : Env} {s : State} {m : MethodId} {args : Array Value} {below : List Frame} {meth : Method} {c : Code} {D : va_G} {cI cL : ClassId} {h_this h_this_numbers : Nat} {v_monomials o_monomials x1 x2 x3 x4 : Int32} {v_numbers o_numbers : Nat → Int32} (C : zC p s m args meth c b_Po_addFourTimes 7 R_Po D vwCl [(cI, .int), (cL, .long)] (zA [h_this, h_this_numbers] s.heap.size)) (hr : meth.sig.returnType = none) {o0 : Int32} {o1 : Nat → Int32} (hf : zloop (fun q => f_Po_addFourTimes_l3 x1 x2 x3 q.1 q.2.1 q.2.2) zF (x4, v_monomials, v_numbers) = some (o0, o1)) (hK : ZV p l e rm_Po_addFourTimes s m args below meth c 7 D (none) [(h_this, .inr (1, [.ref h_this_numbers, .int o_monomials])), (h_this_numbers, .inl (cI, 2325, .inl o_numbers))] [h_this, h_this_numbers] [(h_this, .inr (1, [.ref h_this_numbers, .int o0])), (h_this_numbers, .inl (cI, 2325, .inl o1))] 103 [] []) : ZV p l e rm_Po_addFourTimes s m args below meth c 7 D (none) [(h_this, .inr (1, [.ref h_this_numbers, .int o_monomials])), (h_this_numbers, .inl (cI, 2325, .inl o_numbers))] [h_this, h_this_numbers] [(h_this, .inr (1, [.ref h_this_numbers, .int v_monomials])), (h_this_numbers, .inl (cI, 2325, .inl v_numbers))] 3 [(0, .ref h_this), (1, .int x1), (2, .int x2), (3, .int x3), (4, .int x4)] [] :=
  zloop_run (P := fun q => ZV p l e rm_Po_addFourTimes s m args below meth c 7 D (none) [(h_this, .inr (1, [.ref h_this_numbers, .int o_monomials])), (h_this_numbers, .inl (cI, 2325, .inl o_numbers))] [h_this, h_this_numbers] [(h_this, .inr (1, [.ref h_this_numbers, .int q.2.1])), (h_this_numbers, .inl (cI, 2325, .inl q.2.2))] 3 [(0, .ref h_this), (1, .int x1), (2, .int x2), (3, .int x3), (4, .int q.1)] []) (K := (fun q => ZV p l e rm_Po_addFourTimes s m args below meth c 7 D (none) [(h_this, .inr (1, [.ref h_this_numbers, .int o_monomials])), (h_this_numbers, .inl (cI, 2325, .inl o_numbers))] [h_this, h_this_numbers] [(h_this, .inr (1, [.ref h_this_numbers, .int q.1])), (h_this_numbers, .inl (cI, 2325, .inl q.2))] 103 [] [])) (fun q z hz hK => k_Po_addFourTimes_l3 C hr hz hK) zF _ ((o0, o1)) hf hK
/-- PathSums$Polynomial.addFourTimes(III)V -/
def f_Po_addFourTimes (x1 : Int32) (x2 : Int32) (x3 : Int32) (v_monomials : Int32) (v_numbers : Nat → Int32) : Option (Int32 × (Nat → Int32)) :=
  zb2 (zloop (fun q => f_Po_addFourTimes_l3 x1 x2 x3 q.1 q.2.1 q.2.2) zF ((0 : Int32), v_monomials, v_numbers)) fun q_1 q_2 =>
  some (q_1, q_2)
set_option maxRecDepth 100000 in
set_option maxHeartbeats 4000000 in
theorem k_Po_addFourTimes {p : Program} {l : Launch} {e : Env} {s : State} {m : MethodId} {args : Array Value} {below : List Frame} {meth : Method} {c : Code} {D : va_G} {cI cL : ClassId} {h_this h_this_numbers : Nat} {v_monomials o_monomials x1 x2 x3 : Int32} {v_numbers o_numbers : Nat → Int32} (C : zC p s m args meth c b_Po_addFourTimes 7 R_Po D vwCl [(cI, .int), (cL, .long)] (zA [h_this, h_this_numbers] s.heap.size)) (hr : meth.sig.returnType = none) (hf : f_Po_addFourTimes x1 x2 x3 v_monomials v_numbers = some (o_monomials, o_numbers)) : ZV p l e rm_Po_addFourTimes s m args below meth c 7 D (none) [(h_this, .inr (1, [.ref h_this_numbers, .int o_monomials])), (h_this_numbers, .inl (cI, 2325, .inl o_numbers))] [h_this, h_this_numbers] [(h_this, .inr (1, [.ref h_this_numbers, .int v_monomials])), (h_this_numbers, .inl (cI, 2325, .inl v_numbers))] 0 [(0, .ref h_this), (1, .int x1), (2, .int x2), (3, .int x3)] [] := by
  unfold f_Po_addFourTimes at hf
  refine z_iconst (v := 0) C d_Po_addFourTimes_0 (by decide) ?_
  refine z_istore (lv' := [(4, .int (0 : Int32)), (0, .ref h_this), (1, .int x1), (2, .int x2), (3, .int x3)]) C d_Po_addFourTimes_1 (by decide) rfl ?_
  refine z_lv [1, 2, 3, 4, 0] rfl ?_
  obtain ⟨q_1, q_2, h_3, hf⟩ := zb2_elim hf
  refine k_Po_addFourTimes_l3_run C hr h_3 ?_
  cases hf
  exact z_vret C hr d_Po_addFourTimes_103
theorem c_Po_addFourTimes {l : Launch} {D : va_G} {cI cL : ClassId} {h_this h_this_numbers : Nat} {v_monomials o_monomials x1 x2 x3 : Int32} {v_numbers o_numbers : Nat → Int32} (hf : f_Po_addFourTimes x1 x2 x3 v_monomials v_numbers = some (o_monomials, o_numbers)) : zM l y_Po_addFourTimes (Cond.code y_Po_addFourTimes b_Po_addFourTimes 7 none :: zT) rm_Po_addFourTimes D vwCl [(cI, .int), (cL, .long)] [.ref h_this, .int x1, .int x2, .int x3] [(h_this, .inr (1, [.ref h_this_numbers, .int v_monomials])), (h_this_numbers, .inl (cI, 2325, .inl v_numbers))] [(h_this, .inr (1, [.ref h_this_numbers, .int o_monomials])), (h_this_numbers, .inl (cI, 2325, .inl o_numbers))] (none) :=
  zM.intro (by decide) rfl (fun _ h => List.mem_cons_of_mem _ h) (Nat.le_of_ble_eq_true rfl) (fun _ _ _ _ _ _ _ C hr _ => k_Po_addFourTimes C hr hf)
def rm_Po_replaceBit : Room := { frames := 6, cells := 0, slots := 0, locals := 146 }
def f_Po_replaceBit_l11 (x1 : Int32) (x2 : Int32) (x3 : Int32) (x4 : Int32) (v_monomials : Int32) (v_numbers : Nat → Int32) : Option ((Int32 × Int32 × (Nat → Int32)) ⊕ (Int32 × (Nat → Int32))) :=
  if x3 < x4 then (
    some (.inr (v_monomials, v_numbers)))
  else (
    zlet ((((1 : Int32) <<< (x1 &&& 31)) ||| ((1 : Int32) <<< (x3 &&& 31))) ||| ((1 : Int32) <<< (x4 &&& 31))) fun y_2 =>
    zb1 (f_Po_numberOf y_2 v_numbers) fun r_4 =>
    if r_4 = 0 then (
      zlet (x4 + 1) fun y_6 =>
      some (.inl (y_6, v_monomials, v_numbers)))
    else (
      zb2 (f_Po_add y_2 (-r_4) v_monomials v_numbers) fun q_8 q_9 =>
      zb2 (f_Po_addXor r_4 x2 (y_2 &&& (((1 : Int32) <<< (x1 &&& 31)) ^^^ (-1 : Int32))) q_8 q_9) fun q_11 q_12 =>
      zlet (x4 + 1) fun y_13 =>
      some (.inl (y_13, q_11, q_12))))
set_option maxRecDepth 100000 in
set_option maxHeartbeats 4000000 in
theorem k_Po_replaceBit_l11 {p : Program} {l : Launch} {e : Env} {s : State} {m : MethodId} {args : Array Value} {below : List Frame} {meth : Method} {c : Code} {D : va_G} {cI cL : ClassId} {h_this h_this_numbers : Nat} {v_monomials o_monomials x1 x2 x3 x4 : Int32} {v_numbers o_numbers : Nat → Int32} (C : zC p s m args meth c b_Po_replaceBit 7 R_Po D vwCl [(cI, .int), (cL, .long)] (zA [h_this, h_this_numbers] s.heap.size)) (hr : meth.sig.returnType = none) {z : (Int32 × Int32 × (Nat → Int32)) ⊕ (Int32 × (Nat → Int32))} (hf : f_Po_replaceBit_l11 x1 x2 x3 x4 v_monomials v_numbers = some z) (hK : zcase (fun q => ZV p l e rm_Po_replaceBit s m args below meth c 7 D (none) [(h_this, .inr (1, [.ref h_this_numbers, .int o_monomials])), (h_this_numbers, .inl (cI, 2325, .inl o_numbers))] [h_this, h_this_numbers] [(h_this, .inr (1, [.ref h_this_numbers, .int q.2.1])), (h_this_numbers, .inl (cI, 2325, .inl q.2.2))] 11 [(0, .ref h_this), (1, .int x1), (2, .int x2), (3, .int x3), (4, .int q.1)] []) (fun q => ZV p l e rm_Po_replaceBit s m args below meth c 7 D (none) [(h_this, .inr (1, [.ref h_this_numbers, .int o_monomials])), (h_this_numbers, .inl (cI, 2325, .inl o_numbers))] [h_this, h_this_numbers] [(h_this, .inr (1, [.ref h_this_numbers, .int q.1])), (h_this_numbers, .inl (cI, 2325, .inl q.2))] 74 [(0, .ref h_this), (1, .int x1), (2, .int x2), (3, .int x3)] []) z) : ZV p l e rm_Po_replaceBit s m args below meth c 7 D (none) [(h_this, .inr (1, [.ref h_this_numbers, .int o_monomials])), (h_this_numbers, .inl (cI, 2325, .inl o_numbers))] [h_this, h_this_numbers] [(h_this, .inr (1, [.ref h_this_numbers, .int v_monomials])), (h_this_numbers, .inl (cI, 2325, .inl v_numbers))] 11 [(0, .ref h_this), (1, .int x1), (2, .int x2), (3, .int x3), (4, .int x4)] [] := by
  unfold f_Po_replaceBit_l11 at hf
  refine z_iload C d_Po_replaceBit_11 4 rfl ?_
  refine z_iload_n C d_Po_replaceBit_13 rfl 3 rfl ?_
  refine z_icmp_gt (tgt := 74) C d_Po_replaceBit_14 (by decide) (fun c_1 => ?_) (fun c_1 => ?_)
  · have hf := zif_pos c_1 hf
    refine z_lv [0, 1, 2, 3] rfl ?_
    cases hf
    exact hK
  · have hf := zif_neg c_1 hf
    refine z_iconst (v := 1) C d_Po_replaceBit_17 (by decide) ?_
    refine z_iload_n C d_Po_replaceBit_18 rfl 1 rfl ?_
    refine z_ishl C d_Po_replaceBit_19 ?_
    refine z_iconst (v := 1) C d_Po_replaceBit_20 (by decide) ?_
    refine z_iload_n C d_Po_replaceBit_21 rfl 3 rfl ?_
    refine z_ishl C d_Po_replaceBit_22 ?_
    refine z_ior C d_Po_replaceBit_23 ?_
    refine z_iconst (v := 1) C d_Po_replaceBit_24 (by decide) ?_
    refine z_iload C d_Po_replaceBit_25 4 rfl ?_
    refine z_ishl C d_Po_replaceBit_27 ?_
    refine z_ior C d_Po_replaceBit_28 ?_
    refine z_topi (fun y_2 ey_2 => ?_)
    have hf := zlet_at ey_2 hf
    refine z_istore (lv' := [(5, .int y_2), (0, .ref h_this), (1, .int x1), (2, .int x2), (3, .int x3), (4, .int x4)]) C d_Po_replaceBit_29 (by decide) rfl ?_
    refine z_aload_n C d_Po_replaceBit_31 rfl 1 rfl ?_
    refine z_iload C d_Po_replaceBit_32 0 rfl ?_
    obtain ⟨r_4, h_3, hf⟩ := zb1_elim hf
    refine z_callV (As := [.int y_2]) (rest := []) (ws' := [(h_this, .inr (1, [.ref h_this_numbers, .int v_monomials])), (h_this_numbers, .inl (cI, 2325, .inl v_numbers))]) C (c_Po_numberOf h_3) mi_Po_numberOf zw_282 (by decide) 0 rfl rfl [0, 1] (by decide) rfl rfl rfl rfl rfl (by decide) ⟨Nat.zero_le _, Nat.zero_le _⟩ d_Po_replaceBit_34 ?_
    refine z_istore (lv' := [(6, .int r_4), (5, .int y_2), (0, .ref h_this), (1, .int x1), (2, .int x2), (3, .int x3), (4, .int x4)]) C d_Po_replaceBit_37 (by decide) rfl ?_
    refine z_iload C d_Po_replaceBit_39 0 rfl ?_
    refine z_if_eq (tgt := 68) C d_Po_replaceBit_41 (by decide) (fun c_5 => ?_) (fun c_5 => ?_)
    · have hf := zif_pos c_5 hf
      obtain ⟨y_6, ey_6⟩ : ∃ y : Int32, y = x4 + 1 := ⟨_, rfl⟩
      have hf := zlet_at ey_6 hf
      refine z_iinc (v := y_6) (lv' := [(4, .int y_6), (6, .int r_4), (5, .int y_2), (0, .ref h_this), (1, .int x1), (2, .int x2), (3, .int x3)]) C d_Po_replaceBit_68 (k := 6) rfl (by rw [ey_6]; rfl) (by decide) rfl ?_
      refine z_goto (tgt := 11) C d_Po_replaceBit_71 (by decide) ?_
      refine z_lv [3, 4, 5, 6, 0] rfl ?_
      cases hf
      exact hK
    · have hf := zif_neg c_5 hf
      refine z_aload_n C d_Po_replaceBit_44 rfl 2 rfl ?_
      refine z_iload C d_Po_replaceBit_45 1 rfl ?_
      refine z_iload C d_Po_replaceBit_47 0 rfl ?_
      refine z_ineg C d_Po_replaceBit_49 ?_
      obtain ⟨q_8, q_9, h_7, hf⟩ := zb2_elim hf
      refine z_callV (As := [.int y_2, .int (-r_4)]) (rest := []) (ws' := [(h_this, .inr (1, [.ref h_this_numbers, .int q_8])), (h_this_numbers, .inl (cI, 2325, .inl q_9))]) C (c_Po_add h_7) mi_Po_add zw_231 (by decide) 0 rfl rfl [0, 1] (by decide) rfl rfl rfl rfl rfl (by decide) ⟨Nat.zero_le _, Nat.zero_le _⟩ d_Po_replaceBit_50 ?_
      refine z_aload_n C d_Po_replaceBit_53 rfl 2 rfl ?_
      refine z_iload C d_Po_replaceBit_54 0 rfl ?_
      refine z_iload_n C d_Po_replaceBit_56 rfl 4 rfl ?_
      refine z_iload C d_Po_replaceBit_57 1 rfl ?_
      refine z_iconst (v := 1) C d_Po_replaceBit_59 (by decide) ?_
      refine z_iload_n C d_Po_replaceBit_60 rfl 3 rfl ?_
      refine z_ishl C d_Po_replaceBit_61 ?_
      refine z_iconst (v := -1) C d_Po_replaceBit_62 (by decide) ?_
      refine z_ixor C d_Po_replaceBit_63 ?_
      refine z_iand C d_Po_replaceBit_64 ?_
      obtain ⟨q_11, q_12, h_10, hf⟩ := zb2_elim hf
      refine z_callV (As := [.int r_4, .int x2, .int (y_2 &&& (((1 : Int32) <<< (x1 &&& 31)) ^^^ (-1 : Int32)))]) (rest := []) (ws' := [(h_this, .inr (1, [.ref h_this_numbers, .int q_11])), (h_this_numbers, .inl (cI, 2325, .inl q_12))]) C (c_Po_addXor h_10) mi_Po_addXor zw_302 (by decide) 0 rfl rfl [0, 1] (by decide) rfl rfl rfl rfl rfl (by decide) ⟨Nat.zero_le _, Nat.zero_le _⟩ d_Po_replaceBit_65 ?_
      obtain ⟨y_13, ey_13⟩ : ∃ y : Int32, y = x4 + 1 := ⟨_, rfl⟩
      have hf := zlet_at ey_13 hf
      refine z_iinc (v := y_13) (lv' := [(4, .int y_13), (6, .int r_4), (5, .int y_2), (0, .ref h_this), (1, .int x1), (2, .int x2), (3, .int x3)]) C d_Po_replaceBit_68 (k := 6) rfl (by rw [ey_13]; rfl) (by decide) rfl ?_
      refine z_goto (tgt := 11) C d_Po_replaceBit_71 (by decide) ?_
      refine z_lv [3, 4, 5, 6, 0] rfl ?_
      cases hf
      exact hK
theorem k_Po_replaceBit_l11_run {p : Program} {l : Launch} {e : Env} {s : State} {m : MethodId} {args : Array Value} {below : List Frame} {meth : Method} {c : Code} {D : va_G} {cI cL : ClassId} {h_this h_this_numbers : Nat} {v_monomials o_monomials x1 x2 x3 x4 : Int32} {v_numbers o_numbers : Nat → Int32} (C : zC p s m args meth c b_Po_replaceBit 7 R_Po D vwCl [(cI, .int), (cL, .long)] (zA [h_this, h_this_numbers] s.heap.size)) (hr : meth.sig.returnType = none) {o0 : Int32} {o1 : Nat → Int32} (hf : zloop (fun q => f_Po_replaceBit_l11 x1 x2 x3 q.1 q.2.1 q.2.2) zF (x4, v_monomials, v_numbers) = some (o0, o1)) (hK : ZV p l e rm_Po_replaceBit s m args below meth c 7 D (none) [(h_this, .inr (1, [.ref h_this_numbers, .int o_monomials])), (h_this_numbers, .inl (cI, 2325, .inl o_numbers))] [h_this, h_this_numbers] [(h_this, .inr (1, [.ref h_this_numbers, .int o0])), (h_this_numbers, .inl (cI, 2325, .inl o1))] 74 [(0, .ref h_this), (1, .int x1), (2, .int x2), (3, .int x3)] []) : ZV p l e rm_Po_replaceBit s m args below meth c 7 D (none) [(h_this, .inr (1, [.ref h_this_numbers, .int o_monomials])), (h_this_numbers, .inl (cI, 2325, .inl o_numbers))] [h_this, h_this_numbers] [(h_this, .inr (1, [.ref h_this_numbers, .int v_monomials])), (h_this_numbers, .inl (cI, 2325, .inl v_numbers))] 11 [(0, .ref h_this), (1, .int x1), (2, .int x2), (3, .int x3), (4, .int x4)] [] :=
  zloop_run (P := fun q => ZV p l e rm_Po_replaceBit s m args below meth c 7 D (none) [(h_this, .inr (1, [.ref h_this_numbers, .int o_monomials])), (h_this_numbers, .inl (cI, 2325, .inl o_numbers))] [h_this, h_this_numbers] [(h_this, .inr (1, [.ref h_this_numbers, .int q.2.1])), (h_this_numbers, .inl (cI, 2325, .inl q.2.2))] 11 [(0, .ref h_this), (1, .int x1), (2, .int x2), (3, .int x3), (4, .int q.1)] []) (K := (fun q => ZV p l e rm_Po_replaceBit s m args below meth c 7 D (none) [(h_this, .inr (1, [.ref h_this_numbers, .int o_monomials])), (h_this_numbers, .inl (cI, 2325, .inl o_numbers))] [h_this, h_this_numbers] [(h_this, .inr (1, [.ref h_this_numbers, .int q.1])), (h_this_numbers, .inl (cI, 2325, .inl q.2))] 74 [(0, .ref h_this), (1, .int x1), (2, .int x2), (3, .int x3)] [])) (fun q z hz hK => k_Po_replaceBit_l11 C hr hz hK) zF _ ((o0, o1)) hf hK
def f_Po_replaceBit_l2 (x1 : Int32) (x2 : Int32) (x3 : Int32) (v_monomials : Int32) (v_numbers : Nat → Int32) : Option ((Int32 × Int32 × (Nat → Int32)) ⊕ (Int32 × (Nat → Int32))) :=
  if (24 : Int32) ≤ x3 then (
    some (.inr (v_monomials, v_numbers)))
  else (
    zb2 (zloop (fun q => f_Po_replaceBit_l11 x1 x2 x3 q.1 q.2.1 q.2.2) zF ((0 : Int32), v_monomials, v_numbers)) fun q_2 q_3 =>
    zlet (x3 + 1) fun y_5 =>
    some (.inl (y_5, q_2, q_3)))
set_option maxRecDepth 100000 in
set_option maxHeartbeats 4000000 in
theorem k_Po_replaceBit_l2 {p : Program} {l : Launch} {e : Env} {s : State} {m : MethodId} {args : Array Value} {below : List Frame} {meth : Method} {c : Code} {D : va_G} {cI cL : ClassId} {h_this h_this_numbers : Nat} {v_monomials o_monomials x1 x2 x3 : Int32} {v_numbers o_numbers : Nat → Int32} (C : zC p s m args meth c b_Po_replaceBit 7 R_Po D vwCl [(cI, .int), (cL, .long)] (zA [h_this, h_this_numbers] s.heap.size)) (hr : meth.sig.returnType = none) {z : (Int32 × Int32 × (Nat → Int32)) ⊕ (Int32 × (Nat → Int32))} (hf : f_Po_replaceBit_l2 x1 x2 x3 v_monomials v_numbers = some z) (hK : zcase (fun q => ZV p l e rm_Po_replaceBit s m args below meth c 7 D (none) [(h_this, .inr (1, [.ref h_this_numbers, .int o_monomials])), (h_this_numbers, .inl (cI, 2325, .inl o_numbers))] [h_this, h_this_numbers] [(h_this, .inr (1, [.ref h_this_numbers, .int q.2.1])), (h_this_numbers, .inl (cI, 2325, .inl q.2.2))] 2 [(0, .ref h_this), (1, .int x1), (2, .int x2), (3, .int q.1)] []) (fun q => ZV p l e rm_Po_replaceBit s m args below meth c 7 D (none) [(h_this, .inr (1, [.ref h_this_numbers, .int o_monomials])), (h_this_numbers, .inl (cI, 2325, .inl o_numbers))] [h_this, h_this_numbers] [(h_this, .inr (1, [.ref h_this_numbers, .int q.1])), (h_this_numbers, .inl (cI, 2325, .inl q.2))] 80 [] []) z) : ZV p l e rm_Po_replaceBit s m args below meth c 7 D (none) [(h_this, .inr (1, [.ref h_this_numbers, .int o_monomials])), (h_this_numbers, .inl (cI, 2325, .inl o_numbers))] [h_this, h_this_numbers] [(h_this, .inr (1, [.ref h_this_numbers, .int v_monomials])), (h_this_numbers, .inl (cI, 2325, .inl v_numbers))] 2 [(0, .ref h_this), (1, .int x1), (2, .int x2), (3, .int x3)] [] := by
  unfold f_Po_replaceBit_l2 at hf
  refine z_iload_n C d_Po_replaceBit_2 rfl 3 rfl ?_
  refine z_bipush (v := 24) C d_Po_replaceBit_3 (by decide) ?_
  refine z_icmp_ge (tgt := 80) C d_Po_replaceBit_5 (by decide) (fun c_1 => ?_) (fun c_1 => ?_)
  · have hf := zif_pos c_1 hf
    refine z_lv [] rfl ?_
    cases hf
    exact hK
  · have hf := zif_neg c_1 hf
    refine z_iconst (v := 0) C d_Po_replaceBit_8 (by decide) ?_
    refine z_istore (lv' := [(4, .int (0 : Int32)), (0, .ref h_this), (1, .int x1), (2, .int x2), (3, .int x3)]) C d_Po_replaceBit_9 (by decide) rfl ?_
    refine z_lv [1, 2, 3, 4, 0] rfl ?_
    obtain ⟨q_2, q_3, h_4, hf⟩ := zb2_elim hf
    refine k_Po_replaceBit_l11_run C hr h_4 ?_
    obtain ⟨y_5, ey_5⟩ : ∃ y : Int32, y = x3 + 1 := ⟨_, rfl⟩
    have hf := zlet_at ey_5 hf
    refine z_iinc (v := y_5) (lv' := [(3, .int y_5), (0, .ref h_this), (1, .int x1), (2, .int x2)]) C d_Po_replaceBit_74 (k := 3) rfl (by rw [ey_5]; rfl) (by decide) rfl ?_
    refine z_goto (tgt := 2) C d_Po_replaceBit_77 (by decide) ?_
    refine z_lv [1, 2, 3, 0] rfl ?_
    cases hf
    exact hK
theorem k_Po_replaceBit_l2_run {p : Program} {l : Launch} {e : Env} {s : State} {m : MethodId} {args : Array Value} {below : List Frame} {meth : Method} {c : Code} {D : va_G} {cI cL : ClassId} {h_this h_this_numbers : Nat} {v_monomials o_monomials x1 x2 x3 : Int32} {v_numbers o_numbers : Nat → Int32} (C : zC p s m args meth c b_Po_replaceBit 7 R_Po D vwCl [(cI, .int), (cL, .long)] (zA [h_this, h_this_numbers] s.heap.size)) (hr : meth.sig.returnType = none) {o0 : Int32} {o1 : Nat → Int32} (hf : zloop (fun q => f_Po_replaceBit_l2 x1 x2 q.1 q.2.1 q.2.2) zF (x3, v_monomials, v_numbers) = some (o0, o1)) (hK : ZV p l e rm_Po_replaceBit s m args below meth c 7 D (none) [(h_this, .inr (1, [.ref h_this_numbers, .int o_monomials])), (h_this_numbers, .inl (cI, 2325, .inl o_numbers))] [h_this, h_this_numbers] [(h_this, .inr (1, [.ref h_this_numbers, .int o0])), (h_this_numbers, .inl (cI, 2325, .inl o1))] 80 [] []) : ZV p l e rm_Po_replaceBit s m args below meth c 7 D (none) [(h_this, .inr (1, [.ref h_this_numbers, .int o_monomials])), (h_this_numbers, .inl (cI, 2325, .inl o_numbers))] [h_this, h_this_numbers] [(h_this, .inr (1, [.ref h_this_numbers, .int v_monomials])), (h_this_numbers, .inl (cI, 2325, .inl v_numbers))] 2 [(0, .ref h_this), (1, .int x1), (2, .int x2), (3, .int x3)] [] :=
  zloop_run (P := fun q => ZV p l e rm_Po_replaceBit s m args below meth c 7 D (none) [(h_this, .inr (1, [.ref h_this_numbers, .int o_monomials])), (h_this_numbers, .inl (cI, 2325, .inl o_numbers))] [h_this, h_this_numbers] [(h_this, .inr (1, [.ref h_this_numbers, .int q.2.1])), (h_this_numbers, .inl (cI, 2325, .inl q.2.2))] 2 [(0, .ref h_this), (1, .int x1), (2, .int x2), (3, .int q.1)] []) (K := (fun q => ZV p l e rm_Po_replaceBit s m args below meth c 7 D (none) [(h_this, .inr (1, [.ref h_this_numbers, .int o_monomials])), (h_this_numbers, .inl (cI, 2325, .inl o_numbers))] [h_this, h_this_numbers] [(h_this, .inr (1, [.ref h_this_numbers, .int q.1])), (h_this_numbers, .inl (cI, 2325, .inl q.2))] 80 [] [])) (fun q z hz hK => k_Po_replaceBit_l2 C hr hz hK) zF _ ((o0, o1)) hf hK
/-- PathSums$Polynomial.replaceBit(II)V -/
def f_Po_replaceBit (x1 : Int32) (x2 : Int32) (v_monomials : Int32) (v_numbers : Nat → Int32) : Option (Int32 × (Nat → Int32)) :=
  zb2 (zloop (fun q => f_Po_replaceBit_l2 x1 x2 q.1 q.2.1 q.2.2) zF ((0 : Int32), v_monomials, v_numbers)) fun q_1 q_2 =>
  some (q_1, q_2)
set_option maxRecDepth 100000 in
set_option maxHeartbeats 4000000 in
theorem k_Po_replaceBit {p : Program} {l : Launch} {e : Env} {s : State} {m : MethodId} {args : Array Value} {below : List Frame} {meth : Method} {c : Code} {D : va_G} {cI cL : ClassId} {h_this h_this_numbers : Nat} {v_monomials o_monomials x1 x2 : Int32} {v_numbers o_numbers : Nat → Int32} (C : zC p s m args meth c b_Po_replaceBit 7 R_Po D vwCl [(cI, .int), (cL, .long)] (zA [h_this, h_this_numbers] s.heap.size)) (hr : meth.sig.returnType = none) (hf : f_Po_replaceBit x1 x2 v_monomials v_numbers = some (o_monomials, o_numbers)) : ZV p l e rm_Po_replaceBit s m args below meth c 7 D (none) [(h_this, .inr (1, [.ref h_this_numbers, .int o_monomials])), (h_this_numbers, .inl (cI, 2325, .inl o_numbers))] [h_this, h_this_numbers] [(h_this, .inr (1, [.ref h_this_numbers, .int v_monomials])), (h_this_numbers, .inl (cI, 2325, .inl v_numbers))] 0 [(0, .ref h_this), (1, .int x1), (2, .int x2)] [] := by
  unfold f_Po_replaceBit at hf
  refine z_iconst (v := 0) C d_Po_replaceBit_0 (by decide) ?_
  refine z_istore_n (lv' := [(3, .int (0 : Int32)), (0, .ref h_this), (1, .int x1), (2, .int x2)]) C d_Po_replaceBit_1 rfl (by decide) rfl ?_
  refine z_lv [1, 2, 3, 0] rfl ?_
  obtain ⟨q_1, q_2, h_3, hf⟩ := zb2_elim hf
  refine k_Po_replaceBit_l2_run C hr h_3 ?_
  cases hf
  exact z_vret C hr d_Po_replaceBit_80
theorem c_Po_replaceBit {l : Launch} {D : va_G} {cI cL : ClassId} {h_this h_this_numbers : Nat} {v_monomials o_monomials x1 x2 : Int32} {v_numbers o_numbers : Nat → Int32} (hf : f_Po_replaceBit x1 x2 v_monomials v_numbers = some (o_monomials, o_numbers)) : zM l y_Po_replaceBit (Cond.code y_Po_replaceBit b_Po_replaceBit 7 none :: zT) rm_Po_replaceBit D vwCl [(cI, .int), (cL, .long)] [.ref h_this, .int x1, .int x2] [(h_this, .inr (1, [.ref h_this_numbers, .int v_monomials])), (h_this_numbers, .inl (cI, 2325, .inl v_numbers))] [(h_this, .inr (1, [.ref h_this_numbers, .int o_monomials])), (h_this_numbers, .inl (cI, 2325, .inl o_numbers))] (none) :=
  zM.intro (by decide) rfl (fun _ h => List.mem_cons_of_mem _ h) (Nat.le_of_ble_eq_true rfl) (fun _ _ _ _ _ _ _ C hr _ => k_Po_replaceBit C hr hf)
def rm_Po_partnersOf : Room := { frames := 3, cells := 0, slots := 0, locals := 69 }
def f_Po_partnersOf_l13 (x1 : Int32) (x3 : Int32) (v_numbers : Nat → Int32) (x2 : Int32) (x4 : Int32) : Option ((Int32 × Int32) ⊕ ((Int32) ⊕ (Int32))) :=
  if x3 < x4 then (
    some (.inr (.inl (x2))))
  else (
    zlet ((((1 : Int32) <<< (x1 &&& 31)) ||| ((1 : Int32) <<< (x3 &&& 31))) ||| ((1 : Int32) <<< (x4 &&& 31))) fun y_2 =>
    if y_2 = ((1 : Int32) <<< (x1 &&& 31)) then (
      zlet (x2 ||| (0 : Int32)) fun y_4 =>
      zlet (x4 + 1) fun y_5 =>
      some (.inl (y_4, y_5)))
    else (
      zb1 (f_Po_numberOf y_2 v_numbers) fun r_7 =>
      if r_7 = 0 then (
        if r_7 = 0 then (
          zlet (x2 ||| (0 : Int32)) fun y_10 =>
          zlet (x4 + 1) fun y_11 =>
          some (.inl (y_10, y_11)))
        else (
          zlet (x2 ||| (y_2 &&& (((1 : Int32) <<< (x1 &&& 31)) ^^^ (-1 : Int32)))) fun y_12 =>
          zlet (x4 + 1) fun y_13 =>
          some (.inl (y_12, y_13))))
      else (
        if r_7 = (4 : Int32) then (
          if (f_Jint_bitCount y_2) ≤ (2 : Int32) then (
            if r_7 = 0 then (
              zlet (x2 ||| (0 : Int32)) fun y_18 =>
              zlet (x4 + 1) fun y_19 =>
              some (.inl (y_18, y_19)))
            else (
              zlet (x2 ||| (y_2 &&& (((1 : Int32) <<< (x1 &&& 31)) ^^^ (-1 : Int32)))) fun y_20 =>
              zlet (x4 + 1) fun y_21 =>
              some (.inl (y_20, y_21))))
          else (
            some (.inr (.inr (-1 : Int32)))))
        else (
          some (.inr (.inr (-1 : Int32)))))))
set_option maxRecDepth 100000 in
set_option maxHeartbeats 4000000 in
theorem k_Po_partnersOf_l13 {p : Program} {l : Launch} {e : Env} {s : State} {m : MethodId} {args : Array Value} {below : List Frame} {meth : Method} {c : Code} {D : va_G} {cI cL : ClassId} {h_this h_this_numbers : Nat} {v_monomials rr x1 x2 x3 x4 : Int32} {v_numbers : Nat → Int32} (C : zC p s m args meth c b_Po_partnersOf 7 R_Po D vwCl [(cI, .int), (cL, .long)] (zA [h_this, h_this_numbers] s.heap.size)) (hr : meth.sig.returnType = some .int) {z : (Int32 × Int32) ⊕ ((Int32) ⊕ (Int32))} (hf : f_Po_partnersOf_l13 x1 x3 v_numbers x2 x4 = some z) (hK : zcase (fun q => ZV p l e rm_Po_partnersOf s m args below meth c 7 D (some (.int rr)) [(h_this, .inr (1, [.ref h_this_numbers, .int v_monomials])), (h_this_numbers, .inl (cI, 2325, .inl v_numbers))] [h_this, h_this_numbers] [(h_this, .inr (1, [.ref h_this_numbers, .int v_monomials])), (h_this_numbers, .inl (cI, 2325, .inl v_numbers))] 13 [(0, .ref h_this), (1, .int x1), (2, .int q.1), (3, .int x3), (4, .int q.2)] []) (zcase (fun q => ZV p l e rm_Po_partnersOf s m args below meth c 7 D (some (.int rr)) [(h_this, .inr (1, [.ref h_this_numbers, .int v_monomials])), (h_this_numbers, .inl (cI, 2325, .inl v_numbers))] [h_this, h_this_numbers] [(h_this, .inr (1, [.ref h_this_numbers, .int v_monomials])), (h_this_numbers, .inl (cI, 2325, .inl v_numbers))] 101 [(0, .ref h_this), (1, .int x1), (2, .int q), (3, .int x3)] []) (fun w => w = rr)) z) : ZV p l e rm_Po_partnersOf s m args below meth c 7 D (some (.int rr)) [(h_this, .inr (1, [.ref h_this_numbers, .int v_monomials])), (h_this_numbers, .inl (cI, 2325, .inl v_numbers))] [h_this, h_this_numbers] [(h_this, .inr (1, [.ref h_this_numbers, .int v_monomials])), (h_this_numbers, .inl (cI, 2325, .inl v_numbers))] 13 [(0, .ref h_this), (1, .int x1), (2, .int x2), (3, .int x3), (4, .int x4)] [] := by
  unfold f_Po_partnersOf_l13 at hf
  refine z_iload C d_Po_partnersOf_13 4 rfl ?_
  refine z_iload_n C d_Po_partnersOf_15 rfl 3 rfl ?_
  refine z_icmp_gt (tgt := 101) C d_Po_partnersOf_16 (by decide) (fun c_1 => ?_) (fun c_1 => ?_)
  · have hf := zif_pos c_1 hf
    refine z_lv [0, 1, 2, 3] rfl ?_
    cases hf
    exact hK
  · have hf := zif_neg c_1 hf
    refine z_iconst (v := 1) C d_Po_partnersOf_19 (by decide) ?_
    refine z_iload_n C d_Po_partnersOf_20 rfl 1 rfl ?_
    refine z_ishl C d_Po_partnersOf_21 ?_
    refine z_iconst (v := 1) C d_Po_partnersOf_22 (by decide) ?_
    refine z_iload_n C d_Po_partnersOf_23 rfl 3 rfl ?_
    refine z_ishl C d_Po_partnersOf_24 ?_
    refine z_ior C d_Po_partnersOf_25 ?_
    refine z_iconst (v := 1) C d_Po_partnersOf_26 (by decide) ?_
    refine z_iload C d_Po_partnersOf_27 4 rfl ?_
    refine z_ishl C d_Po_partnersOf_29 ?_
    refine z_ior C d_Po_partnersOf_30 ?_
    refine z_topi (fun y_2 ey_2 => ?_)
    have hf := zlet_at ey_2 hf
    refine z_istore (lv' := [(5, .int y_2), (0, .ref h_this), (1, .int x1), (2, .int x2), (3, .int x3), (4, .int x4)]) C d_Po_partnersOf_31 (by decide) rfl ?_
    refine z_iload C d_Po_partnersOf_33 0 rfl ?_
    refine z_iconst (v := 1) C d_Po_partnersOf_35 (by decide) ?_
    refine z_iload_n C d_Po_partnersOf_36 rfl 2 rfl ?_
    refine z_ishl C d_Po_partnersOf_37 ?_
    refine z_icmp_ne (tgt := 45) C d_Po_partnersOf_38 (by decide) (fun c_3 => ?_) (fun c_3 => ?_)
    · have hf := zif_neg c_3 hf
      refine z_aload_n C d_Po_partnersOf_45 rfl 1 rfl ?_
      refine z_iload C d_Po_partnersOf_46 0 rfl ?_
      obtain ⟨r_7, h_6, hf⟩ := zb1_elim hf
      refine z_callV (As := [.int y_2]) (rest := []) (ws' := [(h_this, .inr (1, [.ref h_this_numbers, .int v_monomials])), (h_this_numbers, .inl (cI, 2325, .inl v_numbers))]) C (c_Po_numberOf h_6) mi_Po_numberOf zw_282 (by decide) 0 rfl rfl [0, 1] (by decide) rfl rfl rfl rfl rfl (by decide) ⟨Nat.zero_le _, Nat.zero_le _⟩ d_Po_partnersOf_48 ?_
      refine z_istore (lv' := [(6, .int r_7), (5, .int y_2), (0, .ref h_this), (1, .int x1), (2, .int x2), (3, .int x3), (4, .int x4)]) C d_Po_partnersOf_51 (by decide) rfl ?_
      refine z_iload C d_Po_partnersOf_53 0 rfl ?_
      refine z_if_eq (tgt := 75) C d_Po_partnersOf_55 (by decide) (fun c_8 => ?_) (fun c_8 => ?_)
      · have hf := zif_pos c_8 hf
        refine z_iload_n C d_Po_partnersOf_75 rfl 4 rfl ?_
        refine z_iload C d_Po_partnersOf_76 0 rfl ?_
        refine z_if_ne (tgt := 85) C d_Po_partnersOf_78 (by decide) (fun c_9 => ?_) (fun c_9 => ?_)
        · have hf := zif_neg c_9 hf
          refine z_iload C d_Po_partnersOf_85 1 rfl ?_
          refine z_iconst (v := 1) C d_Po_partnersOf_87 (by decide) ?_
          refine z_iload_n C d_Po_partnersOf_88 rfl 3 rfl ?_
          refine z_ishl C d_Po_partnersOf_89 ?_
          refine z_iconst (v := -1) C d_Po_partnersOf_90 (by decide) ?_
          refine z_ixor C d_Po_partnersOf_91 ?_
          refine z_iand C d_Po_partnersOf_92 ?_
          refine z_ior C d_Po_partnersOf_93 ?_
          refine z_topi (fun y_12 ey_12 => ?_)
          have hf := zlet_at ey_12 hf
          refine z_istore_n (lv' := [(2, .int y_12), (6, .int r_7), (5, .int y_2), (0, .ref h_this), (1, .int x1), (3, .int x3), (4, .int x4)]) C d_Po_partnersOf_94 rfl (by decide) rfl ?_
          obtain ⟨y_13, ey_13⟩ : ∃ y : Int32, y = x4 + 1 := ⟨_, rfl⟩
          have hf := zlet_at ey_13 hf
          refine z_iinc (v := y_13) (lv' := [(4, .int y_13), (2, .int y_12), (6, .int r_7), (5, .int y_2), (0, .ref h_this), (1, .int x1), (3, .int x3)]) C d_Po_partnersOf_95 (k := 6) rfl (by rw [ey_13]; rfl) (by decide) rfl ?_
          refine z_goto (tgt := 13) C d_Po_partnersOf_98 (by decide) ?_
          refine z_lv [4, 5, 1, 6, 0] rfl ?_
          cases hf
          exact hK
        · have hf := zif_pos c_9 hf
          refine z_iconst (v := 0) C d_Po_partnersOf_81 (by decide) ?_
          refine z_goto (tgt := 93) C d_Po_partnersOf_82 (by decide) ?_
          refine z_ior C d_Po_partnersOf_93 ?_
          refine z_topi (fun y_10 ey_10 => ?_)
          have hf := zlet_at ey_10 hf
          refine z_istore_n (lv' := [(2, .int y_10), (6, .int r_7), (5, .int y_2), (0, .ref h_this), (1, .int x1), (3, .int x3), (4, .int x4)]) C d_Po_partnersOf_94 rfl (by decide) rfl ?_
          obtain ⟨y_11, ey_11⟩ : ∃ y : Int32, y = x4 + 1 := ⟨_, rfl⟩
          have hf := zlet_at ey_11 hf
          refine z_iinc (v := y_11) (lv' := [(4, .int y_11), (2, .int y_10), (6, .int r_7), (5, .int y_2), (0, .ref h_this), (1, .int x1), (3, .int x3)]) C d_Po_partnersOf_95 (k := 6) rfl (by rw [ey_11]; rfl) (by decide) rfl ?_
          refine z_goto (tgt := 13) C d_Po_partnersOf_98 (by decide) ?_
          refine z_lv [4, 5, 1, 6, 0] rfl ?_
          cases hf
          exact hK
      · have hf := zif_neg c_8 hf
        refine z_iload C d_Po_partnersOf_58 0 rfl ?_
        refine z_iconst (v := 4) C d_Po_partnersOf_60 (by decide) ?_
        refine z_icmp_ne (tgt := 73) C d_Po_partnersOf_61 (by decide) (fun c_14 => ?_) (fun c_14 => ?_)
        · have hf := zif_neg c_14 hf
          refine z_iconst (v := -1) C d_Po_partnersOf_73 (by decide) ?_
          cases hf
          have hK : (-1 : Int32) = rr := hK
          cases hK
          exact z_iret C hr d_Po_partnersOf_74
        · have hf := zif_pos c_14 hf
          refine z_iload C d_Po_partnersOf_64 1 rfl ?_
          refine z_callS (As := [.int y_2]) (rest := []) (ws' := [(h_this, .inr (1, [.ref h_this_numbers, .int v_monomials])), (h_this_numbers, .inl (cI, 2325, .inl v_numbers))]) C (c_Jint_bitCount rfl) mi_Jint_bitCount zw_239 (by decide) [] (by decide) rfl rfl rfl rfl rfl (by decide) ⟨Nat.zero_le _, Nat.zero_le _⟩ d_Po_partnersOf_66 ?_
          refine z_iconst (v := 2) C d_Po_partnersOf_69 (by decide) ?_
          refine z_icmp_le (tgt := 75) C d_Po_partnersOf_70 (by decide) (fun c_16 => ?_) (fun c_16 => ?_)
          · have hf := zif_pos c_16 hf
            refine z_iload_n C d_Po_partnersOf_75 rfl 4 rfl ?_
            refine z_iload C d_Po_partnersOf_76 0 rfl ?_
            refine z_if_ne (tgt := 85) C d_Po_partnersOf_78 (by decide) (fun c_17 => ?_) (fun c_17 => ?_)
            · have hf := zif_neg c_17 hf
              refine z_iload C d_Po_partnersOf_85 1 rfl ?_
              refine z_iconst (v := 1) C d_Po_partnersOf_87 (by decide) ?_
              refine z_iload_n C d_Po_partnersOf_88 rfl 3 rfl ?_
              refine z_ishl C d_Po_partnersOf_89 ?_
              refine z_iconst (v := -1) C d_Po_partnersOf_90 (by decide) ?_
              refine z_ixor C d_Po_partnersOf_91 ?_
              refine z_iand C d_Po_partnersOf_92 ?_
              refine z_ior C d_Po_partnersOf_93 ?_
              refine z_topi (fun y_20 ey_20 => ?_)
              have hf := zlet_at ey_20 hf
              refine z_istore_n (lv' := [(2, .int y_20), (6, .int r_7), (5, .int y_2), (0, .ref h_this), (1, .int x1), (3, .int x3), (4, .int x4)]) C d_Po_partnersOf_94 rfl (by decide) rfl ?_
              obtain ⟨y_21, ey_21⟩ : ∃ y : Int32, y = x4 + 1 := ⟨_, rfl⟩
              have hf := zlet_at ey_21 hf
              refine z_iinc (v := y_21) (lv' := [(4, .int y_21), (2, .int y_20), (6, .int r_7), (5, .int y_2), (0, .ref h_this), (1, .int x1), (3, .int x3)]) C d_Po_partnersOf_95 (k := 6) rfl (by rw [ey_21]; rfl) (by decide) rfl ?_
              refine z_goto (tgt := 13) C d_Po_partnersOf_98 (by decide) ?_
              refine z_lv [4, 5, 1, 6, 0] rfl ?_
              cases hf
              exact hK
            · have hf := zif_pos c_17 hf
              refine z_iconst (v := 0) C d_Po_partnersOf_81 (by decide) ?_
              refine z_goto (tgt := 93) C d_Po_partnersOf_82 (by decide) ?_
              refine z_ior C d_Po_partnersOf_93 ?_
              refine z_topi (fun y_18 ey_18 => ?_)
              have hf := zlet_at ey_18 hf
              refine z_istore_n (lv' := [(2, .int y_18), (6, .int r_7), (5, .int y_2), (0, .ref h_this), (1, .int x1), (3, .int x3), (4, .int x4)]) C d_Po_partnersOf_94 rfl (by decide) rfl ?_
              obtain ⟨y_19, ey_19⟩ : ∃ y : Int32, y = x4 + 1 := ⟨_, rfl⟩
              have hf := zlet_at ey_19 hf
              refine z_iinc (v := y_19) (lv' := [(4, .int y_19), (2, .int y_18), (6, .int r_7), (5, .int y_2), (0, .ref h_this), (1, .int x1), (3, .int x3)]) C d_Po_partnersOf_95 (k := 6) rfl (by rw [ey_19]; rfl) (by decide) rfl ?_
              refine z_goto (tgt := 13) C d_Po_partnersOf_98 (by decide) ?_
              refine z_lv [4, 5, 1, 6, 0] rfl ?_
              cases hf
              exact hK
          · have hf := zif_neg c_16 hf
            refine z_iconst (v := -1) C d_Po_partnersOf_73 (by decide) ?_
            cases hf
            have hK : (-1 : Int32) = rr := hK
            cases hK
            exact z_iret C hr d_Po_partnersOf_74
    · have hf := zif_pos c_3 hf
      refine z_iconst (v := 0) C d_Po_partnersOf_41 (by decide) ?_
      refine z_goto (tgt := 51) C d_Po_partnersOf_42 (by decide) ?_
      refine z_istore (lv' := [(6, .int (0 : Int32)), (5, .int y_2), (0, .ref h_this), (1, .int x1), (2, .int x2), (3, .int x3), (4, .int x4)]) C d_Po_partnersOf_51 (by decide) rfl ?_
      refine z_iload C d_Po_partnersOf_53 0 rfl ?_
      refine z_if_eq (tgt := 75) C d_Po_partnersOf_55 (by decide) (fun _ => ?_) (fun c => absurd c (by decide))
      refine z_iload_n C d_Po_partnersOf_75 rfl 4 rfl ?_
      refine z_iload C d_Po_partnersOf_76 0 rfl ?_
      refine z_if_ne (tgt := 85) C d_Po_partnersOf_78 (by decide) (fun c => absurd c (by decide)) (fun _ => ?_)
      refine z_iconst (v := 0) C d_Po_partnersOf_81 (by decide) ?_
      refine z_goto (tgt := 93) C d_Po_partnersOf_82 (by decide) ?_
      refine z_ior C d_Po_partnersOf_93 ?_
      refine z_topi (fun y_4 ey_4 => ?_)
      have hf := zlet_at ey_4 hf
      refine z_istore_n (lv' := [(2, .int y_4), (6, .int (0 : Int32)), (5, .int y_2), (0, .ref h_this), (1, .int x1), (3, .int x3), (4, .int x4)]) C d_Po_partnersOf_94 rfl (by decide) rfl ?_
      obtain ⟨y_5, ey_5⟩ : ∃ y : Int32, y = x4 + 1 := ⟨_, rfl⟩
      have hf := zlet_at ey_5 hf
      refine z_iinc (v := y_5) (lv' := [(4, .int y_5), (2, .int y_4), (6, .int (0 : Int32)), (5, .int y_2), (0, .ref h_this), (1, .int x1), (3, .int x3)]) C d_Po_partnersOf_95 (k := 6) rfl (by rw [ey_5]; rfl) (by decide) rfl ?_
      refine z_goto (tgt := 13) C d_Po_partnersOf_98 (by decide) ?_
      refine z_lv [4, 5, 1, 6, 0] rfl ?_
      cases hf
      exact hK
theorem k_Po_partnersOf_l13_run {p : Program} {l : Launch} {e : Env} {s : State} {m : MethodId} {args : Array Value} {below : List Frame} {meth : Method} {c : Code} {D : va_G} {cI cL : ClassId} {h_this h_this_numbers : Nat} {v_monomials rr x1 x2 x3 x4 : Int32} {v_numbers : Nat → Int32} (C : zC p s m args meth c b_Po_partnersOf 7 R_Po D vwCl [(cI, .int), (cL, .long)] (zA [h_this, h_this_numbers] s.heap.size)) (hr : meth.sig.returnType = some .int) {o0 : Int32} (hf : zloop (fun q => f_Po_partnersOf_l13 x1 x3 v_numbers q.1 q.2) zF (x2, x4) = some (.inl o0)) (hK : ZV p l e rm_Po_partnersOf s m args below meth c 7 D (some (.int rr)) [(h_this, .inr (1, [.ref h_this_numbers, .int v_monomials])), (h_this_numbers, .inl (cI, 2325, .inl v_numbers))] [h_this, h_this_numbers] [(h_this, .inr (1, [.ref h_this_numbers, .int v_monomials])), (h_this_numbers, .inl (cI, 2325, .inl v_numbers))] 101 [(0, .ref h_this), (1, .int x1), (2, .int o0), (3, .int x3)] []) : ZV p l e rm_Po_partnersOf s m args below meth c 7 D (some (.int rr)) [(h_this, .inr (1, [.ref h_this_numbers, .int v_monomials])), (h_this_numbers, .inl (cI, 2325, .inl v_numbers))] [h_this, h_this_numbers] [(h_this, .inr (1, [.ref h_this_numbers, .int v_monomials])), (h_this_numbers, .inl (cI, 2325, .inl v_numbers))] 13 [(0, .ref h_this), (1, .int x1), (2, .int x2), (3, .int x3), (4, .int x4)] [] :=
  zloop_run (P := fun q => ZV p l e rm_Po_partnersOf s m args below meth c 7 D (some (.int rr)) [(h_this, .inr (1, [.ref h_this_numbers, .int v_monomials])), (h_this_numbers, .inl (cI, 2325, .inl v_numbers))] [h_this, h_this_numbers] [(h_this, .inr (1, [.ref h_this_numbers, .int v_monomials])), (h_this_numbers, .inl (cI, 2325, .inl v_numbers))] 13 [(0, .ref h_this), (1, .int x1), (2, .int q.1), (3, .int x3), (4, .int q.2)] []) (K := (zcase (fun q => ZV p l e rm_Po_partnersOf s m args below meth c 7 D (some (.int rr)) [(h_this, .inr (1, [.ref h_this_numbers, .int v_monomials])), (h_this_numbers, .inl (cI, 2325, .inl v_numbers))] [h_this, h_this_numbers] [(h_this, .inr (1, [.ref h_this_numbers, .int v_monomials])), (h_this_numbers, .inl (cI, 2325, .inl v_numbers))] 101 [(0, .ref h_this), (1, .int x1), (2, .int q), (3, .int x3)] []) (fun w => w = rr))) (fun q z hz hK => k_Po_partnersOf_l13 C hr hz hK) zF _ ((.inl o0)) hf hK
theorem k_Po_partnersOf_l13_runR {p : Program} {l : Launch} {e : Env} {s : State} {m : MethodId} {args : Array Value} {below : List Frame} {meth : Method} {c : Code} {D : va_G} {cI cL : ClassId} {h_this h_this_numbers : Nat} {v_monomials rr x1 x2 x3 x4 : Int32} {v_numbers : Nat → Int32} (C : zC p s m args meth c b_Po_partnersOf 7 R_Po D vwCl [(cI, .int), (cL, .long)] (zA [h_this, h_this_numbers] s.heap.size)) (hr : meth.sig.returnType = some .int) (hf : zloop (fun q => f_Po_partnersOf_l13 x1 x3 v_numbers q.1 q.2) zF (x2, x4) = some (.inr rr)) : ZV p l e rm_Po_partnersOf s m args below meth c 7 D (some (.int rr)) [(h_this, .inr (1, [.ref h_this_numbers, .int v_monomials])), (h_this_numbers, .inl (cI, 2325, .inl v_numbers))] [h_this, h_this_numbers] [(h_this, .inr (1, [.ref h_this_numbers, .int v_monomials])), (h_this_numbers, .inl (cI, 2325, .inl v_numbers))] 13 [(0, .ref h_this), (1, .int x1), (2, .int x2), (3, .int x3), (4, .int x4)] [] :=
  zloop_run (P := fun q => ZV p l e rm_Po_partnersOf s m args below meth c 7 D (some (.int rr)) [(h_this, .inr (1, [.ref h_this_numbers, .int v_monomials])), (h_this_numbers, .inl (cI, 2325, .inl v_numbers))] [h_this, h_this_numbers] [(h_this, .inr (1, [.ref h_this_numbers, .int v_monomials])), (h_this_numbers, .inl (cI, 2325, .inl v_numbers))] 13 [(0, .ref h_this), (1, .int x1), (2, .int q.1), (3, .int x3), (4, .int q.2)] []) (K := (zcase (fun q => ZV p l e rm_Po_partnersOf s m args below meth c 7 D (some (.int rr)) [(h_this, .inr (1, [.ref h_this_numbers, .int v_monomials])), (h_this_numbers, .inl (cI, 2325, .inl v_numbers))] [h_this, h_this_numbers] [(h_this, .inr (1, [.ref h_this_numbers, .int v_monomials])), (h_this_numbers, .inl (cI, 2325, .inl v_numbers))] 101 [(0, .ref h_this), (1, .int x1), (2, .int q), (3, .int x3)] []) (fun w => w = rr))) (fun q z hz hK => k_Po_partnersOf_l13 C hr hz hK) zF _ (.inr rr) hf rfl
def f_Po_partnersOf_l4 (x1 : Int32) (v_numbers : Nat → Int32) (x2 : Int32) (x3 : Int32) : Option ((Int32 × Int32) ⊕ ((Int32) ⊕ (Int32))) :=
  if (24 : Int32) ≤ x3 then (
    some (.inr (.inl (x2))))
  else (
    zs1 (zloop (fun q => f_Po_partnersOf_l13 x1 x3 v_numbers q.1 q.2) zF (x2, (0 : Int32))) fun y_2 =>
    zlet (x3 + 1) fun y_4 =>
    some (.inl (y_2, y_4)))
set_option maxRecDepth 100000 in
set_option maxHeartbeats 4000000 in
theorem k_Po_partnersOf_l4 {p : Program} {l : Launch} {e : Env} {s : State} {m : MethodId} {args : Array Value} {below : List Frame} {meth : Method} {c : Code} {D : va_G} {cI cL : ClassId} {h_this h_this_numbers : Nat} {v_monomials rr x1 x2 x3 : Int32} {v_numbers : Nat → Int32} (C : zC p s m args meth c b_Po_partnersOf 7 R_Po D vwCl [(cI, .int), (cL, .long)] (zA [h_this, h_this_numbers] s.heap.size)) (hr : meth.sig.returnType = some .int) {z : (Int32 × Int32) ⊕ ((Int32) ⊕ (Int32))} (hf : f_Po_partnersOf_l4 x1 v_numbers x2 x3 = some z) (hK : zcase (fun q => ZV p l e rm_Po_partnersOf s m args below meth c 7 D (some (.int rr)) [(h_this, .inr (1, [.ref h_this_numbers, .int v_monomials])), (h_this_numbers, .inl (cI, 2325, .inl v_numbers))] [h_this, h_this_numbers] [(h_this, .inr (1, [.ref h_this_numbers, .int v_monomials])), (h_this_numbers, .inl (cI, 2325, .inl v_numbers))] 4 [(0, .ref h_this), (1, .int x1), (2, .int q.1), (3, .int q.2)] []) (zcase (fun q => ZV p l e rm_Po_partnersOf s m args below meth c 7 D (some (.int rr)) [(h_this, .inr (1, [.ref h_this_numbers, .int v_monomials])), (h_this_numbers, .inl (cI, 2325, .inl v_numbers))] [h_this, h_this_numbers] [(h_this, .inr (1, [.ref h_this_numbers, .int v_monomials])), (h_this_numbers, .inl (cI, 2325, .inl v_numbers))] 107 [(2, .int q)] []) (fun w => w = rr)) z) : ZV p l e rm_Po_partnersOf s m args below meth c 7 D (some (.int rr)) [(h_this, .inr (1, [.ref h_this_numbers, .int v_monomials])), (h_this_numbers, .inl (cI, 2325, .inl v_numbers))] [h_this, h_this_numbers] [(h_this, .inr (1, [.ref h_this_numbers, .int v_monomials])), (h_this_numbers, .inl (cI, 2325, .inl v_numbers))] 4 [(0, .ref h_this), (1, .int x1), (2, .int x2), (3, .int x3)] [] := by
  unfold f_Po_partnersOf_l4 at hf
  refine z_iload_n C d_Po_partnersOf_4 rfl 3 rfl ?_
  refine z_bipush (v := 24) C d_Po_partnersOf_5 (by decide) ?_
  refine z_icmp_ge (tgt := 107) C d_Po_partnersOf_7 (by decide) (fun c_1 => ?_) (fun c_1 => ?_)
  · have hf := zif_pos c_1 hf
    refine z_lv [2] rfl ?_
    cases hf
    exact hK
  · have hf := zif_neg c_1 hf
    refine z_iconst (v := 0) C d_Po_partnersOf_10 (by decide) ?_
    refine z_istore (lv' := [(4, .int (0 : Int32)), (0, .ref h_this), (1, .int x1), (2, .int x2), (3, .int x3)]) C d_Po_partnersOf_11 (by decide) rfl ?_
    refine z_lv [1, 2, 3, 4, 0] rfl ?_
    rcases zs1_elim hf with ⟨y_2, h_3, hf⟩ | ⟨w9, h_3, rfl⟩
    rotate_left
    · have hK : w9 = rr := hK
      subst hK
      exact k_Po_partnersOf_l13_runR C hr h_3
    refine k_Po_partnersOf_l13_run C hr h_3 ?_
    obtain ⟨y_4, ey_4⟩ : ∃ y : Int32, y = x3 + 1 := ⟨_, rfl⟩
    have hf := zlet_at ey_4 hf
    refine z_iinc (v := y_4) (lv' := [(3, .int y_4), (0, .ref h_this), (1, .int x1), (2, .int y_2)]) C d_Po_partnersOf_101 (k := 3) rfl (by rw [ey_4]; rfl) (by decide) rfl ?_
    refine z_goto (tgt := 4) C d_Po_partnersOf_104 (by decide) ?_
    refine z_lv [1, 2, 3, 0] rfl ?_
    cases hf
    exact hK
theorem k_Po_partnersOf_l4_run {p : Program} {l : Launch} {e : Env} {s : State} {m : MethodId} {args : Array Value} {below : List Frame} {meth : Method} {c : Code} {D : va_G} {cI cL : ClassId} {h_this h_this_numbers : Nat} {v_monomials rr x1 x2 x3 : Int32} {v_numbers : Nat → Int32} (C : zC p s m args meth c b_Po_partnersOf 7 R_Po D vwCl [(cI, .int), (cL, .long)] (zA [h_this, h_this_numbers] s.heap.size)) (hr : meth.sig.returnType = some .int) {o0 : Int32} (hf : zloop (fun q => f_Po_partnersOf_l4 x1 v_numbers q.1 q.2) zF (x2, x3) = some (.inl o0)) (hK : ZV p l e rm_Po_partnersOf s m args below meth c 7 D (some (.int rr)) [(h_this, .inr (1, [.ref h_this_numbers, .int v_monomials])), (h_this_numbers, .inl (cI, 2325, .inl v_numbers))] [h_this, h_this_numbers] [(h_this, .inr (1, [.ref h_this_numbers, .int v_monomials])), (h_this_numbers, .inl (cI, 2325, .inl v_numbers))] 107 [(2, .int o0)] []) : ZV p l e rm_Po_partnersOf s m args below meth c 7 D (some (.int rr)) [(h_this, .inr (1, [.ref h_this_numbers, .int v_monomials])), (h_this_numbers, .inl (cI, 2325, .inl v_numbers))] [h_this, h_this_numbers] [(h_this, .inr (1, [.ref h_this_numbers, .int v_monomials])), (h_this_numbers, .inl (cI, 2325, .inl v_numbers))] 4 [(0, .ref h_this), (1, .int x1), (2, .int x2), (3, .int x3)] [] :=
  zloop_run (P := fun q => ZV p l e rm_Po_partnersOf s m args below meth c 7 D (some (.int rr)) [(h_this, .inr (1, [.ref h_this_numbers, .int v_monomials])), (h_this_numbers, .inl (cI, 2325, .inl v_numbers))] [h_this, h_this_numbers] [(h_this, .inr (1, [.ref h_this_numbers, .int v_monomials])), (h_this_numbers, .inl (cI, 2325, .inl v_numbers))] 4 [(0, .ref h_this), (1, .int x1), (2, .int q.1), (3, .int q.2)] []) (K := (zcase (fun q => ZV p l e rm_Po_partnersOf s m args below meth c 7 D (some (.int rr)) [(h_this, .inr (1, [.ref h_this_numbers, .int v_monomials])), (h_this_numbers, .inl (cI, 2325, .inl v_numbers))] [h_this, h_this_numbers] [(h_this, .inr (1, [.ref h_this_numbers, .int v_monomials])), (h_this_numbers, .inl (cI, 2325, .inl v_numbers))] 107 [(2, .int q)] []) (fun w => w = rr))) (fun q z hz hK => k_Po_partnersOf_l4 C hr hz hK) zF _ ((.inl o0)) hf hK
theorem k_Po_partnersOf_l4_runR {p : Program} {l : Launch} {e : Env} {s : State} {m : MethodId} {args : Array Value} {below : List Frame} {meth : Method} {c : Code} {D : va_G} {cI cL : ClassId} {h_this h_this_numbers : Nat} {v_monomials rr x1 x2 x3 : Int32} {v_numbers : Nat → Int32} (C : zC p s m args meth c b_Po_partnersOf 7 R_Po D vwCl [(cI, .int), (cL, .long)] (zA [h_this, h_this_numbers] s.heap.size)) (hr : meth.sig.returnType = some .int) (hf : zloop (fun q => f_Po_partnersOf_l4 x1 v_numbers q.1 q.2) zF (x2, x3) = some (.inr rr)) : ZV p l e rm_Po_partnersOf s m args below meth c 7 D (some (.int rr)) [(h_this, .inr (1, [.ref h_this_numbers, .int v_monomials])), (h_this_numbers, .inl (cI, 2325, .inl v_numbers))] [h_this, h_this_numbers] [(h_this, .inr (1, [.ref h_this_numbers, .int v_monomials])), (h_this_numbers, .inl (cI, 2325, .inl v_numbers))] 4 [(0, .ref h_this), (1, .int x1), (2, .int x2), (3, .int x3)] [] :=
  zloop_run (P := fun q => ZV p l e rm_Po_partnersOf s m args below meth c 7 D (some (.int rr)) [(h_this, .inr (1, [.ref h_this_numbers, .int v_monomials])), (h_this_numbers, .inl (cI, 2325, .inl v_numbers))] [h_this, h_this_numbers] [(h_this, .inr (1, [.ref h_this_numbers, .int v_monomials])), (h_this_numbers, .inl (cI, 2325, .inl v_numbers))] 4 [(0, .ref h_this), (1, .int x1), (2, .int q.1), (3, .int q.2)] []) (K := (zcase (fun q => ZV p l e rm_Po_partnersOf s m args below meth c 7 D (some (.int rr)) [(h_this, .inr (1, [.ref h_this_numbers, .int v_monomials])), (h_this_numbers, .inl (cI, 2325, .inl v_numbers))] [h_this, h_this_numbers] [(h_this, .inr (1, [.ref h_this_numbers, .int v_monomials])), (h_this_numbers, .inl (cI, 2325, .inl v_numbers))] 107 [(2, .int q)] []) (fun w => w = rr))) (fun q z hz hK => k_Po_partnersOf_l4 C hr hz hK) zF _ (.inr rr) hf rfl
/-- PathSums$Polynomial.partnersOf(I)I -/
def f_Po_partnersOf (x1 : Int32) (v_numbers : Nat → Int32) : Option (Int32) :=
  zr1 (zloop (fun q => f_Po_partnersOf_l4 x1 v_numbers q.1 q.2) zF ((0 : Int32), (0 : Int32))) fun y_1 =>
  some (y_1)
set_option maxRecDepth 100000 in
set_option maxHeartbeats 4000000 in
theorem k_Po_partnersOf {p : Program} {l : Launch} {e : Env} {s : State} {m : MethodId} {args : Array Value} {below : List Frame} {meth : Method} {c : Code} {D : va_G} {cI cL : ClassId} {h_this h_this_numbers : Nat} {v_monomials rr x1 : Int32} {v_numbers : Nat → Int32} (C : zC p s m args meth c b_Po_partnersOf 7 R_Po D vwCl [(cI, .int), (cL, .long)] (zA [h_this, h_this_numbers] s.heap.size)) (hr : meth.sig.returnType = some .int) (hf : f_Po_partnersOf x1 v_numbers = some rr) : ZV p l e rm_Po_partnersOf s m args below meth c 7 D (some (.int rr)) [(h_this, .inr (1, [.ref h_this_numbers, .int v_monomials])), (h_this_numbers, .inl (cI, 2325, .inl v_numbers))] [h_this, h_this_numbers] [(h_this, .inr (1, [.ref h_this_numbers, .int v_monomials])), (h_this_numbers, .inl (cI, 2325, .inl v_numbers))] 0 [(0, .ref h_this), (1, .int x1)] [] := by
  unfold f_Po_partnersOf at hf
  refine z_iconst (v := 0) C d_Po_partnersOf_0 (by decide) ?_
  refine z_istore_n (lv' := [(2, .int (0 : Int32)), (0, .ref h_this), (1, .int x1)]) C d_Po_partnersOf_1 rfl (by decide) rfl ?_
  refine z_iconst (v := 0) C d_Po_partnersOf_2 (by decide) ?_
  refine z_istore_n (lv' := [(3, .int (0 : Int32)), (2, .int (0 : Int32)), (0, .ref h_this), (1, .int x1)]) C d_Po_partnersOf_3 rfl (by decide) rfl ?_
  refine z_lv [2, 3, 1, 0] rfl ?_
  rcases zr1_elim hf with ⟨y_1, h_2, hf⟩ | h_2
  rotate_left
  · exact k_Po_partnersOf_l4_runR C hr h_2
  refine k_Po_partnersOf_l4_run C hr h_2 ?_
  refine z_iload_n C d_Po_partnersOf_107 rfl 0 rfl ?_
  cases hf
  exact z_iret C hr d_Po_partnersOf_108
theorem c_Po_partnersOf {l : Launch} {D : va_G} {cI cL : ClassId} {h_this h_this_numbers : Nat} {v_monomials rr x1 : Int32} {v_numbers : Nat → Int32} (hf : f_Po_partnersOf x1 v_numbers = some rr) : zM l y_Po_partnersOf (Cond.code y_Po_partnersOf b_Po_partnersOf 7 (some .int) :: zT) rm_Po_partnersOf D vwCl [(cI, .int), (cL, .long)] [.ref h_this, .int x1] [(h_this, .inr (1, [.ref h_this_numbers, .int v_monomials])), (h_this_numbers, .inl (cI, 2325, .inl v_numbers))] [(h_this, .inr (1, [.ref h_this_numbers, .int v_monomials])), (h_this_numbers, .inl (cI, 2325, .inl v_numbers))] (some (.int rr)) :=
  zM.intro (by decide) rfl (fun _ h => List.mem_cons_of_mem _ h) (Nat.le_of_ble_eq_true rfl) (fun _ _ _ _ _ _ _ C hr _ => k_Po_partnersOf C hr hf)
