def rm_Ps_isWireCount : Room := { frames := 0, cells := 0, slots := 0, locals := 0 }
/-- PathSums.isWireCount(I)Z -/
def f_Ps_isWireCount (x0 : Int32) : Int32 :=
  if x0 < (1 : Int32) then (
    (0 : Int32))
  else (
    if (6 : Int32) < x0 then (
      (0 : Int32))
    else (
      (1 : Int32)))
set_option maxRecDepth 100000 in
set_option maxHeartbeats 4000000 in
theorem k_Ps_isWireCount {p : Program} {l : Launch} {e : Env} {s : State} {m : MethodId} {args : Array Value} {below : List Frame} {meth : Method} {c : Code} {D : va_G} {cI cL : ClassId} {rr x0 : Int32} (C : zC p s m args meth c b_Ps_isWireCount 1 R_Ps D vwCl [(cI, .int), (cL, .long)] (zA [] s.heap.size)) (hr : meth.sig.returnType = some .boolean) (hf : f_Ps_isWireCount x0 = rr) : ZV p l e rm_Ps_isWireCount s m args below meth c 1 D (some (.int rr)) [] [] [] 0 [(0, .int x0)] [] := by
  unfold f_Ps_isWireCount at hf
  refine z_iload_n C d_Ps_isWireCount_0 rfl 0 rfl ?_
  refine z_iconst (v := 1) C d_Ps_isWireCount_1 (by decide) ?_
  refine z_icmp_lt (tgt := 15) C d_Ps_isWireCount_2 (by decide) (fun c_1 => ?_) (fun c_1 => ?_)
  · have hf := zif_pos c_1 hf
    refine z_iconst (v := 0) C d_Ps_isWireCount_15 (by decide) ?_
    subst hf
    exact z_zret C hr rfl d_Ps_isWireCount_16
  · have hf := zif_neg c_1 hf
    refine z_iload_n C d_Ps_isWireCount_5 rfl 0 rfl ?_
    refine z_bipush (v := 6) C d_Ps_isWireCount_6 (by decide) ?_
    refine z_icmp_gt (tgt := 15) C d_Ps_isWireCount_8 (by decide) (fun c_2 => ?_) (fun c_2 => ?_)
    · have hf := zif_pos c_2 hf
      refine z_iconst (v := 0) C d_Ps_isWireCount_15 (by decide) ?_
      subst hf
      exact z_zret C hr rfl d_Ps_isWireCount_16
    · have hf := zif_neg c_2 hf
      refine z_iconst (v := 1) C d_Ps_isWireCount_11 (by decide) ?_
      refine z_goto (tgt := 16) C d_Ps_isWireCount_12 (by decide) ?_
      subst hf
      exact z_zret C hr rfl d_Ps_isWireCount_16
theorem c_Ps_isWireCount {l : Launch} {D : va_G} {cI cL : ClassId} {rr x0 : Int32} (hf : f_Ps_isWireCount x0 = rr) : zM l y_Ps_isWireCount (Cond.code y_Ps_isWireCount b_Ps_isWireCount 1 (some .boolean) :: zT) rm_Ps_isWireCount D vwCl [(cI, .int), (cL, .long)] [.int x0] [] [] (some (.int rr)) :=
  zM.intro (by decide) rfl (fun _ h => List.mem_cons_of_mem _ h) (Nat.le_of_ble_eq_true rfl) (fun _ _ _ _ _ _ _ C hr _ => k_Ps_isWireCount C hr hf)
def rm_Ps_isWire : Room := { frames := 0, cells := 0, slots := 0, locals := 0 }
/-- PathSums.isWire(I)Z -/
def f_Ps_isWire (x1 : Int32) (v_wireCount : Int32) : Int32 :=
  if x1 < 0 then (
    (0 : Int32))
  else (
    if v_wireCount ≤ x1 then (
      (0 : Int32))
    else (
      if (6 : Int32) ≤ x1 then (
        (0 : Int32))
      else (
        (1 : Int32))))
set_option maxRecDepth 100000 in
set_option maxHeartbeats 4000000 in
theorem k_Ps_isWire {p : Program} {l : Launch} {e : Env} {s : State} {m : MethodId} {args : Array Value} {below : List Frame} {meth : Method} {c : Code} {D : va_G} {cI cL : ClassId} {h_this h_this_values h_this_polynomial h_this_doneRules h_this_ways h_this_root : Nat} {v_wireCount v_bitsCame v_bitsThere v_inputBits v_rootsBelow v_begunOpen v_empty rr x1 : Int32} (C : zC p s m args meth c b_Ps_isWire 2 R_Ps D vwCl [(cI, .int), (cL, .long)] (zA [h_this] s.heap.size)) (hr : meth.sig.returnType = some .boolean) (hf : f_Ps_isWire x1 v_wireCount = rr) : ZV p l e rm_Ps_isWire s m args below meth c 2 D (some (.int rr)) [(h_this, .inr (4, [.ref h_this_values, .ref h_this_polynomial, .ref h_this_doneRules, .ref h_this_ways, .ref h_this_root, .int v_wireCount, .int v_bitsCame, .int v_bitsThere, .int v_inputBits, .int v_rootsBelow, .int v_begunOpen, .int v_empty]))] [h_this] [(h_this, .inr (4, [.ref h_this_values, .ref h_this_polynomial, .ref h_this_doneRules, .ref h_this_ways, .ref h_this_root, .int v_wireCount, .int v_bitsCame, .int v_bitsThere, .int v_inputBits, .int v_rootsBelow, .int v_begunOpen, .int v_empty]))] 0 [(0, .ref h_this), (1, .int x1)] [] := by
  unfold f_Ps_isWire at hf
  refine z_iload_n C d_Ps_isWire_0 rfl 1 rfl ?_
  refine z_if_lt (tgt := 22) C d_Ps_isWire_1 (by decide) (fun c_1 => ?_) (fun c_1 => ?_)
  · have hf := zif_pos c_1 hf
    refine z_iconst (v := 0) C d_Ps_isWire_22 (by decide) ?_
    subst hf
    exact z_zret C hr rfl d_Ps_isWire_23
  · have hf := zif_neg c_1 hf
    refine z_iload_n C d_Ps_isWire_4 rfl 1 rfl ?_
    refine z_aload_n C d_Ps_isWire_5 rfl 0 rfl ?_
    refine z_get C iw_Ps 0 rfl rfl 5 (by decide) zw_165 rfl d_Ps_isWire_6 ?_
    refine z_icmp_ge (tgt := 22) C d_Ps_isWire_9 (by decide) (fun c_2 => ?_) (fun c_2 => ?_)
    · have hf := zif_pos c_2 hf
      refine z_iconst (v := 0) C d_Ps_isWire_22 (by decide) ?_
      subst hf
      exact z_zret C hr rfl d_Ps_isWire_23
    · have hf := zif_neg c_2 hf
      refine z_iload_n C d_Ps_isWire_12 rfl 1 rfl ?_
      refine z_bipush (v := 6) C d_Ps_isWire_13 (by decide) ?_
      refine z_icmp_ge (tgt := 22) C d_Ps_isWire_15 (by decide) (fun c_3 => ?_) (fun c_3 => ?_)
      · have hf := zif_pos c_3 hf
        refine z_iconst (v := 0) C d_Ps_isWire_22 (by decide) ?_
        subst hf
        exact z_zret C hr rfl d_Ps_isWire_23
      · have hf := zif_neg c_3 hf
        refine z_iconst (v := 1) C d_Ps_isWire_18 (by decide) ?_
        refine z_goto (tgt := 23) C d_Ps_isWire_19 (by decide) ?_
        subst hf
        exact z_zret C hr rfl d_Ps_isWire_23
theorem c_Ps_isWire {l : Launch} {D : va_G} {cI cL : ClassId} {h_this h_this_values h_this_polynomial h_this_doneRules h_this_ways h_this_root : Nat} {v_wireCount v_bitsCame v_bitsThere v_inputBits v_rootsBelow v_begunOpen v_empty rr x1 : Int32} (hf : f_Ps_isWire x1 v_wireCount = rr) : zM l y_Ps_isWire (Cond.code y_Ps_isWire b_Ps_isWire 2 (some .boolean) :: zT) rm_Ps_isWire D vwCl [(cI, .int), (cL, .long)] [.ref h_this, .int x1] [(h_this, .inr (4, [.ref h_this_values, .ref h_this_polynomial, .ref h_this_doneRules, .ref h_this_ways, .ref h_this_root, .int v_wireCount, .int v_bitsCame, .int v_bitsThere, .int v_inputBits, .int v_rootsBelow, .int v_begunOpen, .int v_empty]))] [(h_this, .inr (4, [.ref h_this_values, .ref h_this_polynomial, .ref h_this_doneRules, .ref h_this_ways, .ref h_this_root, .int v_wireCount, .int v_bitsCame, .int v_bitsThere, .int v_inputBits, .int v_rootsBelow, .int v_begunOpen, .int v_empty]))] (some (.int rr)) :=
  zM.intro (by decide) rfl (fun _ h => List.mem_cons_of_mem _ h) (Nat.le_of_ble_eq_true rfl) (fun _ _ _ _ _ _ _ C hr _ => k_Ps_isWire C hr hf)
def rm_Ps_isChoice : Room := { frames := 0, cells := 0, slots := 0, locals := 0 }
/-- PathSums.isChoice(I)Z -/
def f_Ps_isChoice (x1 : Int32) (v_wireCount : Int32) : Int32 :=
  if x1 < 0 then (
    (0 : Int32))
  else (
    if ((1 : Int32) <<< (v_wireCount &&& 31)) ≤ x1 then (
      (0 : Int32))
    else (
      (1 : Int32)))
set_option maxRecDepth 100000 in
set_option maxHeartbeats 4000000 in
theorem k_Ps_isChoice {p : Program} {l : Launch} {e : Env} {s : State} {m : MethodId} {args : Array Value} {below : List Frame} {meth : Method} {c : Code} {D : va_G} {cI cL : ClassId} {h_this h_this_values h_this_polynomial h_this_doneRules h_this_ways h_this_root : Nat} {v_wireCount v_bitsCame v_bitsThere v_inputBits v_rootsBelow v_begunOpen v_empty rr x1 : Int32} (C : zC p s m args meth c b_Ps_isChoice 2 R_Ps D vwCl [(cI, .int), (cL, .long)] (zA [h_this] s.heap.size)) (hr : meth.sig.returnType = some .boolean) (hf : f_Ps_isChoice x1 v_wireCount = rr) : ZV p l e rm_Ps_isChoice s m args below meth c 2 D (some (.int rr)) [(h_this, .inr (4, [.ref h_this_values, .ref h_this_polynomial, .ref h_this_doneRules, .ref h_this_ways, .ref h_this_root, .int v_wireCount, .int v_bitsCame, .int v_bitsThere, .int v_inputBits, .int v_rootsBelow, .int v_begunOpen, .int v_empty]))] [h_this] [(h_this, .inr (4, [.ref h_this_values, .ref h_this_polynomial, .ref h_this_doneRules, .ref h_this_ways, .ref h_this_root, .int v_wireCount, .int v_bitsCame, .int v_bitsThere, .int v_inputBits, .int v_rootsBelow, .int v_begunOpen, .int v_empty]))] 0 [(0, .ref h_this), (1, .int x1)] [] := by
  unfold f_Ps_isChoice at hf
  refine z_iload_n C d_Ps_isChoice_0 rfl 1 rfl ?_
  refine z_if_lt (tgt := 18) C d_Ps_isChoice_1 (by decide) (fun c_1 => ?_) (fun c_1 => ?_)
  · have hf := zif_pos c_1 hf
    refine z_iconst (v := 0) C d_Ps_isChoice_18 (by decide) ?_
    subst hf
    exact z_zret C hr rfl d_Ps_isChoice_19
  · have hf := zif_neg c_1 hf
    refine z_iload_n C d_Ps_isChoice_4 rfl 1 rfl ?_
    refine z_iconst (v := 1) C d_Ps_isChoice_5 (by decide) ?_
    refine z_aload_n C d_Ps_isChoice_6 rfl 0 rfl ?_
    refine z_get C iw_Ps 0 rfl rfl 5 (by decide) zw_165 rfl d_Ps_isChoice_7 ?_
    refine z_ishl C d_Ps_isChoice_10 ?_
    refine z_icmp_ge (tgt := 18) C d_Ps_isChoice_11 (by decide) (fun c_2 => ?_) (fun c_2 => ?_)
    · have hf := zif_pos c_2 hf
      refine z_iconst (v := 0) C d_Ps_isChoice_18 (by decide) ?_
      subst hf
      exact z_zret C hr rfl d_Ps_isChoice_19
    · have hf := zif_neg c_2 hf
      refine z_iconst (v := 1) C d_Ps_isChoice_14 (by decide) ?_
      refine z_goto (tgt := 19) C d_Ps_isChoice_15 (by decide) ?_
      subst hf
      exact z_zret C hr rfl d_Ps_isChoice_19
theorem c_Ps_isChoice {l : Launch} {D : va_G} {cI cL : ClassId} {h_this h_this_values h_this_polynomial h_this_doneRules h_this_ways h_this_root : Nat} {v_wireCount v_bitsCame v_bitsThere v_inputBits v_rootsBelow v_begunOpen v_empty rr x1 : Int32} (hf : f_Ps_isChoice x1 v_wireCount = rr) : zM l y_Ps_isChoice (Cond.code y_Ps_isChoice b_Ps_isChoice 2 (some .boolean) :: zT) rm_Ps_isChoice D vwCl [(cI, .int), (cL, .long)] [.ref h_this, .int x1] [(h_this, .inr (4, [.ref h_this_values, .ref h_this_polynomial, .ref h_this_doneRules, .ref h_this_ways, .ref h_this_root, .int v_wireCount, .int v_bitsCame, .int v_bitsThere, .int v_inputBits, .int v_rootsBelow, .int v_begunOpen, .int v_empty]))] [(h_this, .inr (4, [.ref h_this_values, .ref h_this_polynomial, .ref h_this_doneRules, .ref h_this_ways, .ref h_this_root, .int v_wireCount, .int v_bitsCame, .int v_bitsThere, .int v_inputBits, .int v_rootsBelow, .int v_begunOpen, .int v_empty]))] (some (.int rr)) :=
  zM.intro (by decide) rfl (fun _ h => List.mem_cons_of_mem _ h) (Nat.le_of_ble_eq_true rfl) (fun _ _ _ _ _ _ _ C hr _ => k_Ps_isChoice C hr hf)
def rm_Ps_startAnew : Room := { frames := 2, cells := 0, slots := 0, locals := 43 }
/-- PathSums.startAnew(IZ)V -/
def f_Ps_startAnew (x1 : Int32) (x2 : Int32) (v_wireCount : Int32) (v_bitsCame : Int32) (v_bitsThere : Int32) (v_inputBits : Int32) (v_rootsBelow : Int32) (v_begunOpen : Int32) (v_empty : Int32) (v_values : Nat → Int32) (v_polynomial_monomials : Int32) (v_polynomial_numbers : Nat → Int32) (v_doneRules_count : Int32) : Option (Int32 × Int32 × Int32 × Int32 × Int32 × Int32 × Int32 × (Nat → Int32) × Int32 × (Nat → Int32) × Int32) :=
  zb1 (f_Jarr_fill 6 (0 : Int32) v_values) fun q_2 =>
  zb2 (f_Po_clear v_polynomial_monomials v_polynomial_numbers) fun q_4 q_5 =>
  if ¬ (x2 = 0 ∨ x2 = 1) then none else
  some (x1, (0 : Int32), (0 : Int32), (0 : Int32), (0 : Int32), x2, (0 : Int32), q_2, q_4, q_5, (0 : Int32))
set_option maxRecDepth 100000 in
set_option maxHeartbeats 4000000 in
theorem k_Ps_startAnew {p : Program} {l : Launch} {e : Env} {s : State} {m : MethodId} {args : Array Value} {below : List Frame} {meth : Method} {c : Code} {D : va_G} {cI cL : ClassId} {h_this h_this_values h_this_polynomial h_this_doneRules h_this_ways h_this_root h_this_polynomial_numbers h_this_doneRules_kinds h_this_doneRules_ys h_this_doneRules_zs : Nat} {v_wireCount v_bitsCame v_bitsThere v_inputBits v_rootsBelow v_begunOpen v_empty v_polynomial_monomials v_doneRules_count o_wireCount o_bitsCame o_bitsThere o_inputBits o_rootsBelow o_begunOpen o_empty o_polynomial_monomials o_doneRules_count x1 x2 : Int32} {v_values v_polynomial_numbers o_values o_polynomial_numbers : Nat → Int32} (C : zC p s m args meth c b_Ps_startAnew 3 R_Ps D vwCl [(cI, .int), (cL, .long)] (zA [h_this, h_this_values, h_this_polynomial, h_this_polynomial_numbers, h_this_doneRules] s.heap.size)) (hr : meth.sig.returnType = none) (hf : f_Ps_startAnew x1 x2 v_wireCount v_bitsCame v_bitsThere v_inputBits v_rootsBelow v_begunOpen v_empty v_values v_polynomial_monomials v_polynomial_numbers v_doneRules_count = some (o_wireCount, o_bitsCame, o_bitsThere, o_inputBits, o_rootsBelow, o_begunOpen, o_empty, o_values, o_polynomial_monomials, o_polynomial_numbers, o_doneRules_count)) : ZV p l e rm_Ps_startAnew s m args below meth c 3 D (none) [(h_this, .inr (4, [.ref h_this_values, .ref h_this_polynomial, .ref h_this_doneRules, .ref h_this_ways, .ref h_this_root, .int o_wireCount, .int o_bitsCame, .int o_bitsThere, .int o_inputBits, .int o_rootsBelow, .int o_begunOpen, .int o_empty])), (h_this_values, .inl (cI, 6, .inl o_values)), (h_this_polynomial, .inr (1, [.ref h_this_polynomial_numbers, .int o_polynomial_monomials])), (h_this_polynomial_numbers, .inl (cI, 2325, .inl o_polynomial_numbers)), (h_this_doneRules, .inr (0, [.ref h_this_doneRules_kinds, .ref h_this_doneRules_ys, .ref h_this_doneRules_zs, .int o_doneRules_count]))] [h_this, h_this_values, h_this_polynomial, h_this_polynomial_numbers, h_this_doneRules] [(h_this, .inr (4, [.ref h_this_values, .ref h_this_polynomial, .ref h_this_doneRules, .ref h_this_ways, .ref h_this_root, .int v_wireCount, .int v_bitsCame, .int v_bitsThere, .int v_inputBits, .int v_rootsBelow, .int v_begunOpen, .int v_empty])), (h_this_values, .inl (cI, 6, .inl v_values)), (h_this_polynomial, .inr (1, [.ref h_this_polynomial_numbers, .int v_polynomial_monomials])), (h_this_polynomial_numbers, .inl (cI, 2325, .inl v_polynomial_numbers)), (h_this_doneRules, .inr (0, [.ref h_this_doneRules_kinds, .ref h_this_doneRules_ys, .ref h_this_doneRules_zs, .int v_doneRules_count]))] 0 [(0, .ref h_this), (1, .int x1), (2, .int x2)] [] := by
  unfold f_Ps_startAnew at hf
  refine z_aload_n C d_Ps_startAnew_0 rfl 0 rfl ?_
  refine z_get C iw_Ps 0 rfl rfl 0 (by decide) zw_160 rfl d_Ps_startAnew_1 ?_
  refine z_iconst (v := 0) C d_Ps_startAnew_4 (by decide) ?_
  obtain ⟨q_2, h_1, hf⟩ := zb1_elim hf
  refine z_callS (As := [.ref h_this_values, .int (0 : Int32)]) (rest := []) (ws' := [(h_this, .inr (4, [.ref h_this_values, .ref h_this_polynomial, .ref h_this_doneRules, .ref h_this_ways, .ref h_this_root, .int v_wireCount, .int v_bitsCame, .int v_bitsThere, .int v_inputBits, .int v_rootsBelow, .int v_begunOpen, .int v_empty])), (h_this_values, .inl (cI, 6, .inl q_2)), (h_this_polynomial, .inr (1, [.ref h_this_polynomial_numbers, .int v_polynomial_monomials])), (h_this_polynomial_numbers, .inl (cI, 2325, .inl v_polynomial_numbers)), (h_this_doneRules, .inr (0, [.ref h_this_doneRules_kinds, .ref h_this_doneRules_ys, .ref h_this_doneRules_zs, .int v_doneRules_count]))]) C (c_Jarr_fill h_1) mi_Jarr_fill zw_152 (by decide) [1] (by decide) rfl rfl rfl rfl rfl (by decide) ⟨Nat.zero_le _, Nat.zero_le _⟩ d_Ps_startAnew_5 ?_
  refine z_aload_n C d_Ps_startAnew_8 rfl 0 rfl ?_
  refine z_get C iw_Ps 0 rfl rfl 1 (by decide) zw_161 rfl d_Ps_startAnew_9 ?_
  obtain ⟨q_4, q_5, h_3, hf⟩ := zb2_elim hf
  refine z_callV (As := []) (rest := []) (ws' := [(h_this, .inr (4, [.ref h_this_values, .ref h_this_polynomial, .ref h_this_doneRules, .ref h_this_ways, .ref h_this_root, .int v_wireCount, .int v_bitsCame, .int v_bitsThere, .int v_inputBits, .int v_rootsBelow, .int v_begunOpen, .int v_empty])), (h_this_values, .inl (cI, 6, .inl q_2)), (h_this_polynomial, .inr (1, [.ref h_this_polynomial_numbers, .int q_4])), (h_this_polynomial_numbers, .inl (cI, 2325, .inl q_5)), (h_this_doneRules, .inr (0, [.ref h_this_doneRules_kinds, .ref h_this_doneRules_ys, .ref h_this_doneRules_zs, .int v_doneRules_count]))]) C (c_Po_clear h_3) mi_Po_clear zw_155 (by decide) 0 rfl rfl [2, 3] (by decide) rfl rfl rfl rfl rfl (by decide) ⟨Nat.zero_le _, Nat.zero_le _⟩ d_Ps_startAnew_12 ?_
  refine z_aload_n C d_Ps_startAnew_15 rfl 0 rfl ?_
  refine z_get C iw_Ps 0 rfl rfl 2 (by decide) zw_162 rfl d_Ps_startAnew_16 ?_
  refine z_iconst (v := 0) C d_Ps_startAnew_19 (by decide) ?_
  refine z_putN (ws' := [(h_this, .inr (4, [.ref h_this_values, .ref h_this_polynomial, .ref h_this_doneRules, .ref h_this_ways, .ref h_this_root, .int v_wireCount, .int v_bitsCame, .int v_bitsThere, .int v_inputBits, .int v_rootsBelow, .int v_begunOpen, .int v_empty])), (h_this_values, .inl (cI, 6, .inl q_2)), (h_this_polynomial, .inr (1, [.ref h_this_polynomial_numbers, .int q_4])), (h_this_polynomial_numbers, .inl (cI, 2325, .inl q_5)), (h_this_doneRules, .inr (0, [.ref h_this_doneRules_kinds, .ref h_this_doneRules_ys, .ref h_this_doneRules_zs, .int (0 : Int32)]))]) C iw_Dr t_Dr t_Dr_ok n_Dr 4 rfl rfl 3 (by decide) (znest C 3 rfl) rfl (ty := .int) rfl rfl rfl (by simp) d_Ps_startAnew_20 rfl ?_
  refine z_aload_n C d_Ps_startAnew_23 rfl 0 rfl ?_
  refine z_iload_n C d_Ps_startAnew_24 rfl 1 rfl ?_
  refine z_put (ws' := [(h_this, .inr (4, [.ref h_this_values, .ref h_this_polynomial, .ref h_this_doneRules, .ref h_this_ways, .ref h_this_root, .int x1, .int v_bitsCame, .int v_bitsThere, .int v_inputBits, .int v_rootsBelow, .int v_begunOpen, .int v_empty])), (h_this_values, .inl (cI, 6, .inl q_2)), (h_this_polynomial, .inr (1, [.ref h_this_polynomial_numbers, .int q_4])), (h_this_polynomial_numbers, .inl (cI, 2325, .inl q_5)), (h_this_doneRules, .inr (0, [.ref h_this_doneRules_kinds, .ref h_this_doneRules_ys, .ref h_this_doneRules_zs, .int (0 : Int32)]))]) C iw_Ps t_Ps t_Ps_ok n_Ps 0 rfl rfl 5 (by decide) zw_165 rfl (ty := .int) rfl rfl rfl (by simp) d_Ps_startAnew_25 rfl ?_
  refine z_aload_n C d_Ps_startAnew_28 rfl 0 rfl ?_
  refine z_iconst (v := 0) C d_Ps_startAnew_29 (by decide) ?_
  refine z_put (ws' := [(h_this, .inr (4, [.ref h_this_values, .ref h_this_polynomial, .ref h_this_doneRules, .ref h_this_ways, .ref h_this_root, .int x1, .int (0 : Int32), .int v_bitsThere, .int v_inputBits, .int v_rootsBelow, .int v_begunOpen, .int v_empty])), (h_this_values, .inl (cI, 6, .inl q_2)), (h_this_polynomial, .inr (1, [.ref h_this_polynomial_numbers, .int q_4])), (h_this_polynomial_numbers, .inl (cI, 2325, .inl q_5)), (h_this_doneRules, .inr (0, [.ref h_this_doneRules_kinds, .ref h_this_doneRules_ys, .ref h_this_doneRules_zs, .int (0 : Int32)]))]) C iw_Ps t_Ps t_Ps_ok n_Ps 0 rfl rfl 6 (by decide) zw_166 rfl (ty := .int) rfl rfl rfl (by simp) d_Ps_startAnew_30 rfl ?_
  refine z_aload_n C d_Ps_startAnew_33 rfl 0 rfl ?_
  refine z_iconst (v := 0) C d_Ps_startAnew_34 (by decide) ?_
  refine z_put (ws' := [(h_this, .inr (4, [.ref h_this_values, .ref h_this_polynomial, .ref h_this_doneRules, .ref h_this_ways, .ref h_this_root, .int x1, .int (0 : Int32), .int (0 : Int32), .int v_inputBits, .int v_rootsBelow, .int v_begunOpen, .int v_empty])), (h_this_values, .inl (cI, 6, .inl q_2)), (h_this_polynomial, .inr (1, [.ref h_this_polynomial_numbers, .int q_4])), (h_this_polynomial_numbers, .inl (cI, 2325, .inl q_5)), (h_this_doneRules, .inr (0, [.ref h_this_doneRules_kinds, .ref h_this_doneRules_ys, .ref h_this_doneRules_zs, .int (0 : Int32)]))]) C iw_Ps t_Ps t_Ps_ok n_Ps 0 rfl rfl 7 (by decide) zw_167 rfl (ty := .int) rfl rfl rfl (by simp) d_Ps_startAnew_35 rfl ?_
  refine z_aload_n C d_Ps_startAnew_38 rfl 0 rfl ?_
  refine z_iconst (v := 0) C d_Ps_startAnew_39 (by decide) ?_
  refine z_put (ws' := [(h_this, .inr (4, [.ref h_this_values, .ref h_this_polynomial, .ref h_this_doneRules, .ref h_this_ways, .ref h_this_root, .int x1, .int (0 : Int32), .int (0 : Int32), .int (0 : Int32), .int v_rootsBelow, .int v_begunOpen, .int v_empty])), (h_this_values, .inl (cI, 6, .inl q_2)), (h_this_polynomial, .inr (1, [.ref h_this_polynomial_numbers, .int q_4])), (h_this_polynomial_numbers, .inl (cI, 2325, .inl q_5)), (h_this_doneRules, .inr (0, [.ref h_this_doneRules_kinds, .ref h_this_doneRules_ys, .ref h_this_doneRules_zs, .int (0 : Int32)]))]) C iw_Ps t_Ps t_Ps_ok n_Ps 0 rfl rfl 8 (by decide) zw_168 rfl (ty := .int) rfl rfl rfl (by simp) d_Ps_startAnew_40 rfl ?_
  refine z_aload_n C d_Ps_startAnew_43 rfl 0 rfl ?_
  refine z_iconst (v := 0) C d_Ps_startAnew_44 (by decide) ?_
  refine z_put (ws' := [(h_this, .inr (4, [.ref h_this_values, .ref h_this_polynomial, .ref h_this_doneRules, .ref h_this_ways, .ref h_this_root, .int x1, .int (0 : Int32), .int (0 : Int32), .int (0 : Int32), .int (0 : Int32), .int v_begunOpen, .int v_empty])), (h_this_values, .inl (cI, 6, .inl q_2)), (h_this_polynomial, .inr (1, [.ref h_this_polynomial_numbers, .int q_4])), (h_this_polynomial_numbers, .inl (cI, 2325, .inl q_5)), (h_this_doneRules, .inr (0, [.ref h_this_doneRules_kinds, .ref h_this_doneRules_ys, .ref h_this_doneRules_zs, .int (0 : Int32)]))]) C iw_Ps t_Ps t_Ps_ok n_Ps 0 rfl rfl 9 (by decide) zw_169 rfl (ty := .int) rfl rfl rfl (by simp) d_Ps_startAnew_45 rfl ?_
  refine z_aload_n C d_Ps_startAnew_48 rfl 0 rfl ?_
  refine z_iload_n C d_Ps_startAnew_49 rfl 2 rfl ?_
  obtain ⟨g_6, hf⟩ := zguard hf
  refine z_put (ws' := [(h_this, .inr (4, [.ref h_this_values, .ref h_this_polynomial, .ref h_this_doneRules, .ref h_this_ways, .ref h_this_root, .int x1, .int (0 : Int32), .int (0 : Int32), .int (0 : Int32), .int (0 : Int32), .int x2, .int v_empty])), (h_this_values, .inl (cI, 6, .inl q_2)), (h_this_polynomial, .inr (1, [.ref h_this_polynomial_numbers, .int q_4])), (h_this_polynomial_numbers, .inl (cI, 2325, .inl q_5)), (h_this_doneRules, .inr (0, [.ref h_this_doneRules_kinds, .ref h_this_doneRules_ys, .ref h_this_doneRules_zs, .int (0 : Int32)]))]) C iw_Ps t_Ps t_Ps_ok n_Ps 0 rfl rfl 10 (by decide) zw_170 rfl (ty := .boolean) rfl (zbool_n g_6) (zbool_f g_6) (by simp) d_Ps_startAnew_50 rfl ?_
  refine z_aload_n C d_Ps_startAnew_53 rfl 0 rfl ?_
  refine z_iconst (v := 0) C d_Ps_startAnew_54 (by decide) ?_
  refine z_put (ws' := [(h_this, .inr (4, [.ref h_this_values, .ref h_this_polynomial, .ref h_this_doneRules, .ref h_this_ways, .ref h_this_root, .int x1, .int (0 : Int32), .int (0 : Int32), .int (0 : Int32), .int (0 : Int32), .int x2, .int (0 : Int32)])), (h_this_values, .inl (cI, 6, .inl q_2)), (h_this_polynomial, .inr (1, [.ref h_this_polynomial_numbers, .int q_4])), (h_this_polynomial_numbers, .inl (cI, 2325, .inl q_5)), (h_this_doneRules, .inr (0, [.ref h_this_doneRules_kinds, .ref h_this_doneRules_ys, .ref h_this_doneRules_zs, .int (0 : Int32)]))]) C iw_Ps t_Ps t_Ps_ok n_Ps 0 rfl rfl 11 (by decide) zw_171 rfl (ty := .boolean) rfl rfl rfl (by simp) d_Ps_startAnew_55 rfl ?_
  cases hf
  exact z_vret C hr d_Ps_startAnew_58
theorem c_Ps_startAnew {l : Launch} {D : va_G} {cI cL : ClassId} {h_this h_this_values h_this_polynomial h_this_doneRules h_this_ways h_this_root h_this_polynomial_numbers h_this_doneRules_kinds h_this_doneRules_ys h_this_doneRules_zs : Nat} {v_wireCount v_bitsCame v_bitsThere v_inputBits v_rootsBelow v_begunOpen v_empty v_polynomial_monomials v_doneRules_count o_wireCount o_bitsCame o_bitsThere o_inputBits o_rootsBelow o_begunOpen o_empty o_polynomial_monomials o_doneRules_count x1 x2 : Int32} {v_values v_polynomial_numbers o_values o_polynomial_numbers : Nat → Int32} (hf : f_Ps_startAnew x1 x2 v_wireCount v_bitsCame v_bitsThere v_inputBits v_rootsBelow v_begunOpen v_empty v_values v_polynomial_monomials v_polynomial_numbers v_doneRules_count = some (o_wireCount, o_bitsCame, o_bitsThere, o_inputBits, o_rootsBelow, o_begunOpen, o_empty, o_values, o_polynomial_monomials, o_polynomial_numbers, o_doneRules_count)) : zM l y_Ps_startAnew (Cond.code y_Ps_startAnew b_Ps_startAnew 3 none :: zT) rm_Ps_startAnew D vwCl [(cI, .int), (cL, .long)] [.ref h_this, .int x1, .int x2] [(h_this, .inr (4, [.ref h_this_values, .ref h_this_polynomial, .ref h_this_doneRules, .ref h_this_ways, .ref h_this_root, .int v_wireCount, .int v_bitsCame, .int v_bitsThere, .int v_inputBits, .int v_rootsBelow, .int v_begunOpen, .int v_empty])), (h_this_values, .inl (cI, 6, .inl v_values)), (h_this_polynomial, .inr (1, [.ref h_this_polynomial_numbers, .int v_polynomial_monomials])), (h_this_polynomial_numbers, .inl (cI, 2325, .inl v_polynomial_numbers)), (h_this_doneRules, .inr (0, [.ref h_this_doneRules_kinds, .ref h_this_doneRules_ys, .ref h_this_doneRules_zs, .int v_doneRules_count]))] [(h_this, .inr (4, [.ref h_this_values, .ref h_this_polynomial, .ref h_this_doneRules, .ref h_this_ways, .ref h_this_root, .int o_wireCount, .int o_bitsCame, .int o_bitsThere, .int o_inputBits, .int o_rootsBelow, .int o_begunOpen, .int o_empty])), (h_this_values, .inl (cI, 6, .inl o_values)), (h_this_polynomial, .inr (1, [.ref h_this_polynomial_numbers, .int o_polynomial_monomials])), (h_this_polynomial_numbers, .inl (cI, 2325, .inl o_polynomial_numbers)), (h_this_doneRules, .inr (0, [.ref h_this_doneRules_kinds, .ref h_this_doneRules_ys, .ref h_this_doneRules_zs, .int o_doneRules_count]))] (none) :=
  zM.intro (by decide) rfl (fun _ h => List.mem_cons_of_mem _ h) (Nat.le_of_ble_eq_true rfl) (fun _ _ _ _ _ _ _ C hr _ => k_Ps_startAnew C hr hf)
def rm_Ps_begin : Room := { frames := 3, cells := 0, slots := 0, locals := 65 }
def f_Ps_begin_l28 (x1 : Int32) (x2 : Int32) (v_wireCount : Int32) (v_bitsCame : Int32) (v_bitsThere : Int32) (v_inputBits : Int32) (v_rootsBelow : Int32) (v_begunOpen : Int32) (v_empty : Int32) (v_polynomial_monomials : Int32) (v_polynomial_numbers : Nat → Int32) (v_doneRules_count : Int32) (x3 : Int32) (v_values : Nat → Int32) : Option ((Int32 × (Nat → Int32)) ⊕ ((Nat → Int32))) :=
  if x1 ≤ x3 then (
    some (.inr (v_values)))
  else (
    if (f_Ps_has x2 x3) = 0 then (
      if x3 < 0 ∨ 6 ≤ x3.toNatClampNeg then none else
      zlet (upd v_values x3.toNatClampNeg (0 : Int32)) fun u_5 =>
      zlet (x3 + 1) fun y_6 =>
      some (.inl (y_6, u_5)))
    else (
      if x3 < 0 ∨ 6 ≤ x3.toNatClampNeg then none else
      zlet (upd v_values x3.toNatClampNeg (16777216 : Int32)) fun u_8 =>
      zlet (x3 + 1) fun y_9 =>
      some (.inl (y_9, u_8))))
set_option maxRecDepth 100000 in
set_option maxHeartbeats 4000000 in
theorem k_Ps_begin_l28 {p : Program} {l : Launch} {e : Env} {s : State} {m : MethodId} {args : Array Value} {below : List Frame} {meth : Method} {c : Code} {D : va_G} {cI cL : ClassId} {h_this h_this_values h_this_polynomial h_this_doneRules h_this_ways h_this_root h_this_polynomial_numbers h_this_doneRules_kinds h_this_doneRules_ys h_this_doneRules_zs : Nat} {v_wireCount v_bitsCame v_bitsThere v_inputBits v_rootsBelow v_begunOpen v_empty v_polynomial_monomials v_doneRules_count rr o_wireCount o_bitsCame o_bitsThere o_inputBits o_rootsBelow o_begunOpen o_empty o_polynomial_monomials o_doneRules_count x1 x2 x3 : Int32} {v_values v_polynomial_numbers o_values o_polynomial_numbers : Nat → Int32} (C : zC p s m args meth c b_Ps_begin 4 R_Ps D vwCl [(cI, .int), (cL, .long)] (zA [h_this, h_this_values, h_this_polynomial, h_this_polynomial_numbers, h_this_doneRules] s.heap.size)) (hr : meth.sig.returnType = some .boolean) {z : (Int32 × (Nat → Int32)) ⊕ ((Nat → Int32))} (hf : f_Ps_begin_l28 x1 x2 v_wireCount v_bitsCame v_bitsThere v_inputBits v_rootsBelow v_begunOpen v_empty v_polynomial_monomials v_polynomial_numbers v_doneRules_count x3 v_values = some z) (hK : zcase (fun q => ZV p l e rm_Ps_begin s m args below meth c 4 D (some (.int rr)) [(h_this, .inr (4, [.ref h_this_values, .ref h_this_polynomial, .ref h_this_doneRules, .ref h_this_ways, .ref h_this_root, .int o_wireCount, .int o_bitsCame, .int o_bitsThere, .int o_inputBits, .int o_rootsBelow, .int o_begunOpen, .int o_empty])), (h_this_values, .inl (cI, 6, .inl o_values)), (h_this_polynomial, .inr (1, [.ref h_this_polynomial_numbers, .int o_polynomial_monomials])), (h_this_polynomial_numbers, .inl (cI, 2325, .inl o_polynomial_numbers)), (h_this_doneRules, .inr (0, [.ref h_this_doneRules_kinds, .ref h_this_doneRules_ys, .ref h_this_doneRules_zs, .int o_doneRules_count]))] [h_this, h_this_values, h_this_polynomial, h_this_polynomial_numbers, h_this_doneRules] [(h_this, .inr (4, [.ref h_this_values, .ref h_this_polynomial, .ref h_this_doneRules, .ref h_this_ways, .ref h_this_root, .int v_wireCount, .int v_bitsCame, .int v_bitsThere, .int v_inputBits, .int v_rootsBelow, .int v_begunOpen, .int v_empty])), (h_this_values, .inl (cI, 6, .inl q.2)), (h_this_polynomial, .inr (1, [.ref h_this_polynomial_numbers, .int v_polynomial_monomials])), (h_this_polynomial_numbers, .inl (cI, 2325, .inl v_polynomial_numbers)), (h_this_doneRules, .inr (0, [.ref h_this_doneRules_kinds, .ref h_this_doneRules_ys, .ref h_this_doneRules_zs, .int v_doneRules_count]))] 28 [(0, .ref h_this), (1, .int x1), (2, .int x2), (3, .int q.1)] []) (fun q => ZV p l e rm_Ps_begin s m args below meth c 4 D (some (.int rr)) [(h_this, .inr (4, [.ref h_this_values, .ref h_this_polynomial, .ref h_this_doneRules, .ref h_this_ways, .ref h_this_root, .int o_wireCount, .int o_bitsCame, .int o_bitsThere, .int o_inputBits, .int o_rootsBelow, .int o_begunOpen, .int o_empty])), (h_this_values, .inl (cI, 6, .inl o_values)), (h_this_polynomial, .inr (1, [.ref h_this_polynomial_numbers, .int o_polynomial_monomials])), (h_this_polynomial_numbers, .inl (cI, 2325, .inl o_polynomial_numbers)), (h_this_doneRules, .inr (0, [.ref h_this_doneRules_kinds, .ref h_this_doneRules_ys, .ref h_this_doneRules_zs, .int o_doneRules_count]))] [h_this, h_this_values, h_this_polynomial, h_this_polynomial_numbers, h_this_doneRules] [(h_this, .inr (4, [.ref h_this_values, .ref h_this_polynomial, .ref h_this_doneRules, .ref h_this_ways, .ref h_this_root, .int v_wireCount, .int v_bitsCame, .int v_bitsThere, .int v_inputBits, .int v_rootsBelow, .int v_begunOpen, .int v_empty])), (h_this_values, .inl (cI, 6, .inl q)), (h_this_polynomial, .inr (1, [.ref h_this_polynomial_numbers, .int v_polynomial_monomials])), (h_this_polynomial_numbers, .inl (cI, 2325, .inl v_polynomial_numbers)), (h_this_doneRules, .inr (0, [.ref h_this_doneRules_kinds, .ref h_this_doneRules_ys, .ref h_this_doneRules_zs, .int v_doneRules_count]))] 59 [] []) z) : ZV p l e rm_Ps_begin s m args below meth c 4 D (some (.int rr)) [(h_this, .inr (4, [.ref h_this_values, .ref h_this_polynomial, .ref h_this_doneRules, .ref h_this_ways, .ref h_this_root, .int o_wireCount, .int o_bitsCame, .int o_bitsThere, .int o_inputBits, .int o_rootsBelow, .int o_begunOpen, .int o_empty])), (h_this_values, .inl (cI, 6, .inl o_values)), (h_this_polynomial, .inr (1, [.ref h_this_polynomial_numbers, .int o_polynomial_monomials])), (h_this_polynomial_numbers, .inl (cI, 2325, .inl o_polynomial_numbers)), (h_this_doneRules, .inr (0, [.ref h_this_doneRules_kinds, .ref h_this_doneRules_ys, .ref h_this_doneRules_zs, .int o_doneRules_count]))] [h_this, h_this_values, h_this_polynomial, h_this_polynomial_numbers, h_this_doneRules] [(h_this, .inr (4, [.ref h_this_values, .ref h_this_polynomial, .ref h_this_doneRules, .ref h_this_ways, .ref h_this_root, .int v_wireCount, .int v_bitsCame, .int v_bitsThere, .int v_inputBits, .int v_rootsBelow, .int v_begunOpen, .int v_empty])), (h_this_values, .inl (cI, 6, .inl v_values)), (h_this_polynomial, .inr (1, [.ref h_this_polynomial_numbers, .int v_polynomial_monomials])), (h_this_polynomial_numbers, .inl (cI, 2325, .inl v_polynomial_numbers)), (h_this_doneRules, .inr (0, [.ref h_this_doneRules_kinds, .ref h_this_doneRules_ys, .ref h_this_doneRules_zs, .int v_doneRules_count]))] 28 [(0, .ref h_this), (1, .int x1), (2, .int x2), (3, .int x3)] [] := by
  unfold f_Ps_begin_l28 at hf
  refine z_iload_n C d_Ps_begin_28 rfl 3 rfl ?_
  refine z_iload_n C d_Ps_begin_29 rfl 1 rfl ?_
  refine z_icmp_ge (tgt := 59) C d_Ps_begin_30 (by decide) (fun c_1 => ?_) (fun c_1 => ?_)
  · have hf := zif_pos c_1 hf
    refine z_lv [] rfl ?_
    cases hf
    exact hK
  · have hf := zif_neg c_1 hf
    refine z_aload_n C d_Ps_begin_33 rfl 0 rfl ?_
    refine z_get C iw_Ps 0 rfl rfl 0 (by decide) zw_160 rfl d_Ps_begin_34 ?_
    refine z_iload_n C d_Ps_begin_37 rfl 3 rfl ?_
    refine z_iload_n C d_Ps_begin_38 rfl 2 rfl ?_
    refine z_iload_n C d_Ps_begin_39 rfl 3 rfl ?_
    refine z_callS (As := [.int x2, .int x3]) (rest := [.int x3, .ref h_this_values]) (ws' := [(h_this, .inr (4, [.ref h_this_values, .ref h_this_polynomial, .ref h_this_doneRules, .ref h_this_ways, .ref h_this_root, .int v_wireCount, .int v_bitsCame, .int v_bitsThere, .int v_inputBits, .int v_rootsBelow, .int v_begunOpen, .int v_empty])), (h_this_values, .inl (cI, 6, .inl v_values)), (h_this_polynomial, .inr (1, [.ref h_this_polynomial_numbers, .int v_polynomial_monomials])), (h_this_polynomial_numbers, .inl (cI, 2325, .inl v_polynomial_numbers)), (h_this_doneRules, .inr (0, [.ref h_this_doneRules_kinds, .ref h_this_doneRules_ys, .ref h_this_doneRules_zs, .int v_doneRules_count]))]) C (c_Ps_has rfl) mi_Ps_has zw_204 (by decide) [] (by decide) rfl rfl rfl rfl rfl (by decide) ⟨Nat.zero_le _, Nat.zero_le _⟩ d_Ps_begin_40 ?_
    refine z_if_eq (tgt := 51) C d_Ps_begin_43 (by decide) (fun c_3 => ?_) (fun c_3 => ?_)
    · have hf := zif_pos c_3 hf
      refine z_iconst (v := 0) C d_Ps_begin_51 (by decide) ?_
      obtain ⟨g_4, hf⟩ := zguard hf
      obtain ⟨u_5, eu_5⟩ : ∃ u : Nat → Int32, u = upd v_values x3.toNatClampNeg (0 : Int32) := ⟨_, rfl⟩
      have hf := zlet_at eu_5 hf
      refine z_iast (ws' := [(h_this, .inr (4, [.ref h_this_values, .ref h_this_polynomial, .ref h_this_doneRules, .ref h_this_ways, .ref h_this_root, .int v_wireCount, .int v_bitsCame, .int v_bitsThere, .int v_inputBits, .int v_rootsBelow, .int v_begunOpen, .int v_empty])), (h_this_values, .inl (cI, 6, .inl u_5)), (h_this_polynomial, .inr (1, [.ref h_this_polynomial_numbers, .int v_polynomial_monomials])), (h_this_polynomial_numbers, .inl (cI, 2325, .inl v_polynomial_numbers)), (h_this_doneRules, .inr (0, [.ref h_this_doneRules_kinds, .ref h_this_doneRules_ys, .ref h_this_doneRules_zs, .int v_doneRules_count]))]) C 1 0 rfl rfl g_4 d_Ps_begin_52 (by rw [eu_5]; rfl) ?_
      obtain ⟨y_6, ey_6⟩ : ∃ y : Int32, y = x3 + 1 := ⟨_, rfl⟩
      have hf := zlet_at ey_6 hf
      refine z_iinc (v := y_6) (lv' := [(3, .int y_6), (0, .ref h_this), (1, .int x1), (2, .int x2)]) C d_Ps_begin_53 (k := 3) rfl (by rw [ey_6]; rfl) (by decide) rfl ?_
      refine z_goto (tgt := 28) C d_Ps_begin_56 (by decide) ?_
      refine z_lv [1, 2, 3, 0] rfl ?_
      cases hf
      exact hK
    · have hf := zif_neg c_3 hf
      refine z_ldc (v := 16777216) C zw_207 d_Ps_begin_46 ?_
      refine z_goto (tgt := 52) C d_Ps_begin_48 (by decide) ?_
      obtain ⟨g_7, hf⟩ := zguard hf
      obtain ⟨u_8, eu_8⟩ : ∃ u : Nat → Int32, u = upd v_values x3.toNatClampNeg (16777216 : Int32) := ⟨_, rfl⟩
      have hf := zlet_at eu_8 hf
      refine z_iast (ws' := [(h_this, .inr (4, [.ref h_this_values, .ref h_this_polynomial, .ref h_this_doneRules, .ref h_this_ways, .ref h_this_root, .int v_wireCount, .int v_bitsCame, .int v_bitsThere, .int v_inputBits, .int v_rootsBelow, .int v_begunOpen, .int v_empty])), (h_this_values, .inl (cI, 6, .inl u_8)), (h_this_polynomial, .inr (1, [.ref h_this_polynomial_numbers, .int v_polynomial_monomials])), (h_this_polynomial_numbers, .inl (cI, 2325, .inl v_polynomial_numbers)), (h_this_doneRules, .inr (0, [.ref h_this_doneRules_kinds, .ref h_this_doneRules_ys, .ref h_this_doneRules_zs, .int v_doneRules_count]))]) C 1 0 rfl rfl g_7 d_Ps_begin_52 (by rw [eu_8]; rfl) ?_
      obtain ⟨y_9, ey_9⟩ : ∃ y : Int32, y = x3 + 1 := ⟨_, rfl⟩
      have hf := zlet_at ey_9 hf
      refine z_iinc (v := y_9) (lv' := [(3, .int y_9), (0, .ref h_this), (1, .int x1), (2, .int x2)]) C d_Ps_begin_53 (k := 3) rfl (by rw [ey_9]; rfl) (by decide) rfl ?_
      refine z_goto (tgt := 28) C d_Ps_begin_56 (by decide) ?_
      refine z_lv [1, 2, 3, 0] rfl ?_
      cases hf
      exact hK
theorem k_Ps_begin_l28_run {p : Program} {l : Launch} {e : Env} {s : State} {m : MethodId} {args : Array Value} {below : List Frame} {meth : Method} {c : Code} {D : va_G} {cI cL : ClassId} {h_this h_this_values h_this_polynomial h_this_doneRules h_this_ways h_this_root h_this_polynomial_numbers h_this_doneRules_kinds h_this_doneRules_ys h_this_doneRules_zs : Nat} {v_wireCount v_bitsCame v_bitsThere v_inputBits v_rootsBelow v_begunOpen v_empty v_polynomial_monomials v_doneRules_count rr o_wireCount o_bitsCame o_bitsThere o_inputBits o_rootsBelow o_begunOpen o_empty o_polynomial_monomials o_doneRules_count x1 x2 x3 : Int32} {v_values v_polynomial_numbers o_values o_polynomial_numbers : Nat → Int32} (C : zC p s m args meth c b_Ps_begin 4 R_Ps D vwCl [(cI, .int), (cL, .long)] (zA [h_this, h_this_values, h_this_polynomial, h_this_polynomial_numbers, h_this_doneRules] s.heap.size)) (hr : meth.sig.returnType = some .boolean) {o0 : Nat → Int32} (hf : zloop (fun q => f_Ps_begin_l28 x1 x2 v_wireCount v_bitsCame v_bitsThere v_inputBits v_rootsBelow v_begunOpen v_empty v_polynomial_monomials v_polynomial_numbers v_doneRules_count q.1 q.2) zF (x3, v_values) = some o0) (hK : ZV p l e rm_Ps_begin s m args below meth c 4 D (some (.int rr)) [(h_this, .inr (4, [.ref h_this_values, .ref h_this_polynomial, .ref h_this_doneRules, .ref h_this_ways, .ref h_this_root, .int o_wireCount, .int o_bitsCame, .int o_bitsThere, .int o_inputBits, .int o_rootsBelow, .int o_begunOpen, .int o_empty])), (h_this_values, .inl (cI, 6, .inl o_values)), (h_this_polynomial, .inr (1, [.ref h_this_polynomial_numbers, .int o_polynomial_monomials])), (h_this_polynomial_numbers, .inl (cI, 2325, .inl o_polynomial_numbers)), (h_this_doneRules, .inr (0, [.ref h_this_doneRules_kinds, .ref h_this_doneRules_ys, .ref h_this_doneRules_zs, .int o_doneRules_count]))] [h_this, h_this_values, h_this_polynomial, h_this_polynomial_numbers, h_this_doneRules] [(h_this, .inr (4, [.ref h_this_values, .ref h_this_polynomial, .ref h_this_doneRules, .ref h_this_ways, .ref h_this_root, .int v_wireCount, .int v_bitsCame, .int v_bitsThere, .int v_inputBits, .int v_rootsBelow, .int v_begunOpen, .int v_empty])), (h_this_values, .inl (cI, 6, .inl o0)), (h_this_polynomial, .inr (1, [.ref h_this_polynomial_numbers, .int v_polynomial_monomials])), (h_this_polynomial_numbers, .inl (cI, 2325, .inl v_polynomial_numbers)), (h_this_doneRules, .inr (0, [.ref h_this_doneRules_kinds, .ref h_this_doneRules_ys, .ref h_this_doneRules_zs, .int v_doneRules_count]))] 59 [] []) : ZV p l e rm_Ps_begin s m args below meth c 4 D (some (.int rr)) [(h_this, .inr (4, [.ref h_this_values, .ref h_this_polynomial, .ref h_this_doneRules, .ref h_this_ways, .ref h_this_root, .int o_wireCount, .int o_bitsCame, .int o_bitsThere, .int o_inputBits, .int o_rootsBelow, .int o_begunOpen, .int o_empty])), (h_this_values, .inl (cI, 6, .inl o_values)), (h_this_polynomial, .inr (1, [.ref h_this_polynomial_numbers, .int o_polynomial_monomials])), (h_this_polynomial_numbers, .inl (cI, 2325, .inl o_polynomial_numbers)), (h_this_doneRules, .inr (0, [.ref h_this_doneRules_kinds, .ref h_this_doneRules_ys, .ref h_this_doneRules_zs, .int o_doneRules_count]))] [h_this, h_this_values, h_this_polynomial, h_this_polynomial_numbers, h_this_doneRules] [(h_this, .inr (4, [.ref h_this_values, .ref h_this_polynomial, .ref h_this_doneRules, .ref h_this_ways, .ref h_this_root, .int v_wireCount, .int v_bitsCame, .int v_bitsThere, .int v_inputBits, .int v_rootsBelow, .int v_begunOpen, .int v_empty])), (h_this_values, .inl (cI, 6, .inl v_values)), (h_this_polynomial, .inr (1, [.ref h_this_polynomial_numbers, .int v_polynomial_monomials])), (h_this_polynomial_numbers, .inl (cI, 2325, .inl v_polynomial_numbers)), (h_this_doneRules, .inr (0, [.ref h_this_doneRules_kinds, .ref h_this_doneRules_ys, .ref h_this_doneRules_zs, .int v_doneRules_count]))] 28 [(0, .ref h_this), (1, .int x1), (2, .int x2), (3, .int x3)] [] :=
  zloop_run (P := fun q => ZV p l e rm_Ps_begin s m args below meth c 4 D (some (.int rr)) [(h_this, .inr (4, [.ref h_this_values, .ref h_this_polynomial, .ref h_this_doneRules, .ref h_this_ways, .ref h_this_root, .int o_wireCount, .int o_bitsCame, .int o_bitsThere, .int o_inputBits, .int o_rootsBelow, .int o_begunOpen, .int o_empty])), (h_this_values, .inl (cI, 6, .inl o_values)), (h_this_polynomial, .inr (1, [.ref h_this_polynomial_numbers, .int o_polynomial_monomials])), (h_this_polynomial_numbers, .inl (cI, 2325, .inl o_polynomial_numbers)), (h_this_doneRules, .inr (0, [.ref h_this_doneRules_kinds, .ref h_this_doneRules_ys, .ref h_this_doneRules_zs, .int o_doneRules_count]))] [h_this, h_this_values, h_this_polynomial, h_this_polynomial_numbers, h_this_doneRules] [(h_this, .inr (4, [.ref h_this_values, .ref h_this_polynomial, .ref h_this_doneRules, .ref h_this_ways, .ref h_this_root, .int v_wireCount, .int v_bitsCame, .int v_bitsThere, .int v_inputBits, .int v_rootsBelow, .int v_begunOpen, .int v_empty])), (h_this_values, .inl (cI, 6, .inl q.2)), (h_this_polynomial, .inr (1, [.ref h_this_polynomial_numbers, .int v_polynomial_monomials])), (h_this_polynomial_numbers, .inl (cI, 2325, .inl v_polynomial_numbers)), (h_this_doneRules, .inr (0, [.ref h_this_doneRules_kinds, .ref h_this_doneRules_ys, .ref h_this_doneRules_zs, .int v_doneRules_count]))] 28 [(0, .ref h_this), (1, .int x1), (2, .int x2), (3, .int q.1)] []) (K := (fun q => ZV p l e rm_Ps_begin s m args below meth c 4 D (some (.int rr)) [(h_this, .inr (4, [.ref h_this_values, .ref h_this_polynomial, .ref h_this_doneRules, .ref h_this_ways, .ref h_this_root, .int o_wireCount, .int o_bitsCame, .int o_bitsThere, .int o_inputBits, .int o_rootsBelow, .int o_begunOpen, .int o_empty])), (h_this_values, .inl (cI, 6, .inl o_values)), (h_this_polynomial, .inr (1, [.ref h_this_polynomial_numbers, .int o_polynomial_monomials])), (h_this_polynomial_numbers, .inl (cI, 2325, .inl o_polynomial_numbers)), (h_this_doneRules, .inr (0, [.ref h_this_doneRules_kinds, .ref h_this_doneRules_ys, .ref h_this_doneRules_zs, .int o_doneRules_count]))] [h_this, h_this_values, h_this_polynomial, h_this_polynomial_numbers, h_this_doneRules] [(h_this, .inr (4, [.ref h_this_values, .ref h_this_polynomial, .ref h_this_doneRules, .ref h_this_ways, .ref h_this_root, .int v_wireCount, .int v_bitsCame, .int v_bitsThere, .int v_inputBits, .int v_rootsBelow, .int v_begunOpen, .int v_empty])), (h_this_values, .inl (cI, 6, .inl q)), (h_this_polynomial, .inr (1, [.ref h_this_polynomial_numbers, .int v_polynomial_monomials])), (h_this_polynomial_numbers, .inl (cI, 2325, .inl v_polynomial_numbers)), (h_this_doneRules, .inr (0, [.ref h_this_doneRules_kinds, .ref h_this_doneRules_ys, .ref h_this_doneRules_zs, .int v_doneRules_count]))] 59 [] [])) (fun q z hz hK => k_Ps_begin_l28 C hr hz hK) zF _ (o0) hf hK
/-- PathSums.begin(II)Z -/
def f_Ps_begin (x1 : Int32) (x2 : Int32) (v_wireCount : Int32) (v_bitsCame : Int32) (v_bitsThere : Int32) (v_inputBits : Int32) (v_rootsBelow : Int32) (v_begunOpen : Int32) (v_empty : Int32) (v_values : Nat → Int32) (v_polynomial_monomials : Int32) (v_polynomial_numbers : Nat → Int32) (v_doneRules_count : Int32) : Option (Int32 × Int32 × Int32 × Int32 × Int32 × Int32 × Int32 × Int32 × (Nat → Int32) × Int32 × (Nat → Int32) × Int32) :=
  if (f_Ps_isWireCount x1) = 0 then (
    some ((0 : Int32), v_wireCount, v_bitsCame, v_bitsThere, v_inputBits, v_rootsBelow, v_begunOpen, v_empty, v_values, v_polynomial_monomials, v_polynomial_numbers, v_doneRules_count))
  else (
    if x2 < 0 then (
      some ((0 : Int32), v_wireCount, v_bitsCame, v_bitsThere, v_inputBits, v_rootsBelow, v_begunOpen, v_empty, v_values, v_polynomial_monomials, v_polynomial_numbers, v_doneRules_count))
    else (
      if x2 < ((1 : Int32) <<< (x1 &&& 31)) then (
        zb11 (f_Ps_startAnew x1 (0 : Int32) v_wireCount v_bitsCame v_bitsThere v_inputBits v_rootsBelow v_begunOpen v_empty v_values v_polynomial_monomials v_polynomial_numbers v_doneRules_count) fun q_6 q_7 q_8 q_9 q_10 q_11 q_12 q_13 q_14 q_15 q_16 =>
        zb1 (zloop (fun q => f_Ps_begin_l28 x1 x2 q_6 q_7 q_8 q_9 q_10 q_11 q_12 q_14 q_15 q_16 q.1 q.2) zF ((0 : Int32), q_13)) fun q_17 =>
        some ((1 : Int32), q_6, q_7, q_8, q_9, q_10, q_11, q_12, q_17, q_14, q_15, q_16))
      else (
        some ((0 : Int32), v_wireCount, v_bitsCame, v_bitsThere, v_inputBits, v_rootsBelow, v_begunOpen, v_empty, v_values, v_polynomial_monomials, v_polynomial_numbers, v_doneRules_count))))
set_option maxRecDepth 100000 in
set_option maxHeartbeats 4000000 in
theorem k_Ps_begin {p : Program} {l : Launch} {e : Env} {s : State} {m : MethodId} {args : Array Value} {below : List Frame} {meth : Method} {c : Code} {D : va_G} {cI cL : ClassId} {h_this h_this_values h_this_polynomial h_this_doneRules h_this_ways h_this_root h_this_polynomial_numbers h_this_doneRules_kinds h_this_doneRules_ys h_this_doneRules_zs : Nat} {v_wireCount v_bitsCame v_bitsThere v_inputBits v_rootsBelow v_begunOpen v_empty v_polynomial_monomials v_doneRules_count rr o_wireCount o_bitsCame o_bitsThere o_inputBits o_rootsBelow o_begunOpen o_empty o_polynomial_monomials o_doneRules_count x1 x2 : Int32} {v_values v_polynomial_numbers o_values o_polynomial_numbers : Nat → Int32} (C : zC p s m args meth c b_Ps_begin 4 R_Ps D vwCl [(cI, .int), (cL, .long)] (zA [h_this, h_this_values, h_this_polynomial, h_this_polynomial_numbers, h_this_doneRules] s.heap.size)) (hr : meth.sig.returnType = some .boolean) (hf : f_Ps_begin x1 x2 v_wireCount v_bitsCame v_bitsThere v_inputBits v_rootsBelow v_begunOpen v_empty v_values v_polynomial_monomials v_polynomial_numbers v_doneRules_count = some (rr, o_wireCount, o_bitsCame, o_bitsThere, o_inputBits, o_rootsBelow, o_begunOpen, o_empty, o_values, o_polynomial_monomials, o_polynomial_numbers, o_doneRules_count)) : ZV p l e rm_Ps_begin s m args below meth c 4 D (some (.int rr)) [(h_this, .inr (4, [.ref h_this_values, .ref h_this_polynomial, .ref h_this_doneRules, .ref h_this_ways, .ref h_this_root, .int o_wireCount, .int o_bitsCame, .int o_bitsThere, .int o_inputBits, .int o_rootsBelow, .int o_begunOpen, .int o_empty])), (h_this_values, .inl (cI, 6, .inl o_values)), (h_this_polynomial, .inr (1, [.ref h_this_polynomial_numbers, .int o_polynomial_monomials])), (h_this_polynomial_numbers, .inl (cI, 2325, .inl o_polynomial_numbers)), (h_this_doneRules, .inr (0, [.ref h_this_doneRules_kinds, .ref h_this_doneRules_ys, .ref h_this_doneRules_zs, .int o_doneRules_count]))] [h_this, h_this_values, h_this_polynomial, h_this_polynomial_numbers, h_this_doneRules] [(h_this, .inr (4, [.ref h_this_values, .ref h_this_polynomial, .ref h_this_doneRules, .ref h_this_ways, .ref h_this_root, .int v_wireCount, .int v_bitsCame, .int v_bitsThere, .int v_inputBits, .int v_rootsBelow, .int v_begunOpen, .int v_empty])), (h_this_values, .inl (cI, 6, .inl v_values)), (h_this_polynomial, .inr (1, [.ref h_this_polynomial_numbers, .int v_polynomial_monomials])), (h_this_polynomial_numbers, .inl (cI, 2325, .inl v_polynomial_numbers)), (h_this_doneRules, .inr (0, [.ref h_this_doneRules_kinds, .ref h_this_doneRules_ys, .ref h_this_doneRules_zs, .int v_doneRules_count]))] 0 [(0, .ref h_this), (1, .int x1), (2, .int x2)] [] := by
  unfold f_Ps_begin at hf
  refine z_iload_n C d_Ps_begin_0 rfl 1 rfl ?_
  refine z_callS (As := [.int x1]) (rest := []) (ws' := [(h_this, .inr (4, [.ref h_this_values, .ref h_this_polynomial, .ref h_this_doneRules, .ref h_this_ways, .ref h_this_root, .int v_wireCount, .int v_bitsCame, .int v_bitsThere, .int v_inputBits, .int v_rootsBelow, .int v_begunOpen, .int v_empty])), (h_this_values, .inl (cI, 6, .inl v_values)), (h_this_polynomial, .inr (1, [.ref h_this_polynomial_numbers, .int v_polynomial_monomials])), (h_this_polynomial_numbers, .inl (cI, 2325, .inl v_polynomial_numbers)), (h_this_doneRules, .inr (0, [.ref h_this_doneRules_kinds, .ref h_this_doneRules_ys, .ref h_this_doneRules_zs, .int v_doneRules_count]))]) C (c_Ps_isWireCount rfl) mi_Ps_isWireCount zw_201 (by decide) [] (by decide) rfl rfl rfl rfl rfl (by decide) ⟨Nat.zero_le _, Nat.zero_le _⟩ d_Ps_begin_1 ?_
  refine z_if_eq (tgt := 18) C d_Ps_begin_4 (by decide) (fun c_2 => ?_) (fun c_2 => ?_)
  · have hf := zif_pos c_2 hf
    refine z_iconst (v := 0) C d_Ps_begin_18 (by decide) ?_
    cases hf
    exact z_zret C hr rfl d_Ps_begin_19
  · have hf := zif_neg c_2 hf
    refine z_iload_n C d_Ps_begin_7 rfl 2 rfl ?_
    refine z_if_lt (tgt := 18) C d_Ps_begin_8 (by decide) (fun c_3 => ?_) (fun c_3 => ?_)
    · have hf := zif_pos c_3 hf
      refine z_iconst (v := 0) C d_Ps_begin_18 (by decide) ?_
      cases hf
      exact z_zret C hr rfl d_Ps_begin_19
    · have hf := zif_neg c_3 hf
      refine z_iload_n C d_Ps_begin_11 rfl 2 rfl ?_
      refine z_iconst (v := 1) C d_Ps_begin_12 (by decide) ?_
      refine z_iload_n C d_Ps_begin_13 rfl 1 rfl ?_
      refine z_ishl C d_Ps_begin_14 ?_
      refine z_icmp_lt (tgt := 20) C d_Ps_begin_15 (by decide) (fun c_4 => ?_) (fun c_4 => ?_)
      · have hf := zif_pos c_4 hf
        refine z_aload_n C d_Ps_begin_20 rfl 0 rfl ?_
        refine z_iload_n C d_Ps_begin_21 rfl 1 rfl ?_
        refine z_iconst (v := 0) C d_Ps_begin_22 (by decide) ?_
        obtain ⟨q_6, q_7, q_8, q_9, q_10, q_11, q_12, q_13, q_14, q_15, q_16, h_5, hf⟩ := zb11_elim hf
        refine z_callV (As := [.int x1, .int (0 : Int32)]) (rest := []) (ws' := [(h_this, .inr (4, [.ref h_this_values, .ref h_this_polynomial, .ref h_this_doneRules, .ref h_this_ways, .ref h_this_root, .int q_6, .int q_7, .int q_8, .int q_9, .int q_10, .int q_11, .int q_12])), (h_this_values, .inl (cI, 6, .inl q_13)), (h_this_polynomial, .inr (1, [.ref h_this_polynomial_numbers, .int q_14])), (h_this_polynomial_numbers, .inl (cI, 2325, .inl q_15)), (h_this_doneRules, .inr (0, [.ref h_this_doneRules_kinds, .ref h_this_doneRules_ys, .ref h_this_doneRules_zs, .int q_16]))]) C (c_Ps_startAnew h_5) mi_Ps_startAnew zw_148 (by decide) 0 rfl rfl [0, 1, 2, 3, 4] (by decide) rfl rfl rfl rfl rfl (by decide) ⟨Nat.zero_le _, Nat.zero_le _⟩ d_Ps_begin_23 ?_
        refine z_iconst (v := 0) C d_Ps_begin_26 (by decide) ?_
        refine z_istore_n (lv' := [(3, .int (0 : Int32)), (0, .ref h_this), (1, .int x1), (2, .int x2)]) C d_Ps_begin_27 rfl (by decide) rfl ?_
        refine z_lv [1, 2, 3, 0] rfl ?_
        obtain ⟨q_17, h_18, hf⟩ := zb1_elim hf
        refine k_Ps_begin_l28_run C hr h_18 ?_
        refine z_iconst (v := 1) C d_Ps_begin_59 (by decide) ?_
        cases hf
        exact z_zret C hr rfl d_Ps_begin_60
      · have hf := zif_neg c_4 hf
        refine z_iconst (v := 0) C d_Ps_begin_18 (by decide) ?_
        cases hf
        exact z_zret C hr rfl d_Ps_begin_19
theorem c_Ps_begin {l : Launch} {D : va_G} {cI cL : ClassId} {h_this h_this_values h_this_polynomial h_this_doneRules h_this_ways h_this_root h_this_polynomial_numbers h_this_doneRules_kinds h_this_doneRules_ys h_this_doneRules_zs : Nat} {v_wireCount v_bitsCame v_bitsThere v_inputBits v_rootsBelow v_begunOpen v_empty v_polynomial_monomials v_doneRules_count rr o_wireCount o_bitsCame o_bitsThere o_inputBits o_rootsBelow o_begunOpen o_empty o_polynomial_monomials o_doneRules_count x1 x2 : Int32} {v_values v_polynomial_numbers o_values o_polynomial_numbers : Nat → Int32} (hf : f_Ps_begin x1 x2 v_wireCount v_bitsCame v_bitsThere v_inputBits v_rootsBelow v_begunOpen v_empty v_values v_polynomial_monomials v_polynomial_numbers v_doneRules_count = some (rr, o_wireCount, o_bitsCame, o_bitsThere, o_inputBits, o_rootsBelow, o_begunOpen, o_empty, o_values, o_polynomial_monomials, o_polynomial_numbers, o_doneRules_count)) : zM l y_Ps_begin (Cond.code y_Ps_begin b_Ps_begin 4 (some .boolean) :: zT) rm_Ps_begin D vwCl [(cI, .int), (cL, .long)] [.ref h_this, .int x1, .int x2] [(h_this, .inr (4, [.ref h_this_values, .ref h_this_polynomial, .ref h_this_doneRules, .ref h_this_ways, .ref h_this_root, .int v_wireCount, .int v_bitsCame, .int v_bitsThere, .int v_inputBits, .int v_rootsBelow, .int v_begunOpen, .int v_empty])), (h_this_values, .inl (cI, 6, .inl v_values)), (h_this_polynomial, .inr (1, [.ref h_this_polynomial_numbers, .int v_polynomial_monomials])), (h_this_polynomial_numbers, .inl (cI, 2325, .inl v_polynomial_numbers)), (h_this_doneRules, .inr (0, [.ref h_this_doneRules_kinds, .ref h_this_doneRules_ys, .ref h_this_doneRules_zs, .int v_doneRules_count]))] [(h_this, .inr (4, [.ref h_this_values, .ref h_this_polynomial, .ref h_this_doneRules, .ref h_this_ways, .ref h_this_root, .int o_wireCount, .int o_bitsCame, .int o_bitsThere, .int o_inputBits, .int o_rootsBelow, .int o_begunOpen, .int o_empty])), (h_this_values, .inl (cI, 6, .inl o_values)), (h_this_polynomial, .inr (1, [.ref h_this_polynomial_numbers, .int o_polynomial_monomials])), (h_this_polynomial_numbers, .inl (cI, 2325, .inl o_polynomial_numbers)), (h_this_doneRules, .inr (0, [.ref h_this_doneRules_kinds, .ref h_this_doneRules_ys, .ref h_this_doneRules_zs, .int o_doneRules_count]))] (some (.int rr)) :=
  zM.intro (by decide) rfl (fun _ h => List.mem_cons_of_mem _ h) (Nat.le_of_ble_eq_true rfl) (fun _ _ _ _ _ _ _ C hr _ => k_Ps_begin C hr hf)
def rm_Ps_open : Room := { frames := 3, cells := 0, slots := 0, locals := 65 }
def f_Ps_open_l17 (x1 : Int32) (v_wireCount : Int32) (v_bitsCame : Int32) (v_bitsThere : Int32) (v_inputBits : Int32) (v_rootsBelow : Int32) (v_begunOpen : Int32) (v_empty : Int32) (v_polynomial_monomials : Int32) (v_polynomial_numbers : Nat → Int32) (v_doneRules_count : Int32) (x2 : Int32) (v_values : Nat → Int32) : Option ((Int32 × (Nat → Int32)) ⊕ ((Nat → Int32))) :=
  if x1 ≤ x2 then (
    some (.inr (v_values)))
  else (
    if x2 < 0 ∨ 6 ≤ x2.toNatClampNeg then none else
    zlet (upd v_values x2.toNatClampNeg ((1 : Int32) <<< (x2 &&& 31))) fun u_3 =>
    zlet (x2 + 1) fun y_4 =>
    some (.inl (y_4, u_3)))
set_option maxRecDepth 100000 in
set_option maxHeartbeats 4000000 in
theorem k_Ps_open_l17 {p : Program} {l : Launch} {e : Env} {s : State} {m : MethodId} {args : Array Value} {below : List Frame} {meth : Method} {c : Code} {D : va_G} {cI cL : ClassId} {h_this h_this_values h_this_polynomial h_this_doneRules h_this_ways h_this_root h_this_polynomial_numbers h_this_doneRules_kinds h_this_doneRules_ys h_this_doneRules_zs : Nat} {v_wireCount v_bitsCame v_bitsThere v_inputBits v_rootsBelow v_begunOpen v_empty v_polynomial_monomials v_doneRules_count rr o_wireCount o_bitsCame o_bitsThere o_inputBits o_rootsBelow o_begunOpen o_empty o_polynomial_monomials o_doneRules_count x1 x2 : Int32} {v_values v_polynomial_numbers o_values o_polynomial_numbers : Nat → Int32} (C : zC p s m args meth c b_Ps_open 3 R_Ps D vwCl [(cI, .int), (cL, .long)] (zA [h_this, h_this_values, h_this_polynomial, h_this_polynomial_numbers, h_this_doneRules] s.heap.size)) (hr : meth.sig.returnType = some .boolean) {z : (Int32 × (Nat → Int32)) ⊕ ((Nat → Int32))} (hf : f_Ps_open_l17 x1 v_wireCount v_bitsCame v_bitsThere v_inputBits v_rootsBelow v_begunOpen v_empty v_polynomial_monomials v_polynomial_numbers v_doneRules_count x2 v_values = some z) (hK : zcase (fun q => ZV p l e rm_Ps_open s m args below meth c 3 D (some (.int rr)) [(h_this, .inr (4, [.ref h_this_values, .ref h_this_polynomial, .ref h_this_doneRules, .ref h_this_ways, .ref h_this_root, .int o_wireCount, .int o_bitsCame, .int o_bitsThere, .int o_inputBits, .int o_rootsBelow, .int o_begunOpen, .int o_empty])), (h_this_values, .inl (cI, 6, .inl o_values)), (h_this_polynomial, .inr (1, [.ref h_this_polynomial_numbers, .int o_polynomial_monomials])), (h_this_polynomial_numbers, .inl (cI, 2325, .inl o_polynomial_numbers)), (h_this_doneRules, .inr (0, [.ref h_this_doneRules_kinds, .ref h_this_doneRules_ys, .ref h_this_doneRules_zs, .int o_doneRules_count]))] [h_this, h_this_values, h_this_polynomial, h_this_polynomial_numbers, h_this_doneRules] [(h_this, .inr (4, [.ref h_this_values, .ref h_this_polynomial, .ref h_this_doneRules, .ref h_this_ways, .ref h_this_root, .int v_wireCount, .int v_bitsCame, .int v_bitsThere, .int v_inputBits, .int v_rootsBelow, .int v_begunOpen, .int v_empty])), (h_this_values, .inl (cI, 6, .inl q.2)), (h_this_polynomial, .inr (1, [.ref h_this_polynomial_numbers, .int v_polynomial_monomials])), (h_this_polynomial_numbers, .inl (cI, 2325, .inl v_polynomial_numbers)), (h_this_doneRules, .inr (0, [.ref h_this_doneRules_kinds, .ref h_this_doneRules_ys, .ref h_this_doneRules_zs, .int v_doneRules_count]))] 17 [(0, .ref h_this), (1, .int x1), (2, .int q.1)] []) (fun q => ZV p l e rm_Ps_open s m args below meth c 3 D (some (.int rr)) [(h_this, .inr (4, [.ref h_this_values, .ref h_this_polynomial, .ref h_this_doneRules, .ref h_this_ways, .ref h_this_root, .int o_wireCount, .int o_bitsCame, .int o_bitsThere, .int o_inputBits, .int o_rootsBelow, .int o_begunOpen, .int o_empty])), (h_this_values, .inl (cI, 6, .inl o_values)), (h_this_polynomial, .inr (1, [.ref h_this_polynomial_numbers, .int o_polynomial_monomials])), (h_this_polynomial_numbers, .inl (cI, 2325, .inl o_polynomial_numbers)), (h_this_doneRules, .inr (0, [.ref h_this_doneRules_kinds, .ref h_this_doneRules_ys, .ref h_this_doneRules_zs, .int o_doneRules_count]))] [h_this, h_this_values, h_this_polynomial, h_this_polynomial_numbers, h_this_doneRules] [(h_this, .inr (4, [.ref h_this_values, .ref h_this_polynomial, .ref h_this_doneRules, .ref h_this_ways, .ref h_this_root, .int v_wireCount, .int v_bitsCame, .int v_bitsThere, .int v_inputBits, .int v_rootsBelow, .int v_begunOpen, .int v_empty])), (h_this_values, .inl (cI, 6, .inl q)), (h_this_polynomial, .inr (1, [.ref h_this_polynomial_numbers, .int v_polynomial_monomials])), (h_this_polynomial_numbers, .inl (cI, 2325, .inl v_polynomial_numbers)), (h_this_doneRules, .inr (0, [.ref h_this_doneRules_kinds, .ref h_this_doneRules_ys, .ref h_this_doneRules_zs, .int v_doneRules_count]))] 37 [(0, .ref h_this), (1, .int x1)] []) z) : ZV p l e rm_Ps_open s m args below meth c 3 D (some (.int rr)) [(h_this, .inr (4, [.ref h_this_values, .ref h_this_polynomial, .ref h_this_doneRules, .ref h_this_ways, .ref h_this_root, .int o_wireCount, .int o_bitsCame, .int o_bitsThere, .int o_inputBits, .int o_rootsBelow, .int o_begunOpen, .int o_empty])), (h_this_values, .inl (cI, 6, .inl o_values)), (h_this_polynomial, .inr (1, [.ref h_this_polynomial_numbers, .int o_polynomial_monomials])), (h_this_polynomial_numbers, .inl (cI, 2325, .inl o_polynomial_numbers)), (h_this_doneRules, .inr (0, [.ref h_this_doneRules_kinds, .ref h_this_doneRules_ys, .ref h_this_doneRules_zs, .int o_doneRules_count]))] [h_this, h_this_values, h_this_polynomial, h_this_polynomial_numbers, h_this_doneRules] [(h_this, .inr (4, [.ref h_this_values, .ref h_this_polynomial, .ref h_this_doneRules, .ref h_this_ways, .ref h_this_root, .int v_wireCount, .int v_bitsCame, .int v_bitsThere, .int v_inputBits, .int v_rootsBelow, .int v_begunOpen, .int v_empty])), (h_this_values, .inl (cI, 6, .inl v_values)), (h_this_polynomial, .inr (1, [.ref h_this_polynomial_numbers, .int v_polynomial_monomials])), (h_this_polynomial_numbers, .inl (cI, 2325, .inl v_polynomial_numbers)), (h_this_doneRules, .inr (0, [.ref h_this_doneRules_kinds, .ref h_this_doneRules_ys, .ref h_this_doneRules_zs, .int v_doneRules_count]))] 17 [(0, .ref h_this), (1, .int x1), (2, .int x2)] [] := by
  unfold f_Ps_open_l17 at hf
  refine z_iload_n C d_Ps_open_17 rfl 2 rfl ?_
  refine z_iload_n C d_Ps_open_18 rfl 1 rfl ?_
  refine z_icmp_ge (tgt := 37) C d_Ps_open_19 (by decide) (fun c_1 => ?_) (fun c_1 => ?_)
  · have hf := zif_pos c_1 hf
    refine z_lv [0, 1] rfl ?_
    cases hf
    exact hK
  · have hf := zif_neg c_1 hf
    refine z_aload_n C d_Ps_open_22 rfl 0 rfl ?_
    refine z_get C iw_Ps 0 rfl rfl 0 (by decide) zw_160 rfl d_Ps_open_23 ?_
    refine z_iload_n C d_Ps_open_26 rfl 2 rfl ?_
    refine z_iconst (v := 1) C d_Ps_open_27 (by decide) ?_
    refine z_iload_n C d_Ps_open_28 rfl 2 rfl ?_
    refine z_ishl C d_Ps_open_29 ?_
    obtain ⟨g_2, hf⟩ := zguard hf
    obtain ⟨u_3, eu_3⟩ : ∃ u : Nat → Int32, u = upd v_values x2.toNatClampNeg ((1 : Int32) <<< (x2 &&& 31)) := ⟨_, rfl⟩
    have hf := zlet_at eu_3 hf
    refine z_iast (ws' := [(h_this, .inr (4, [.ref h_this_values, .ref h_this_polynomial, .ref h_this_doneRules, .ref h_this_ways, .ref h_this_root, .int v_wireCount, .int v_bitsCame, .int v_bitsThere, .int v_inputBits, .int v_rootsBelow, .int v_begunOpen, .int v_empty])), (h_this_values, .inl (cI, 6, .inl u_3)), (h_this_polynomial, .inr (1, [.ref h_this_polynomial_numbers, .int v_polynomial_monomials])), (h_this_polynomial_numbers, .inl (cI, 2325, .inl v_polynomial_numbers)), (h_this_doneRules, .inr (0, [.ref h_this_doneRules_kinds, .ref h_this_doneRules_ys, .ref h_this_doneRules_zs, .int v_doneRules_count]))]) C 1 0 rfl rfl g_2 d_Ps_open_30 (by rw [eu_3]; rfl) ?_
    obtain ⟨y_4, ey_4⟩ : ∃ y : Int32, y = x2 + 1 := ⟨_, rfl⟩
    have hf := zlet_at ey_4 hf
    refine z_iinc (v := y_4) (lv' := [(2, .int y_4), (0, .ref h_this), (1, .int x1)]) C d_Ps_open_31 (k := 2) rfl (by rw [ey_4]; rfl) (by decide) rfl ?_
    refine z_goto (tgt := 17) C d_Ps_open_34 (by decide) ?_
    refine z_lv [1, 2, 0] rfl ?_
    cases hf
    exact hK
theorem k_Ps_open_l17_run {p : Program} {l : Launch} {e : Env} {s : State} {m : MethodId} {args : Array Value} {below : List Frame} {meth : Method} {c : Code} {D : va_G} {cI cL : ClassId} {h_this h_this_values h_this_polynomial h_this_doneRules h_this_ways h_this_root h_this_polynomial_numbers h_this_doneRules_kinds h_this_doneRules_ys h_this_doneRules_zs : Nat} {v_wireCount v_bitsCame v_bitsThere v_inputBits v_rootsBelow v_begunOpen v_empty v_polynomial_monomials v_doneRules_count rr o_wireCount o_bitsCame o_bitsThere o_inputBits o_rootsBelow o_begunOpen o_empty o_polynomial_monomials o_doneRules_count x1 x2 : Int32} {v_values v_polynomial_numbers o_values o_polynomial_numbers : Nat → Int32} (C : zC p s m args meth c b_Ps_open 3 R_Ps D vwCl [(cI, .int), (cL, .long)] (zA [h_this, h_this_values, h_this_polynomial, h_this_polynomial_numbers, h_this_doneRules] s.heap.size)) (hr : meth.sig.returnType = some .boolean) {o0 : Nat → Int32} (hf : zloop (fun q => f_Ps_open_l17 x1 v_wireCount v_bitsCame v_bitsThere v_inputBits v_rootsBelow v_begunOpen v_empty v_polynomial_monomials v_polynomial_numbers v_doneRules_count q.1 q.2) zF (x2, v_values) = some o0) (hK : ZV p l e rm_Ps_open s m args below meth c 3 D (some (.int rr)) [(h_this, .inr (4, [.ref h_this_values, .ref h_this_polynomial, .ref h_this_doneRules, .ref h_this_ways, .ref h_this_root, .int o_wireCount, .int o_bitsCame, .int o_bitsThere, .int o_inputBits, .int o_rootsBelow, .int o_begunOpen, .int o_empty])), (h_this_values, .inl (cI, 6, .inl o_values)), (h_this_polynomial, .inr (1, [.ref h_this_polynomial_numbers, .int o_polynomial_monomials])), (h_this_polynomial_numbers, .inl (cI, 2325, .inl o_polynomial_numbers)), (h_this_doneRules, .inr (0, [.ref h_this_doneRules_kinds, .ref h_this_doneRules_ys, .ref h_this_doneRules_zs, .int o_doneRules_count]))] [h_this, h_this_values, h_this_polynomial, h_this_polynomial_numbers, h_this_doneRules] [(h_this, .inr (4, [.ref h_this_values, .ref h_this_polynomial, .ref h_this_doneRules, .ref h_this_ways, .ref h_this_root, .int v_wireCount, .int v_bitsCame, .int v_bitsThere, .int v_inputBits, .int v_rootsBelow, .int v_begunOpen, .int v_empty])), (h_this_values, .inl (cI, 6, .inl o0)), (h_this_polynomial, .inr (1, [.ref h_this_polynomial_numbers, .int v_polynomial_monomials])), (h_this_polynomial_numbers, .inl (cI, 2325, .inl v_polynomial_numbers)), (h_this_doneRules, .inr (0, [.ref h_this_doneRules_kinds, .ref h_this_doneRules_ys, .ref h_this_doneRules_zs, .int v_doneRules_count]))] 37 [(0, .ref h_this), (1, .int x1)] []) : ZV p l e rm_Ps_open s m args below meth c 3 D (some (.int rr)) [(h_this, .inr (4, [.ref h_this_values, .ref h_this_polynomial, .ref h_this_doneRules, .ref h_this_ways, .ref h_this_root, .int o_wireCount, .int o_bitsCame, .int o_bitsThere, .int o_inputBits, .int o_rootsBelow, .int o_begunOpen, .int o_empty])), (h_this_values, .inl (cI, 6, .inl o_values)), (h_this_polynomial, .inr (1, [.ref h_this_polynomial_numbers, .int o_polynomial_monomials])), (h_this_polynomial_numbers, .inl (cI, 2325, .inl o_polynomial_numbers)), (h_this_doneRules, .inr (0, [.ref h_this_doneRules_kinds, .ref h_this_doneRules_ys, .ref h_this_doneRules_zs, .int o_doneRules_count]))] [h_this, h_this_values, h_this_polynomial, h_this_polynomial_numbers, h_this_doneRules] [(h_this, .inr (4, [.ref h_this_values, .ref h_this_polynomial, .ref h_this_doneRules, .ref h_this_ways, .ref h_this_root, .int v_wireCount, .int v_bitsCame, .int v_bitsThere, .int v_inputBits, .int v_rootsBelow, .int v_begunOpen, .int v_empty])), (h_this_values, .inl (cI, 6, .inl v_values)), (h_this_polynomial, .inr (1, [.ref h_this_polynomial_numbers, .int v_polynomial_monomials])), (h_this_polynomial_numbers, .inl (cI, 2325, .inl v_polynomial_numbers)), (h_this_doneRules, .inr (0, [.ref h_this_doneRules_kinds, .ref h_this_doneRules_ys, .ref h_this_doneRules_zs, .int v_doneRules_count]))] 17 [(0, .ref h_this), (1, .int x1), (2, .int x2)] [] :=
  zloop_run (P := fun q => ZV p l e rm_Ps_open s m args below meth c 3 D (some (.int rr)) [(h_this, .inr (4, [.ref h_this_values, .ref h_this_polynomial, .ref h_this_doneRules, .ref h_this_ways, .ref h_this_root, .int o_wireCount, .int o_bitsCame, .int o_bitsThere, .int o_inputBits, .int o_rootsBelow, .int o_begunOpen, .int o_empty])), (h_this_values, .inl (cI, 6, .inl o_values)), (h_this_polynomial, .inr (1, [.ref h_this_polynomial_numbers, .int o_polynomial_monomials])), (h_this_polynomial_numbers, .inl (cI, 2325, .inl o_polynomial_numbers)), (h_this_doneRules, .inr (0, [.ref h_this_doneRules_kinds, .ref h_this_doneRules_ys, .ref h_this_doneRules_zs, .int o_doneRules_count]))] [h_this, h_this_values, h_this_polynomial, h_this_polynomial_numbers, h_this_doneRules] [(h_this, .inr (4, [.ref h_this_values, .ref h_this_polynomial, .ref h_this_doneRules, .ref h_this_ways, .ref h_this_root, .int v_wireCount, .int v_bitsCame, .int v_bitsThere, .int v_inputBits, .int v_rootsBelow, .int v_begunOpen, .int v_empty])), (h_this_values, .inl (cI, 6, .inl q.2)), (h_this_polynomial, .inr (1, [.ref h_this_polynomial_numbers, .int v_polynomial_monomials])), (h_this_polynomial_numbers, .inl (cI, 2325, .inl v_polynomial_numbers)), (h_this_doneRules, .inr (0, [.ref h_this_doneRules_kinds, .ref h_this_doneRules_ys, .ref h_this_doneRules_zs, .int v_doneRules_count]))] 17 [(0, .ref h_this), (1, .int x1), (2, .int q.1)] []) (K := (fun q => ZV p l e rm_Ps_open s m args below meth c 3 D (some (.int rr)) [(h_this, .inr (4, [.ref h_this_values, .ref h_this_polynomial, .ref h_this_doneRules, .ref h_this_ways, .ref h_this_root, .int o_wireCount, .int o_bitsCame, .int o_bitsThere, .int o_inputBits, .int o_rootsBelow, .int o_begunOpen, .int o_empty])), (h_this_values, .inl (cI, 6, .inl o_values)), (h_this_polynomial, .inr (1, [.ref h_this_polynomial_numbers, .int o_polynomial_monomials])), (h_this_polynomial_numbers, .inl (cI, 2325, .inl o_polynomial_numbers)), (h_this_doneRules, .inr (0, [.ref h_this_doneRules_kinds, .ref h_this_doneRules_ys, .ref h_this_doneRules_zs, .int o_doneRules_count]))] [h_this, h_this_values, h_this_polynomial, h_this_polynomial_numbers, h_this_doneRules] [(h_this, .inr (4, [.ref h_this_values, .ref h_this_polynomial, .ref h_this_doneRules, .ref h_this_ways, .ref h_this_root, .int v_wireCount, .int v_bitsCame, .int v_bitsThere, .int v_inputBits, .int v_rootsBelow, .int v_begunOpen, .int v_empty])), (h_this_values, .inl (cI, 6, .inl q)), (h_this_polynomial, .inr (1, [.ref h_this_polynomial_numbers, .int v_polynomial_monomials])), (h_this_polynomial_numbers, .inl (cI, 2325, .inl v_polynomial_numbers)), (h_this_doneRules, .inr (0, [.ref h_this_doneRules_kinds, .ref h_this_doneRules_ys, .ref h_this_doneRules_zs, .int v_doneRules_count]))] 37 [(0, .ref h_this), (1, .int x1)] [])) (fun q z hz hK => k_Ps_open_l17 C hr hz hK) zF _ (o0) hf hK
/-- PathSums.open(I)Z -/
def f_Ps_open (x1 : Int32) (v_wireCount : Int32) (v_bitsCame : Int32) (v_bitsThere : Int32) (v_inputBits : Int32) (v_rootsBelow : Int32) (v_begunOpen : Int32) (v_empty : Int32) (v_values : Nat → Int32) (v_polynomial_monomials : Int32) (v_polynomial_numbers : Nat → Int32) (v_doneRules_count : Int32) : Option (Int32 × Int32 × Int32 × Int32 × Int32 × Int32 × Int32 × Int32 × (Nat → Int32) × Int32 × (Nat → Int32) × Int32) :=
  if (f_Ps_isWireCount x1) = 0 then (
    some ((0 : Int32), v_wireCount, v_bitsCame, v_bitsThere, v_inputBits, v_rootsBelow, v_begunOpen, v_empty, v_values, v_polynomial_monomials, v_polynomial_numbers, v_doneRules_count))
  else (
    zb11 (f_Ps_startAnew x1 (1 : Int32) v_wireCount v_bitsCame v_bitsThere v_inputBits v_rootsBelow v_begunOpen v_empty v_values v_polynomial_monomials v_polynomial_numbers v_doneRules_count) fun q_4 q_5 q_6 q_7 q_8 q_9 q_10 q_11 q_12 q_13 q_14 =>
    zb1 (zloop (fun q => f_Ps_open_l17 x1 q_4 q_5 q_6 q_7 q_8 q_9 q_10 q_12 q_13 q_14 q.1 q.2) zF ((0 : Int32), q_11)) fun q_15 =>
    zlet (((1 : Int32) <<< (x1 &&& 31)) - (1 : Int32)) fun y_17 =>
    some ((1 : Int32), q_4, x1, y_17, y_17, q_8, q_9, q_10, q_15, q_12, q_13, q_14))
set_option maxRecDepth 100000 in
set_option maxHeartbeats 4000000 in
theorem k_Ps_open {p : Program} {l : Launch} {e : Env} {s : State} {m : MethodId} {args : Array Value} {below : List Frame} {meth : Method} {c : Code} {D : va_G} {cI cL : ClassId} {h_this h_this_values h_this_polynomial h_this_doneRules h_this_ways h_this_root h_this_polynomial_numbers h_this_doneRules_kinds h_this_doneRules_ys h_this_doneRules_zs : Nat} {v_wireCount v_bitsCame v_bitsThere v_inputBits v_rootsBelow v_begunOpen v_empty v_polynomial_monomials v_doneRules_count rr o_wireCount o_bitsCame o_bitsThere o_inputBits o_rootsBelow o_begunOpen o_empty o_polynomial_monomials o_doneRules_count x1 : Int32} {v_values v_polynomial_numbers o_values o_polynomial_numbers : Nat → Int32} (C : zC p s m args meth c b_Ps_open 3 R_Ps D vwCl [(cI, .int), (cL, .long)] (zA [h_this, h_this_values, h_this_polynomial, h_this_polynomial_numbers, h_this_doneRules] s.heap.size)) (hr : meth.sig.returnType = some .boolean) (hf : f_Ps_open x1 v_wireCount v_bitsCame v_bitsThere v_inputBits v_rootsBelow v_begunOpen v_empty v_values v_polynomial_monomials v_polynomial_numbers v_doneRules_count = some (rr, o_wireCount, o_bitsCame, o_bitsThere, o_inputBits, o_rootsBelow, o_begunOpen, o_empty, o_values, o_polynomial_monomials, o_polynomial_numbers, o_doneRules_count)) : ZV p l e rm_Ps_open s m args below meth c 3 D (some (.int rr)) [(h_this, .inr (4, [.ref h_this_values, .ref h_this_polynomial, .ref h_this_doneRules, .ref h_this_ways, .ref h_this_root, .int o_wireCount, .int o_bitsCame, .int o_bitsThere, .int o_inputBits, .int o_rootsBelow, .int o_begunOpen, .int o_empty])), (h_this_values, .inl (cI, 6, .inl o_values)), (h_this_polynomial, .inr (1, [.ref h_this_polynomial_numbers, .int o_polynomial_monomials])), (h_this_polynomial_numbers, .inl (cI, 2325, .inl o_polynomial_numbers)), (h_this_doneRules, .inr (0, [.ref h_this_doneRules_kinds, .ref h_this_doneRules_ys, .ref h_this_doneRules_zs, .int o_doneRules_count]))] [h_this, h_this_values, h_this_polynomial, h_this_polynomial_numbers, h_this_doneRules] [(h_this, .inr (4, [.ref h_this_values, .ref h_this_polynomial, .ref h_this_doneRules, .ref h_this_ways, .ref h_this_root, .int v_wireCount, .int v_bitsCame, .int v_bitsThere, .int v_inputBits, .int v_rootsBelow, .int v_begunOpen, .int v_empty])), (h_this_values, .inl (cI, 6, .inl v_values)), (h_this_polynomial, .inr (1, [.ref h_this_polynomial_numbers, .int v_polynomial_monomials])), (h_this_polynomial_numbers, .inl (cI, 2325, .inl v_polynomial_numbers)), (h_this_doneRules, .inr (0, [.ref h_this_doneRules_kinds, .ref h_this_doneRules_ys, .ref h_this_doneRules_zs, .int v_doneRules_count]))] 0 [(0, .ref h_this), (1, .int x1)] [] := by
  unfold f_Ps_open at hf
  refine z_iload_n C d_Ps_open_0 rfl 1 rfl ?_
  refine z_callS (As := [.int x1]) (rest := []) (ws' := [(h_this, .inr (4, [.ref h_this_values, .ref h_this_polynomial, .ref h_this_doneRules, .ref h_this_ways, .ref h_this_root, .int v_wireCount, .int v_bitsCame, .int v_bitsThere, .int v_inputBits, .int v_rootsBelow, .int v_begunOpen, .int v_empty])), (h_this_values, .inl (cI, 6, .inl v_values)), (h_this_polynomial, .inr (1, [.ref h_this_polynomial_numbers, .int v_polynomial_monomials])), (h_this_polynomial_numbers, .inl (cI, 2325, .inl v_polynomial_numbers)), (h_this_doneRules, .inr (0, [.ref h_this_doneRules_kinds, .ref h_this_doneRules_ys, .ref h_this_doneRules_zs, .int v_doneRules_count]))]) C (c_Ps_isWireCount rfl) mi_Ps_isWireCount zw_201 (by decide) [] (by decide) rfl rfl rfl rfl rfl (by decide) ⟨Nat.zero_le _, Nat.zero_le _⟩ d_Ps_open_1 ?_
  refine z_if_ne (tgt := 9) C d_Ps_open_4 (by decide) (fun c_2 => ?_) (fun c_2 => ?_)
  · have hf := zif_neg c_2 hf
    refine z_aload_n C d_Ps_open_9 rfl 0 rfl ?_
    refine z_iload_n C d_Ps_open_10 rfl 1 rfl ?_
    refine z_iconst (v := 1) C d_Ps_open_11 (by decide) ?_
    obtain ⟨q_4, q_5, q_6, q_7, q_8, q_9, q_10, q_11, q_12, q_13, q_14, h_3, hf⟩ := zb11_elim hf
    refine z_callV (As := [.int x1, .int (1 : Int32)]) (rest := []) (ws' := [(h_this, .inr (4, [.ref h_this_values, .ref h_this_polynomial, .ref h_this_doneRules, .ref h_this_ways, .ref h_this_root, .int q_4, .int q_5, .int q_6, .int q_7, .int q_8, .int q_9, .int q_10])), (h_this_values, .inl (cI, 6, .inl q_11)), (h_this_polynomial, .inr (1, [.ref h_this_polynomial_numbers, .int q_12])), (h_this_polynomial_numbers, .inl (cI, 2325, .inl q_13)), (h_this_doneRules, .inr (0, [.ref h_this_doneRules_kinds, .ref h_this_doneRules_ys, .ref h_this_doneRules_zs, .int q_14]))]) C (c_Ps_startAnew h_3) mi_Ps_startAnew zw_148 (by decide) 0 rfl rfl [0, 1, 2, 3, 4] (by decide) rfl rfl rfl rfl rfl (by decide) ⟨Nat.zero_le _, Nat.zero_le _⟩ d_Ps_open_12 ?_
    refine z_iconst (v := 0) C d_Ps_open_15 (by decide) ?_
    refine z_istore_n (lv' := [(2, .int (0 : Int32)), (0, .ref h_this), (1, .int x1)]) C d_Ps_open_16 rfl (by decide) rfl ?_
    refine z_lv [1, 2, 0] rfl ?_
    obtain ⟨q_15, h_16, hf⟩ := zb1_elim hf
    refine k_Ps_open_l17_run C hr h_16 ?_
    refine z_aload_n C d_Ps_open_37 rfl 0 rfl ?_
    refine z_iload_n C d_Ps_open_38 rfl 1 rfl ?_
    refine z_put (ws' := [(h_this, .inr (4, [.ref h_this_values, .ref h_this_polynomial, .ref h_this_doneRules, .ref h_this_ways, .ref h_this_root, .int q_4, .int x1, .int q_6, .int q_7, .int q_8, .int q_9, .int q_10])), (h_this_values, .inl (cI, 6, .inl q_15)), (h_this_polynomial, .inr (1, [.ref h_this_polynomial_numbers, .int q_12])), (h_this_polynomial_numbers, .inl (cI, 2325, .inl q_13)), (h_this_doneRules, .inr (0, [.ref h_this_doneRules_kinds, .ref h_this_doneRules_ys, .ref h_this_doneRules_zs, .int q_14]))]) C iw_Ps t_Ps t_Ps_ok n_Ps 0 rfl rfl 6 (by decide) zw_166 rfl (ty := .int) rfl rfl rfl (by simp) d_Ps_open_39 rfl ?_
    refine z_aload_n C d_Ps_open_42 rfl 0 rfl ?_
    refine z_iconst (v := 1) C d_Ps_open_43 (by decide) ?_
    refine z_iload_n C d_Ps_open_44 rfl 1 rfl ?_
    refine z_ishl C d_Ps_open_45 ?_
    refine z_iconst (v := 1) C d_Ps_open_46 (by decide) ?_
    refine z_isub C d_Ps_open_47 ?_
    refine z_topi (fun y_17 ey_17 => ?_)
    have hf := zlet_at ey_17 hf
    refine z_put (ws' := [(h_this, .inr (4, [.ref h_this_values, .ref h_this_polynomial, .ref h_this_doneRules, .ref h_this_ways, .ref h_this_root, .int q_4, .int x1, .int q_6, .int y_17, .int q_8, .int q_9, .int q_10])), (h_this_values, .inl (cI, 6, .inl q_15)), (h_this_polynomial, .inr (1, [.ref h_this_polynomial_numbers, .int q_12])), (h_this_polynomial_numbers, .inl (cI, 2325, .inl q_13)), (h_this_doneRules, .inr (0, [.ref h_this_doneRules_kinds, .ref h_this_doneRules_ys, .ref h_this_doneRules_zs, .int q_14]))]) C iw_Ps t_Ps t_Ps_ok n_Ps 0 rfl rfl 8 (by decide) zw_168 rfl (ty := .int) rfl rfl rfl (by simp) d_Ps_open_48 rfl ?_
    refine z_aload_n C d_Ps_open_51 rfl 0 rfl ?_
    refine z_aload_n C d_Ps_open_52 rfl 0 rfl ?_
    refine z_get C iw_Ps 0 rfl rfl 8 (by decide) zw_168 rfl d_Ps_open_53 ?_
    refine z_put (ws' := [(h_this, .inr (4, [.ref h_this_values, .ref h_this_polynomial, .ref h_this_doneRules, .ref h_this_ways, .ref h_this_root, .int q_4, .int x1, .int y_17, .int y_17, .int q_8, .int q_9, .int q_10])), (h_this_values, .inl (cI, 6, .inl q_15)), (h_this_polynomial, .inr (1, [.ref h_this_polynomial_numbers, .int q_12])), (h_this_polynomial_numbers, .inl (cI, 2325, .inl q_13)), (h_this_doneRules, .inr (0, [.ref h_this_doneRules_kinds, .ref h_this_doneRules_ys, .ref h_this_doneRules_zs, .int q_14]))]) C iw_Ps t_Ps t_Ps_ok n_Ps 0 rfl rfl 7 (by decide) zw_167 rfl (ty := .int) rfl rfl rfl (by simp) d_Ps_open_56 rfl ?_
    refine z_iconst (v := 1) C d_Ps_open_59 (by decide) ?_
    cases hf
    exact z_zret C hr rfl d_Ps_open_60
  · have hf := zif_pos c_2 hf
    refine z_iconst (v := 0) C d_Ps_open_7 (by decide) ?_
    cases hf
    exact z_zret C hr rfl d_Ps_open_8
theorem c_Ps_open {l : Launch} {D : va_G} {cI cL : ClassId} {h_this h_this_values h_this_polynomial h_this_doneRules h_this_ways h_this_root h_this_polynomial_numbers h_this_doneRules_kinds h_this_doneRules_ys h_this_doneRules_zs : Nat} {v_wireCount v_bitsCame v_bitsThere v_inputBits v_rootsBelow v_begunOpen v_empty v_polynomial_monomials v_doneRules_count rr o_wireCount o_bitsCame o_bitsThere o_inputBits o_rootsBelow o_begunOpen o_empty o_polynomial_monomials o_doneRules_count x1 : Int32} {v_values v_polynomial_numbers o_values o_polynomial_numbers : Nat → Int32} (hf : f_Ps_open x1 v_wireCount v_bitsCame v_bitsThere v_inputBits v_rootsBelow v_begunOpen v_empty v_values v_polynomial_monomials v_polynomial_numbers v_doneRules_count = some (rr, o_wireCount, o_bitsCame, o_bitsThere, o_inputBits, o_rootsBelow, o_begunOpen, o_empty, o_values, o_polynomial_monomials, o_polynomial_numbers, o_doneRules_count)) : zM l y_Ps_open (Cond.code y_Ps_open b_Ps_open 3 (some .boolean) :: zT) rm_Ps_open D vwCl [(cI, .int), (cL, .long)] [.ref h_this, .int x1] [(h_this, .inr (4, [.ref h_this_values, .ref h_this_polynomial, .ref h_this_doneRules, .ref h_this_ways, .ref h_this_root, .int v_wireCount, .int v_bitsCame, .int v_bitsThere, .int v_inputBits, .int v_rootsBelow, .int v_begunOpen, .int v_empty])), (h_this_values, .inl (cI, 6, .inl v_values)), (h_this_polynomial, .inr (1, [.ref h_this_polynomial_numbers, .int v_polynomial_monomials])), (h_this_polynomial_numbers, .inl (cI, 2325, .inl v_polynomial_numbers)), (h_this_doneRules, .inr (0, [.ref h_this_doneRules_kinds, .ref h_this_doneRules_ys, .ref h_this_doneRules_zs, .int v_doneRules_count]))] [(h_this, .inr (4, [.ref h_this_values, .ref h_this_polynomial, .ref h_this_doneRules, .ref h_this_ways, .ref h_this_root, .int o_wireCount, .int o_bitsCame, .int o_bitsThere, .int o_inputBits, .int o_rootsBelow, .int o_begunOpen, .int o_empty])), (h_this_values, .inl (cI, 6, .inl o_values)), (h_this_polynomial, .inr (1, [.ref h_this_polynomial_numbers, .int o_polynomial_monomials])), (h_this_polynomial_numbers, .inl (cI, 2325, .inl o_polynomial_numbers)), (h_this_doneRules, .inr (0, [.ref h_this_doneRules_kinds, .ref h_this_doneRules_ys, .ref h_this_doneRules_zs, .int o_doneRules_count]))] (some (.int rr)) :=
  zM.intro (by decide) rfl (fun _ h => List.mem_cons_of_mem _ h) (Nat.le_of_ble_eq_true rfl) (fun _ _ _ _ _ _ _ C hr _ => k_Ps_open C hr hf)
def rm_Ps_fits : Room := { frames := 1, cells := 0, slots := 0, locals := 21 }
def f_Ps_fits_j90 (x2 : Int32) (x3 : Int32) (t0 : Int32) (v_wireCount : Int32) (v_bitsCame : Int32) : Int32 :=
  if t0 = 0 then (
    if (f_Ps_isWire x3 v_wireCount) = 0 then (
      (0 : Int32))
    else (
      if x3 = x2 then (
        (0 : Int32))
      else (
        (1 : Int32))))
  else (
    (1 : Int32))
set_option maxRecDepth 100000 in
set_option maxHeartbeats 4000000 in
theorem k_Ps_fits_j90 {p : Program} {l : Launch} {e : Env} {s : State} {m : MethodId} {args : Array Value} {below : List Frame} {meth : Method} {c : Code} {D : va_G} {cI cL : ClassId} {h_this h_this_values h_this_polynomial h_this_doneRules h_this_ways h_this_root : Nat} {v_wireCount v_bitsCame v_bitsThere v_inputBits v_rootsBelow v_begunOpen v_empty rr x2 x3 : Int32} {t0 : Int32} (C : zC p s m args meth c b_Ps_fits 6 R_Ps D vwCl [(cI, .int), (cL, .long)] (zA [h_this] s.heap.size)) (hr : meth.sig.returnType = some .boolean) (hf : f_Ps_fits_j90 x2 x3 t0 v_wireCount v_bitsCame = rr) : ZV p l e rm_Ps_fits s m args below meth c 6 D (some (.int rr)) [(h_this, .inr (4, [.ref h_this_values, .ref h_this_polynomial, .ref h_this_doneRules, .ref h_this_ways, .ref h_this_root, .int v_wireCount, .int v_bitsCame, .int v_bitsThere, .int v_inputBits, .int v_rootsBelow, .int v_begunOpen, .int v_empty]))] [h_this] [(h_this, .inr (4, [.ref h_this_values, .ref h_this_polynomial, .ref h_this_doneRules, .ref h_this_ways, .ref h_this_root, .int v_wireCount, .int v_bitsCame, .int v_bitsThere, .int v_inputBits, .int v_rootsBelow, .int v_begunOpen, .int v_empty]))] 90 [(0, .ref h_this), (2, .int x2), (3, .int x3)] [.int t0] := by
  unfold f_Ps_fits_j90 at hf
  refine z_istore (lv' := [(5, .int t0), (0, .ref h_this), (2, .int x2), (3, .int x3)]) C d_Ps_fits_90 (by decide) rfl ?_
  refine z_iload C d_Ps_fits_92 0 rfl ?_
  refine z_if_ne (tgt := 110) C d_Ps_fits_94 (by decide) (fun c_1 => ?_) (fun c_1 => ?_)
  · have hf := zif_neg c_1 hf
    refine z_iconst (v := 1) C d_Ps_fits_110 (by decide) ?_
    refine z_goto (tgt := 115) C d_Ps_fits_111 (by decide) ?_
    subst hf
    exact z_zret C hr rfl d_Ps_fits_115
  · have hf := zif_pos c_1 hf
    refine z_aload_n C d_Ps_fits_97 rfl 1 rfl ?_
    refine z_iload_n C d_Ps_fits_98 rfl 3 rfl ?_
    refine z_callV (As := [.int x3]) (rest := []) (ws' := [(h_this, .inr (4, [.ref h_this_values, .ref h_this_polynomial, .ref h_this_doneRules, .ref h_this_ways, .ref h_this_root, .int v_wireCount, .int v_bitsCame, .int v_bitsThere, .int v_inputBits, .int v_rootsBelow, .int v_begunOpen, .int v_empty]))]) C (c_Ps_isWire rfl) mi_Ps_isWire zw_220 (by decide) 0 rfl rfl [0] (by decide) rfl rfl rfl rfl rfl (by decide) ⟨Nat.zero_le _, Nat.zero_le _⟩ d_Ps_fits_99 ?_
    refine z_if_eq (tgt := 114) C d_Ps_fits_102 (by decide) (fun c_3 => ?_) (fun c_3 => ?_)
    · have hf := zif_pos c_3 hf
      refine z_iconst (v := 0) C d_Ps_fits_114 (by decide) ?_
      subst hf
      exact z_zret C hr rfl d_Ps_fits_115
    · have hf := zif_neg c_3 hf
      refine z_iload_n C d_Ps_fits_105 rfl 3 rfl ?_
      refine z_iload_n C d_Ps_fits_106 rfl 2 rfl ?_
      refine z_icmp_eq (tgt := 114) C d_Ps_fits_107 (by decide) (fun c_4 => ?_) (fun c_4 => ?_)
      · have hf := zif_pos c_4 hf
        refine z_iconst (v := 0) C d_Ps_fits_114 (by decide) ?_
        subst hf
        exact z_zret C hr rfl d_Ps_fits_115
      · have hf := zif_neg c_4 hf
        refine z_iconst (v := 1) C d_Ps_fits_110 (by decide) ?_
        refine z_goto (tgt := 115) C d_Ps_fits_111 (by decide) ?_
        subst hf
        exact z_zret C hr rfl d_Ps_fits_115
def f_Ps_fits_j89 (x2 : Int32) (x3 : Int32) (v_wireCount : Int32) (v_bitsCame : Int32) : Int32 :=
  f_Ps_fits_j90 x2 x3 (0 : Int32) v_wireCount v_bitsCame
set_option maxRecDepth 100000 in
set_option maxHeartbeats 4000000 in
theorem k_Ps_fits_j89 {p : Program} {l : Launch} {e : Env} {s : State} {m : MethodId} {args : Array Value} {below : List Frame} {meth : Method} {c : Code} {D : va_G} {cI cL : ClassId} {h_this h_this_values h_this_polynomial h_this_doneRules h_this_ways h_this_root : Nat} {v_wireCount v_bitsCame v_bitsThere v_inputBits v_rootsBelow v_begunOpen v_empty rr x2 x3 : Int32}  (C : zC p s m args meth c b_Ps_fits 6 R_Ps D vwCl [(cI, .int), (cL, .long)] (zA [h_this] s.heap.size)) (hr : meth.sig.returnType = some .boolean) (hf : f_Ps_fits_j89 x2 x3 v_wireCount v_bitsCame = rr) : ZV p l e rm_Ps_fits s m args below meth c 6 D (some (.int rr)) [(h_this, .inr (4, [.ref h_this_values, .ref h_this_polynomial, .ref h_this_doneRules, .ref h_this_ways, .ref h_this_root, .int v_wireCount, .int v_bitsCame, .int v_bitsThere, .int v_inputBits, .int v_rootsBelow, .int v_begunOpen, .int v_empty]))] [h_this] [(h_this, .inr (4, [.ref h_this_values, .ref h_this_polynomial, .ref h_this_doneRules, .ref h_this_ways, .ref h_this_root, .int v_wireCount, .int v_bitsCame, .int v_bitsThere, .int v_inputBits, .int v_rootsBelow, .int v_begunOpen, .int v_empty]))] 89 [(0, .ref h_this), (2, .int x2), (3, .int x3)] [] := by
  unfold f_Ps_fits_j89 at hf
  refine z_iconst (v := 0) C d_Ps_fits_89 (by decide) ?_
  exact k_Ps_fits_j90 C hr hf
def f_Ps_fits_j85 (x2 : Int32) (x3 : Int32) (v_wireCount : Int32) (v_bitsCame : Int32) : Int32 :=
  f_Ps_fits_j90 x2 x3 (1 : Int32) v_wireCount v_bitsCame
set_option maxRecDepth 100000 in
set_option maxHeartbeats 4000000 in
theorem k_Ps_fits_j85 {p : Program} {l : Launch} {e : Env} {s : State} {m : MethodId} {args : Array Value} {below : List Frame} {meth : Method} {c : Code} {D : va_G} {cI cL : ClassId} {h_this h_this_values h_this_polynomial h_this_doneRules h_this_ways h_this_root : Nat} {v_wireCount v_bitsCame v_bitsThere v_inputBits v_rootsBelow v_begunOpen v_empty rr x2 x3 : Int32}  (C : zC p s m args meth c b_Ps_fits 6 R_Ps D vwCl [(cI, .int), (cL, .long)] (zA [h_this] s.heap.size)) (hr : meth.sig.returnType = some .boolean) (hf : f_Ps_fits_j85 x2 x3 v_wireCount v_bitsCame = rr) : ZV p l e rm_Ps_fits s m args below meth c 6 D (some (.int rr)) [(h_this, .inr (4, [.ref h_this_values, .ref h_this_polynomial, .ref h_this_doneRules, .ref h_this_ways, .ref h_this_root, .int v_wireCount, .int v_bitsCame, .int v_bitsThere, .int v_inputBits, .int v_rootsBelow, .int v_begunOpen, .int v_empty]))] [h_this] [(h_this, .inr (4, [.ref h_this_values, .ref h_this_polynomial, .ref h_this_doneRules, .ref h_this_ways, .ref h_this_root, .int v_wireCount, .int v_bitsCame, .int v_bitsThere, .int v_inputBits, .int v_rootsBelow, .int v_begunOpen, .int v_empty]))] 85 [(0, .ref h_this), (2, .int x2), (3, .int x3)] [] := by
  unfold f_Ps_fits_j85 at hf
  refine z_iconst (v := 1) C d_Ps_fits_85 (by decide) ?_
  refine z_goto (tgt := 90) C d_Ps_fits_86 (by decide) ?_
  exact k_Ps_fits_j90 C hr hf
def f_Ps_fits_j70 (x1 : Int32) (x2 : Int32) (x3 : Int32) (v_wireCount : Int32) (v_bitsCame : Int32) : Int32 :=
  if x1 = 0 then (
    f_Ps_fits_j85 x2 x3 v_wireCount v_bitsCame)
  else (
    if x1 < (3 : Int32) then (
      f_Ps_fits_j89 x2 x3 v_wireCount v_bitsCame)
    else (
      if (7 : Int32) < x1 then (
        f_Ps_fits_j89 x2 x3 v_wireCount v_bitsCame)
      else (
        f_Ps_fits_j85 x2 x3 v_wireCount v_bitsCame)))
set_option maxRecDepth 100000 in
set_option maxHeartbeats 4000000 in
theorem k_Ps_fits_j70 {p : Program} {l : Launch} {e : Env} {s : State} {m : MethodId} {args : Array Value} {below : List Frame} {meth : Method} {c : Code} {D : va_G} {cI cL : ClassId} {h_this h_this_values h_this_polynomial h_this_doneRules h_this_ways h_this_root : Nat} {v_wireCount v_bitsCame v_bitsThere v_inputBits v_rootsBelow v_begunOpen v_empty rr x1 x2 x3 : Int32}  (C : zC p s m args meth c b_Ps_fits 6 R_Ps D vwCl [(cI, .int), (cL, .long)] (zA [h_this] s.heap.size)) (hr : meth.sig.returnType = some .boolean) (hf : f_Ps_fits_j70 x1 x2 x3 v_wireCount v_bitsCame = rr) : ZV p l e rm_Ps_fits s m args below meth c 6 D (some (.int rr)) [(h_this, .inr (4, [.ref h_this_values, .ref h_this_polynomial, .ref h_this_doneRules, .ref h_this_ways, .ref h_this_root, .int v_wireCount, .int v_bitsCame, .int v_bitsThere, .int v_inputBits, .int v_rootsBelow, .int v_begunOpen, .int v_empty]))] [h_this] [(h_this, .inr (4, [.ref h_this_values, .ref h_this_polynomial, .ref h_this_doneRules, .ref h_this_ways, .ref h_this_root, .int v_wireCount, .int v_bitsCame, .int v_bitsThere, .int v_inputBits, .int v_rootsBelow, .int v_begunOpen, .int v_empty]))] 70 [(0, .ref h_this), (1, .int x1), (2, .int x2), (3, .int x3)] [] := by
  unfold f_Ps_fits_j70 at hf
  refine z_iload_n C d_Ps_fits_70 rfl 1 rfl ?_
  refine z_if_eq (tgt := 85) C d_Ps_fits_71 (by decide) (fun c_1 => ?_) (fun c_1 => ?_)
  · have hf := zif_pos c_1 hf
    refine z_lv [0, 2, 3] rfl ?_
    exact k_Ps_fits_j85 C hr hf
  · have hf := zif_neg c_1 hf
    refine z_iload_n C d_Ps_fits_74 rfl 1 rfl ?_
    refine z_iconst (v := 3) C d_Ps_fits_75 (by decide) ?_
    refine z_icmp_lt (tgt := 89) C d_Ps_fits_76 (by decide) (fun c_2 => ?_) (fun c_2 => ?_)
    · have hf := zif_pos c_2 hf
      refine z_lv [0, 2, 3] rfl ?_
      exact k_Ps_fits_j89 C hr hf
    · have hf := zif_neg c_2 hf
      refine z_iload_n C d_Ps_fits_79 rfl 1 rfl ?_
      refine z_bipush (v := 7) C d_Ps_fits_80 (by decide) ?_
      refine z_icmp_gt (tgt := 89) C d_Ps_fits_82 (by decide) (fun c_3 => ?_) (fun c_3 => ?_)
      · have hf := zif_pos c_3 hf
        refine z_lv [0, 2, 3] rfl ?_
        exact k_Ps_fits_j89 C hr hf
      · have hf := zif_neg c_3 hf
        refine z_lv [0, 2, 3] rfl ?_
        exact k_Ps_fits_j85 C hr hf
/-- PathSums.fits(IIII)Z -/
def f_Ps_fits (x1 : Int32) (x2 : Int32) (x3 : Int32) (x4 : Int32) (v_wireCount : Int32) (v_bitsCame : Int32) : Int32 :=
  if x1 < 0 then (
    (0 : Int32))
  else (
    if (12 : Int32) < x1 then (
      (0 : Int32))
    else (
      if (f_Ps_isWire x2 v_wireCount) = 0 then (
        (0 : Int32))
      else (
        if x1 < (10 : Int32) then (
          if x1 = (9 : Int32) then (
            if (f_Ps_isWire x4 v_wireCount) = 0 then (
              (0 : Int32))
            else (
              if x4 = x2 then (
                (0 : Int32))
              else (
                if x4 = x3 then (
                  (0 : Int32))
                else (
                  f_Ps_fits_j70 x1 x2 x3 v_wireCount v_bitsCame))))
          else (
            f_Ps_fits_j70 x1 x2 x3 v_wireCount v_bitsCame))
        else (
          if (24 : Int32) ≤ v_bitsCame then (
            (0 : Int32))
          else (
            (1 : Int32))))))
set_option maxRecDepth 100000 in
set_option maxHeartbeats 4000000 in
theorem k_Ps_fits {p : Program} {l : Launch} {e : Env} {s : State} {m : MethodId} {args : Array Value} {below : List Frame} {meth : Method} {c : Code} {D : va_G} {cI cL : ClassId} {h_this h_this_values h_this_polynomial h_this_doneRules h_this_ways h_this_root : Nat} {v_wireCount v_bitsCame v_bitsThere v_inputBits v_rootsBelow v_begunOpen v_empty rr x1 x2 x3 x4 : Int32} (C : zC p s m args meth c b_Ps_fits 6 R_Ps D vwCl [(cI, .int), (cL, .long)] (zA [h_this] s.heap.size)) (hr : meth.sig.returnType = some .boolean) (hf : f_Ps_fits x1 x2 x3 x4 v_wireCount v_bitsCame = rr) : ZV p l e rm_Ps_fits s m args below meth c 6 D (some (.int rr)) [(h_this, .inr (4, [.ref h_this_values, .ref h_this_polynomial, .ref h_this_doneRules, .ref h_this_ways, .ref h_this_root, .int v_wireCount, .int v_bitsCame, .int v_bitsThere, .int v_inputBits, .int v_rootsBelow, .int v_begunOpen, .int v_empty]))] [h_this] [(h_this, .inr (4, [.ref h_this_values, .ref h_this_polynomial, .ref h_this_doneRules, .ref h_this_ways, .ref h_this_root, .int v_wireCount, .int v_bitsCame, .int v_bitsThere, .int v_inputBits, .int v_rootsBelow, .int v_begunOpen, .int v_empty]))] 0 [(0, .ref h_this), (1, .int x1), (2, .int x2), (3, .int x3), (4, .int x4)] [] := by
  unfold f_Ps_fits at hf
  refine z_iload_n C d_Ps_fits_0 rfl 1 rfl ?_
  refine z_if_lt (tgt := 18) C d_Ps_fits_1 (by decide) (fun c_1 => ?_) (fun c_1 => ?_)
  · have hf := zif_pos c_1 hf
    refine z_iconst (v := 0) C d_Ps_fits_18 (by decide) ?_
    subst hf
    exact z_zret C hr rfl d_Ps_fits_19
  · have hf := zif_neg c_1 hf
    refine z_iload_n C d_Ps_fits_4 rfl 1 rfl ?_
    refine z_bipush (v := 12) C d_Ps_fits_5 (by decide) ?_
    refine z_icmp_gt (tgt := 18) C d_Ps_fits_7 (by decide) (fun c_2 => ?_) (fun c_2 => ?_)
    · have hf := zif_pos c_2 hf
      refine z_iconst (v := 0) C d_Ps_fits_18 (by decide) ?_
      subst hf
      exact z_zret C hr rfl d_Ps_fits_19
    · have hf := zif_neg c_2 hf
      refine z_aload_n C d_Ps_fits_10 rfl 0 rfl ?_
      refine z_iload_n C d_Ps_fits_11 rfl 2 rfl ?_
      refine z_callV (As := [.int x2]) (rest := []) (ws' := [(h_this, .inr (4, [.ref h_this_values, .ref h_this_polynomial, .ref h_this_doneRules, .ref h_this_ways, .ref h_this_root, .int v_wireCount, .int v_bitsCame, .int v_bitsThere, .int v_inputBits, .int v_rootsBelow, .int v_begunOpen, .int v_empty]))]) C (c_Ps_isWire rfl) mi_Ps_isWire zw_220 (by decide) 0 rfl rfl [0] (by decide) rfl rfl rfl rfl rfl (by decide) ⟨Nat.zero_le _, Nat.zero_le _⟩ d_Ps_fits_12 ?_
      refine z_if_ne (tgt := 20) C d_Ps_fits_15 (by decide) (fun c_4 => ?_) (fun c_4 => ?_)
      · have hf := zif_neg c_4 hf
        refine z_iload_n C d_Ps_fits_20 rfl 1 rfl ?_
        refine z_bipush (v := 10) C d_Ps_fits_21 (by decide) ?_
        refine z_icmp_lt (tgt := 41) C d_Ps_fits_23 (by decide) (fun c_5 => ?_) (fun c_5 => ?_)
        · have hf := zif_pos c_5 hf
          refine z_iload_n C d_Ps_fits_41 rfl 1 rfl ?_
          refine z_bipush (v := 9) C d_Ps_fits_42 (by decide) ?_
          refine z_icmp_ne (tgt := 70) C d_Ps_fits_44 (by decide) (fun c_6 => ?_) (fun c_6 => ?_)
          · have hf := zif_neg c_6 hf
            refine z_lv [0, 1, 2, 3] rfl ?_
            exact k_Ps_fits_j70 C hr hf
          · have hf := zif_pos c_6 hf
            refine z_aload_n C d_Ps_fits_47 rfl 0 rfl ?_
            refine z_iload C d_Ps_fits_48 4 rfl ?_
            refine z_callV (As := [.int x4]) (rest := []) (ws' := [(h_this, .inr (4, [.ref h_this_values, .ref h_this_polynomial, .ref h_this_doneRules, .ref h_this_ways, .ref h_this_root, .int v_wireCount, .int v_bitsCame, .int v_bitsThere, .int v_inputBits, .int v_rootsBelow, .int v_begunOpen, .int v_empty]))]) C (c_Ps_isWire rfl) mi_Ps_isWire zw_220 (by decide) 0 rfl rfl [0] (by decide) rfl rfl rfl rfl rfl (by decide) ⟨Nat.zero_le _, Nat.zero_le _⟩ d_Ps_fits_50 ?_
            refine z_if_eq (tgt := 68) C d_Ps_fits_53 (by decide) (fun c_8 => ?_) (fun c_8 => ?_)
            · have hf := zif_pos c_8 hf
              refine z_iconst (v := 0) C d_Ps_fits_68 (by decide) ?_
              subst hf
              exact z_zret C hr rfl d_Ps_fits_69
            · have hf := zif_neg c_8 hf
              refine z_iload C d_Ps_fits_56 4 rfl ?_
              refine z_iload_n C d_Ps_fits_58 rfl 2 rfl ?_
              refine z_icmp_eq (tgt := 68) C d_Ps_fits_59 (by decide) (fun c_9 => ?_) (fun c_9 => ?_)
              · have hf := zif_pos c_9 hf
                refine z_iconst (v := 0) C d_Ps_fits_68 (by decide) ?_
                subst hf
                exact z_zret C hr rfl d_Ps_fits_69
              · have hf := zif_neg c_9 hf
                refine z_iload C d_Ps_fits_62 4 rfl ?_
                refine z_iload_n C d_Ps_fits_64 rfl 3 rfl ?_
                refine z_icmp_ne (tgt := 70) C d_Ps_fits_65 (by decide) (fun c_10 => ?_) (fun c_10 => ?_)
                · have hf := zif_neg c_10 hf
                  refine z_lv [0, 1, 2, 3] rfl ?_
                  exact k_Ps_fits_j70 C hr hf
                · have hf := zif_pos c_10 hf
                  refine z_iconst (v := 0) C d_Ps_fits_68 (by decide) ?_
                  subst hf
                  exact z_zret C hr rfl d_Ps_fits_69
        · have hf := zif_neg c_5 hf
          refine z_aload_n C d_Ps_fits_26 rfl 0 rfl ?_
          refine z_get C iw_Ps 0 rfl rfl 6 (by decide) zw_166 rfl d_Ps_fits_27 ?_
          refine z_bipush (v := 24) C d_Ps_fits_30 (by decide) ?_
          refine z_icmp_ge (tgt := 39) C d_Ps_fits_32 (by decide) (fun c_11 => ?_) (fun c_11 => ?_)
          · have hf := zif_pos c_11 hf
            refine z_iconst (v := 0) C d_Ps_fits_39 (by decide) ?_
            subst hf
            exact z_zret C hr rfl d_Ps_fits_40
          · have hf := zif_neg c_11 hf
            refine z_iconst (v := 1) C d_Ps_fits_35 (by decide) ?_
            refine z_goto (tgt := 40) C d_Ps_fits_36 (by decide) ?_
            subst hf
            exact z_zret C hr rfl d_Ps_fits_40
      · have hf := zif_pos c_4 hf
        refine z_iconst (v := 0) C d_Ps_fits_18 (by decide) ?_
        subst hf
        exact z_zret C hr rfl d_Ps_fits_19
theorem c_Ps_fits {l : Launch} {D : va_G} {cI cL : ClassId} {h_this h_this_values h_this_polynomial h_this_doneRules h_this_ways h_this_root : Nat} {v_wireCount v_bitsCame v_bitsThere v_inputBits v_rootsBelow v_begunOpen v_empty rr x1 x2 x3 x4 : Int32} (hf : f_Ps_fits x1 x2 x3 x4 v_wireCount v_bitsCame = rr) : zM l y_Ps_fits (Cond.code y_Ps_fits b_Ps_fits 6 (some .boolean) :: zT) rm_Ps_fits D vwCl [(cI, .int), (cL, .long)] [.ref h_this, .int x1, .int x2, .int x3, .int x4] [(h_this, .inr (4, [.ref h_this_values, .ref h_this_polynomial, .ref h_this_doneRules, .ref h_this_ways, .ref h_this_root, .int v_wireCount, .int v_bitsCame, .int v_bitsThere, .int v_inputBits, .int v_rootsBelow, .int v_begunOpen, .int v_empty]))] [(h_this, .inr (4, [.ref h_this_values, .ref h_this_polynomial, .ref h_this_doneRules, .ref h_this_ways, .ref h_this_root, .int v_wireCount, .int v_bitsCame, .int v_bitsThere, .int v_inputBits, .int v_rootsBelow, .int v_begunOpen, .int v_empty]))] (some (.int rr)) :=
  zM.intro (by decide) rfl (fun _ h => List.mem_cons_of_mem _ h) (Nat.le_of_ble_eq_true rfl) (fun _ _ _ _ _ _ _ C hr _ => k_Ps_fits C hr hf)
def rm_Ps_bringBit : Room := { frames := 4, cells := 0, slots := 0, locals := 98 }
def f_Ps_bringBit_j58 (x1 : Int32) (x2 : Int32) (x3 : Int32) (v_bitsCame : Int32) (v_bitsThere : Int32) (v_rootsBelow : Int32) (v_values : Nat → Int32) (v_polynomial_monomials : Int32) (v_polynomial_numbers : Nat → Int32) : Option (Int32 × Int32 × Int32 × (Nat → Int32) × Int32 × (Nat → Int32)) :=
  if x1 = (10 : Int32) then (
    if x2 < 0 ∨ 6 ≤ x2.toNatClampNeg then none else
    zlet (upd v_values x2.toNatClampNeg x3) fun u_3 =>
    zlet (v_rootsBelow + (1 : Int32)) fun y_4 =>
    some (v_bitsCame, v_bitsThere, y_4, u_3, v_polynomial_monomials, v_polynomial_numbers))
  else (
    zlet (v_rootsBelow + (2 : Int32)) fun y_5 =>
    some (v_bitsCame, v_bitsThere, y_5, v_values, v_polynomial_monomials, v_polynomial_numbers))
set_option maxRecDepth 100000 in
set_option maxHeartbeats 4000000 in
theorem k_Ps_bringBit_j58 {p : Program} {l : Launch} {e : Env} {s : State} {m : MethodId} {args : Array Value} {below : List Frame} {meth : Method} {c : Code} {D : va_G} {cI cL : ClassId} {h_this h_this_values h_this_polynomial h_this_doneRules h_this_ways h_this_root h_this_polynomial_numbers : Nat} {v_wireCount v_bitsCame v_bitsThere v_inputBits v_rootsBelow v_begunOpen v_empty v_polynomial_monomials o_bitsCame o_bitsThere o_rootsBelow o_polynomial_monomials x1 x2 x3 : Int32} {v_values v_polynomial_numbers o_values o_polynomial_numbers : Nat → Int32}  (C : zC p s m args meth c b_Ps_bringBit 4 R_Ps D vwCl [(cI, .int), (cL, .long)] (zA [h_this, h_this_values, h_this_polynomial, h_this_polynomial_numbers] s.heap.size)) (hr : meth.sig.returnType = none) (hf : f_Ps_bringBit_j58 x1 x2 x3 v_bitsCame v_bitsThere v_rootsBelow v_values v_polynomial_monomials v_polynomial_numbers = some (o_bitsCame, o_bitsThere, o_rootsBelow, o_values, o_polynomial_monomials, o_polynomial_numbers)) : ZV p l e rm_Ps_bringBit s m args below meth c 4 D (none) [(h_this, .inr (4, [.ref h_this_values, .ref h_this_polynomial, .ref h_this_doneRules, .ref h_this_ways, .ref h_this_root, .int v_wireCount, .int o_bitsCame, .int o_bitsThere, .int v_inputBits, .int o_rootsBelow, .int v_begunOpen, .int v_empty])), (h_this_values, .inl (cI, 6, .inl o_values)), (h_this_polynomial, .inr (1, [.ref h_this_polynomial_numbers, .int o_polynomial_monomials])), (h_this_polynomial_numbers, .inl (cI, 2325, .inl o_polynomial_numbers))] [h_this, h_this_values, h_this_polynomial, h_this_polynomial_numbers] [(h_this, .inr (4, [.ref h_this_values, .ref h_this_polynomial, .ref h_this_doneRules, .ref h_this_ways, .ref h_this_root, .int v_wireCount, .int v_bitsCame, .int v_bitsThere, .int v_inputBits, .int v_rootsBelow, .int v_begunOpen, .int v_empty])), (h_this_values, .inl (cI, 6, .inl v_values)), (h_this_polynomial, .inr (1, [.ref h_this_polynomial_numbers, .int v_polynomial_monomials])), (h_this_polynomial_numbers, .inl (cI, 2325, .inl v_polynomial_numbers))] 58 [(0, .ref h_this), (1, .int x1), (2, .int x2), (3, .int x3)] [] := by
  unfold f_Ps_bringBit_j58 at hf
  refine z_iload_n C d_Ps_bringBit_58 rfl 1 rfl ?_
  refine z_bipush (v := 10) C d_Ps_bringBit_59 (by decide) ?_
  refine z_icmp_ne (tgt := 84) C d_Ps_bringBit_61 (by decide) (fun c_1 => ?_) (fun c_1 => ?_)
  · have hf := zif_neg c_1 hf
    refine z_aload_n C d_Ps_bringBit_84 rfl 0 rfl ?_
    refine z_dup C d_Ps_bringBit_85 rfl ?_
    refine z_get C iw_Ps 0 rfl rfl 9 (by decide) zw_169 rfl d_Ps_bringBit_86 ?_
    refine z_iconst (v := 2) C d_Ps_bringBit_89 (by decide) ?_
    refine z_iadd C d_Ps_bringBit_90 ?_
    refine z_topi (fun y_5 ey_5 => ?_)
    have hf := zlet_at ey_5 hf
    refine z_put (ws' := [(h_this, .inr (4, [.ref h_this_values, .ref h_this_polynomial, .ref h_this_doneRules, .ref h_this_ways, .ref h_this_root, .int v_wireCount, .int v_bitsCame, .int v_bitsThere, .int v_inputBits, .int y_5, .int v_begunOpen, .int v_empty])), (h_this_values, .inl (cI, 6, .inl v_values)), (h_this_polynomial, .inr (1, [.ref h_this_polynomial_numbers, .int v_polynomial_monomials])), (h_this_polynomial_numbers, .inl (cI, 2325, .inl v_polynomial_numbers))]) C iw_Ps t_Ps t_Ps_ok n_Ps 0 rfl rfl 9 (by decide) zw_169 rfl (ty := .int) rfl rfl rfl (by simp) d_Ps_bringBit_91 rfl ?_
    cases hf
    exact z_vret C hr d_Ps_bringBit_94
  · have hf := zif_pos c_1 hf
    refine z_aload_n C d_Ps_bringBit_64 rfl 0 rfl ?_
    refine z_get C iw_Ps 0 rfl rfl 0 (by decide) zw_160 rfl d_Ps_bringBit_65 ?_
    refine z_iload_n C d_Ps_bringBit_68 rfl 2 rfl ?_
    refine z_iload_n C d_Ps_bringBit_69 rfl 3 rfl ?_
    obtain ⟨g_2, hf⟩ := zguard hf
    obtain ⟨u_3, eu_3⟩ : ∃ u : Nat → Int32, u = upd v_values x2.toNatClampNeg x3 := ⟨_, rfl⟩
    have hf := zlet_at eu_3 hf
    refine z_iast (ws' := [(h_this, .inr (4, [.ref h_this_values, .ref h_this_polynomial, .ref h_this_doneRules, .ref h_this_ways, .ref h_this_root, .int v_wireCount, .int v_bitsCame, .int v_bitsThere, .int v_inputBits, .int v_rootsBelow, .int v_begunOpen, .int v_empty])), (h_this_values, .inl (cI, 6, .inl u_3)), (h_this_polynomial, .inr (1, [.ref h_this_polynomial_numbers, .int v_polynomial_monomials])), (h_this_polynomial_numbers, .inl (cI, 2325, .inl v_polynomial_numbers))]) C 1 0 rfl rfl g_2 d_Ps_bringBit_70 (by rw [eu_3]; rfl) ?_
    refine z_aload_n C d_Ps_bringBit_71 rfl 0 rfl ?_
    refine z_dup C d_Ps_bringBit_72 rfl ?_
    refine z_get C iw_Ps 0 rfl rfl 9 (by decide) zw_169 rfl d_Ps_bringBit_73 ?_
    refine z_iconst (v := 1) C d_Ps_bringBit_76 (by decide) ?_
    refine z_iadd C d_Ps_bringBit_77 ?_
    refine z_topi (fun y_4 ey_4 => ?_)
    have hf := zlet_at ey_4 hf
    refine z_put (ws' := [(h_this, .inr (4, [.ref h_this_values, .ref h_this_polynomial, .ref h_this_doneRules, .ref h_this_ways, .ref h_this_root, .int v_wireCount, .int v_bitsCame, .int v_bitsThere, .int v_inputBits, .int y_4, .int v_begunOpen, .int v_empty])), (h_this_values, .inl (cI, 6, .inl u_3)), (h_this_polynomial, .inr (1, [.ref h_this_polynomial_numbers, .int v_polynomial_monomials])), (h_this_polynomial_numbers, .inl (cI, 2325, .inl v_polynomial_numbers))]) C iw_Ps t_Ps t_Ps_ok n_Ps 0 rfl rfl 9 (by decide) zw_169 rfl (ty := .int) rfl rfl rfl (by simp) d_Ps_bringBit_78 rfl ?_
    refine z_goto (tgt := 94) C d_Ps_bringBit_81 (by decide) ?_
    cases hf
    exact z_vret C hr d_Ps_bringBit_94
/-- PathSums.bringBit(II)V -/
def f_Ps_bringBit (x1 : Int32) (x2 : Int32) (v_bitsCame : Int32) (v_bitsThere : Int32) (v_rootsBelow : Int32) (v_values : Nat → Int32) (v_polynomial_monomials : Int32) (v_polynomial_numbers : Nat → Int32) : Option (Int32 × Int32 × Int32 × (Nat → Int32) × Int32 × (Nat → Int32)) :=
  zlet ((1 : Int32) <<< (v_bitsCame &&& 31)) fun y_1 =>
  zlet (v_bitsCame + (1 : Int32)) fun y_2 =>
  zlet (v_bitsThere ||| y_1) fun y_3 =>
  if x2 < 0 ∨ 6 ≤ x2.toNatClampNeg then none else
  zb2 (f_Po_addFourTimes y_1 (v_values x2.toNatClampNeg) (16777216 : Int32) v_polynomial_monomials v_polynomial_numbers) fun q_6 q_7 =>
  if x1 = (12 : Int32) then (
    zb2 (f_Po_add y_1 (4 : Int32) q_6 q_7) fun q_10 q_11 =>
    f_Ps_bringBit_j58 x1 x2 y_1 y_2 y_3 v_rootsBelow v_values q_10 q_11)
  else (
    f_Ps_bringBit_j58 x1 x2 y_1 y_2 y_3 v_rootsBelow v_values q_6 q_7)
set_option maxRecDepth 100000 in
set_option maxHeartbeats 4000000 in
theorem k_Ps_bringBit {p : Program} {l : Launch} {e : Env} {s : State} {m : MethodId} {args : Array Value} {below : List Frame} {meth : Method} {c : Code} {D : va_G} {cI cL : ClassId} {h_this h_this_values h_this_polynomial h_this_doneRules h_this_ways h_this_root h_this_polynomial_numbers : Nat} {v_wireCount v_bitsCame v_bitsThere v_inputBits v_rootsBelow v_begunOpen v_empty v_polynomial_monomials o_bitsCame o_bitsThere o_rootsBelow o_polynomial_monomials x1 x2 : Int32} {v_values v_polynomial_numbers o_values o_polynomial_numbers : Nat → Int32} (C : zC p s m args meth c b_Ps_bringBit 4 R_Ps D vwCl [(cI, .int), (cL, .long)] (zA [h_this, h_this_values, h_this_polynomial, h_this_polynomial_numbers] s.heap.size)) (hr : meth.sig.returnType = none) (hf : f_Ps_bringBit x1 x2 v_bitsCame v_bitsThere v_rootsBelow v_values v_polynomial_monomials v_polynomial_numbers = some (o_bitsCame, o_bitsThere, o_rootsBelow, o_values, o_polynomial_monomials, o_polynomial_numbers)) : ZV p l e rm_Ps_bringBit s m args below meth c 4 D (none) [(h_this, .inr (4, [.ref h_this_values, .ref h_this_polynomial, .ref h_this_doneRules, .ref h_this_ways, .ref h_this_root, .int v_wireCount, .int o_bitsCame, .int o_bitsThere, .int v_inputBits, .int o_rootsBelow, .int v_begunOpen, .int v_empty])), (h_this_values, .inl (cI, 6, .inl o_values)), (h_this_polynomial, .inr (1, [.ref h_this_polynomial_numbers, .int o_polynomial_monomials])), (h_this_polynomial_numbers, .inl (cI, 2325, .inl o_polynomial_numbers))] [h_this, h_this_values, h_this_polynomial, h_this_polynomial_numbers] [(h_this, .inr (4, [.ref h_this_values, .ref h_this_polynomial, .ref h_this_doneRules, .ref h_this_ways, .ref h_this_root, .int v_wireCount, .int v_bitsCame, .int v_bitsThere, .int v_inputBits, .int v_rootsBelow, .int v_begunOpen, .int v_empty])), (h_this_values, .inl (cI, 6, .inl v_values)), (h_this_polynomial, .inr (1, [.ref h_this_polynomial_numbers, .int v_polynomial_monomials])), (h_this_polynomial_numbers, .inl (cI, 2325, .inl v_polynomial_numbers))] 0 [(0, .ref h_this), (1, .int x1), (2, .int x2)] [] := by
  unfold f_Ps_bringBit at hf
  refine z_iconst (v := 1) C d_Ps_bringBit_0 (by decide) ?_
  refine z_aload_n C d_Ps_bringBit_1 rfl 0 rfl ?_
  refine z_get C iw_Ps 0 rfl rfl 6 (by decide) zw_166 rfl d_Ps_bringBit_2 ?_
  refine z_ishl C d_Ps_bringBit_5 ?_
  refine z_topi (fun y_1 ey_1 => ?_)
  have hf := zlet_at ey_1 hf
  refine z_istore_n (lv' := [(3, .int y_1), (0, .ref h_this), (1, .int x1), (2, .int x2)]) C d_Ps_bringBit_6 rfl (by decide) rfl ?_
  refine z_aload_n C d_Ps_bringBit_7 rfl 1 rfl ?_
  refine z_dup C d_Ps_bringBit_8 rfl ?_
  refine z_get C iw_Ps 0 rfl rfl 6 (by decide) zw_166 rfl d_Ps_bringBit_9 ?_
  refine z_iconst (v := 1) C d_Ps_bringBit_12 (by decide) ?_
  refine z_iadd C d_Ps_bringBit_13 ?_
  refine z_topi (fun y_2 ey_2 => ?_)
  have hf := zlet_at ey_2 hf
  refine z_put (ws' := [(h_this, .inr (4, [.ref h_this_values, .ref h_this_polynomial, .ref h_this_doneRules, .ref h_this_ways, .ref h_this_root, .int v_wireCount, .int y_2, .int v_bitsThere, .int v_inputBits, .int v_rootsBelow, .int v_begunOpen, .int v_empty])), (h_this_values, .inl (cI, 6, .inl v_values)), (h_this_polynomial, .inr (1, [.ref h_this_polynomial_numbers, .int v_polynomial_monomials])), (h_this_polynomial_numbers, .inl (cI, 2325, .inl v_polynomial_numbers))]) C iw_Ps t_Ps t_Ps_ok n_Ps 0 rfl rfl 6 (by decide) zw_166 rfl (ty := .int) rfl rfl rfl (by simp) d_Ps_bringBit_14 rfl ?_
  refine z_aload_n C d_Ps_bringBit_17 rfl 1 rfl ?_
  refine z_dup C d_Ps_bringBit_18 rfl ?_
  refine z_get C iw_Ps 0 rfl rfl 7 (by decide) zw_167 rfl d_Ps_bringBit_19 ?_
  refine z_iload_n C d_Ps_bringBit_22 rfl 0 rfl ?_
  refine z_ior C d_Ps_bringBit_23 ?_
  refine z_topi (fun y_3 ey_3 => ?_)
  have hf := zlet_at ey_3 hf
  refine z_put (ws' := [(h_this, .inr (4, [.ref h_this_values, .ref h_this_polynomial, .ref h_this_doneRules, .ref h_this_ways, .ref h_this_root, .int v_wireCount, .int y_2, .int y_3, .int v_inputBits, .int v_rootsBelow, .int v_begunOpen, .int v_empty])), (h_this_values, .inl (cI, 6, .inl v_values)), (h_this_polynomial, .inr (1, [.ref h_this_polynomial_numbers, .int v_polynomial_monomials])), (h_this_polynomial_numbers, .inl (cI, 2325, .inl v_polynomial_numbers))]) C iw_Ps t_Ps t_Ps_ok n_Ps 0 rfl rfl 7 (by decide) zw_167 rfl (ty := .int) rfl rfl rfl (by simp) d_Ps_bringBit_24 rfl ?_
  refine z_aload_n C d_Ps_bringBit_27 rfl 1 rfl ?_
  refine z_get C iw_Ps 0 rfl rfl 1 (by decide) zw_161 rfl d_Ps_bringBit_28 ?_
  refine z_iload_n C d_Ps_bringBit_31 rfl 0 rfl ?_
  refine z_aload_n C d_Ps_bringBit_32 rfl 1 rfl ?_
  refine z_get C iw_Ps 0 rfl rfl 0 (by decide) zw_160 rfl d_Ps_bringBit_33 ?_
  refine z_iload_n C d_Ps_bringBit_36 rfl 3 rfl ?_
  obtain ⟨g_4, hf⟩ := zguard hf
  refine z_iald C 1 0 rfl rfl g_4 d_Ps_bringBit_37 ?_
  refine z_ldc (v := 16777216) C zw_207 d_Ps_bringBit_38 ?_
  obtain ⟨q_6, q_7, h_5, hf⟩ := zb2_elim hf
  refine z_callV (As := [.int y_1, .int (v_values x2.toNatClampNeg), .int (16777216 : Int32)]) (rest := []) (ws' := [(h_this, .inr (4, [.ref h_this_values, .ref h_this_polynomial, .ref h_this_doneRules, .ref h_this_ways, .ref h_this_root, .int v_wireCount, .int y_2, .int y_3, .int v_inputBits, .int v_rootsBelow, .int v_begunOpen, .int v_empty])), (h_this_values, .inl (cI, 6, .inl v_values)), (h_this_polynomial, .inr (1, [.ref h_this_polynomial_numbers, .int q_6])), (h_this_polynomial_numbers, .inl (cI, 2325, .inl q_7))]) C (c_Po_addFourTimes h_5) mi_Po_addFourTimes zw_253 (by decide) 0 rfl rfl [2, 3] (by decide) rfl rfl rfl rfl rfl (by decide) ⟨Nat.zero_le _, Nat.zero_le _⟩ d_Ps_bringBit_40 ?_
  refine z_iload_n C d_Ps_bringBit_43 rfl 2 rfl ?_
  refine z_bipush (v := 12) C d_Ps_bringBit_44 (by decide) ?_
  refine z_icmp_ne (tgt := 58) C d_Ps_bringBit_46 (by decide) (fun c_8 => ?_) (fun c_8 => ?_)
  · have hf := zif_neg c_8 hf
    refine z_lv [1, 2, 3, 0] rfl ?_
    exact k_Ps_bringBit_j58 C hr hf
  · have hf := zif_pos c_8 hf
    refine z_aload_n C d_Ps_bringBit_49 rfl 1 rfl ?_
    refine z_get C iw_Ps 0 rfl rfl 1 (by decide) zw_161 rfl d_Ps_bringBit_50 ?_
    refine z_iload_n C d_Ps_bringBit_53 rfl 0 rfl ?_
    refine z_iconst (v := 4) C d_Ps_bringBit_54 (by decide) ?_
    obtain ⟨q_10, q_11, h_9, hf⟩ := zb2_elim hf
    refine z_callV (As := [.int y_1, .int (4 : Int32)]) (rest := []) (ws' := [(h_this, .inr (4, [.ref h_this_values, .ref h_this_polynomial, .ref h_this_doneRules, .ref h_this_ways, .ref h_this_root, .int v_wireCount, .int y_2, .int y_3, .int v_inputBits, .int v_rootsBelow, .int v_begunOpen, .int v_empty])), (h_this_values, .inl (cI, 6, .inl v_values)), (h_this_polynomial, .inr (1, [.ref h_this_polynomial_numbers, .int q_10])), (h_this_polynomial_numbers, .inl (cI, 2325, .inl q_11))]) C (c_Po_add h_9) mi_Po_add zw_261 (by decide) 0 rfl rfl [2, 3] (by decide) rfl rfl rfl rfl rfl (by decide) ⟨Nat.zero_le _, Nat.zero_le _⟩ d_Ps_bringBit_55 ?_
    refine z_lv [1, 2, 3, 0] rfl ?_
    exact k_Ps_bringBit_j58 C hr hf
theorem c_Ps_bringBit {l : Launch} {D : va_G} {cI cL : ClassId} {h_this h_this_values h_this_polynomial h_this_doneRules h_this_ways h_this_root h_this_polynomial_numbers : Nat} {v_wireCount v_bitsCame v_bitsThere v_inputBits v_rootsBelow v_begunOpen v_empty v_polynomial_monomials o_bitsCame o_bitsThere o_rootsBelow o_polynomial_monomials x1 x2 : Int32} {v_values v_polynomial_numbers o_values o_polynomial_numbers : Nat → Int32} (hf : f_Ps_bringBit x1 x2 v_bitsCame v_bitsThere v_rootsBelow v_values v_polynomial_monomials v_polynomial_numbers = some (o_bitsCame, o_bitsThere, o_rootsBelow, o_values, o_polynomial_monomials, o_polynomial_numbers)) : zM l y_Ps_bringBit (Cond.code y_Ps_bringBit b_Ps_bringBit 4 none :: zT) rm_Ps_bringBit D vwCl [(cI, .int), (cL, .long)] [.ref h_this, .int x1, .int x2] [(h_this, .inr (4, [.ref h_this_values, .ref h_this_polynomial, .ref h_this_doneRules, .ref h_this_ways, .ref h_this_root, .int v_wireCount, .int v_bitsCame, .int v_bitsThere, .int v_inputBits, .int v_rootsBelow, .int v_begunOpen, .int v_empty])), (h_this_values, .inl (cI, 6, .inl v_values)), (h_this_polynomial, .inr (1, [.ref h_this_polynomial_numbers, .int v_polynomial_monomials])), (h_this_polynomial_numbers, .inl (cI, 2325, .inl v_polynomial_numbers))] [(h_this, .inr (4, [.ref h_this_values, .ref h_this_polynomial, .ref h_this_doneRules, .ref h_this_ways, .ref h_this_root, .int v_wireCount, .int o_bitsCame, .int o_bitsThere, .int v_inputBits, .int o_rootsBelow, .int v_begunOpen, .int v_empty])), (h_this_values, .inl (cI, 6, .inl o_values)), (h_this_polynomial, .inr (1, [.ref h_this_polynomial_numbers, .int o_polynomial_monomials])), (h_this_polynomial_numbers, .inl (cI, 2325, .inl o_polynomial_numbers))] (none) :=
  zM.intro (by decide) rfl (fun _ h => List.mem_cons_of_mem _ h) (Nat.le_of_ble_eq_true rfl) (fun _ _ _ _ _ _ _ C hr _ => k_Ps_bringBit C hr hf)
def rm_Ps_ruleFor : Room := { frames := 4, cells := 0, slots := 0, locals := 95 }
/-- PathSums.ruleFor(I)I -/
def f_Ps_ruleFor (x1 : Int32) (v_inputBits : Int32) (v_polynomial_numbers : Nat → Int32) : Option (Int32) :=
  zb1 (f_Po_numberOf ((1 : Int32) <<< (x1 &&& 31)) v_polynomial_numbers) fun r_2 =>
  if (f_Ps_has r_2 (0 : Int32)) = 0 then (
    zb1 (f_Po_partnersOf x1 v_polynomial_numbers) fun r_6 =>
    if r_6 = (-1 : Int32) then (
      some (-1 : Int32))
    else (
      if (f_Ps_has r_2 (1 : Int32)) = 0 then (
        if r_6 = 0 then (
          if r_2 = 0 then (
            some (1 : Int32))
          else (
            some (2 : Int32)))
        else (
          if (r_6 &&& (v_inputBits ^^^ (-1 : Int32))) = 0 then (
            some (-1 : Int32))
          else (
            some (3 : Int32))))
      else (
        some (4 : Int32))))
  else (
    some (-1 : Int32))
set_option maxRecDepth 100000 in
set_option maxHeartbeats 4000000 in
theorem k_Ps_ruleFor {p : Program} {l : Launch} {e : Env} {s : State} {m : MethodId} {args : Array Value} {below : List Frame} {meth : Method} {c : Code} {D : va_G} {cI cL : ClassId} {h_this h_this_values h_this_polynomial h_this_doneRules h_this_ways h_this_root h_this_polynomial_numbers : Nat} {v_wireCount v_bitsCame v_bitsThere v_inputBits v_rootsBelow v_begunOpen v_empty v_polynomial_monomials rr x1 : Int32} {v_polynomial_numbers : Nat → Int32} (C : zC p s m args meth c b_Ps_ruleFor 4 R_Ps D vwCl [(cI, .int), (cL, .long)] (zA [h_this, h_this_polynomial, h_this_polynomial_numbers] s.heap.size)) (hr : meth.sig.returnType = some .int) (hf : f_Ps_ruleFor x1 v_inputBits v_polynomial_numbers = some rr) : ZV p l e rm_Ps_ruleFor s m args below meth c 4 D (some (.int rr)) [(h_this, .inr (4, [.ref h_this_values, .ref h_this_polynomial, .ref h_this_doneRules, .ref h_this_ways, .ref h_this_root, .int v_wireCount, .int v_bitsCame, .int v_bitsThere, .int v_inputBits, .int v_rootsBelow, .int v_begunOpen, .int v_empty])), (h_this_polynomial, .inr (1, [.ref h_this_polynomial_numbers, .int v_polynomial_monomials])), (h_this_polynomial_numbers, .inl (cI, 2325, .inl v_polynomial_numbers))] [h_this, h_this_polynomial, h_this_polynomial_numbers] [(h_this, .inr (4, [.ref h_this_values, .ref h_this_polynomial, .ref h_this_doneRules, .ref h_this_ways, .ref h_this_root, .int v_wireCount, .int v_bitsCame, .int v_bitsThere, .int v_inputBits, .int v_rootsBelow, .int v_begunOpen, .int v_empty])), (h_this_polynomial, .inr (1, [.ref h_this_polynomial_numbers, .int v_polynomial_monomials])), (h_this_polynomial_numbers, .inl (cI, 2325, .inl v_polynomial_numbers))] 0 [(0, .ref h_this), (1, .int x1)] [] := by
  unfold f_Ps_ruleFor at hf
  refine z_aload_n C d_Ps_ruleFor_0 rfl 0 rfl ?_
  refine z_get C iw_Ps 0 rfl rfl 1 (by decide) zw_161 rfl d_Ps_ruleFor_1 ?_
  refine z_iconst (v := 1) C d_Ps_ruleFor_4 (by decide) ?_
  refine z_iload_n C d_Ps_ruleFor_5 rfl 1 rfl ?_
  refine z_ishl C d_Ps_ruleFor_6 ?_
  obtain ⟨r_2, h_1, hf⟩ := zb1_elim hf
  refine z_callV (As := [.int ((1 : Int32) <<< (x1 &&& 31))]) (rest := []) (ws' := [(h_this, .inr (4, [.ref h_this_values, .ref h_this_polynomial, .ref h_this_doneRules, .ref h_this_ways, .ref h_this_root, .int v_wireCount, .int v_bitsCame, .int v_bitsThere, .int v_inputBits, .int v_rootsBelow, .int v_begunOpen, .int v_empty])), (h_this_polynomial, .inr (1, [.ref h_this_polynomial_numbers, .int v_polynomial_monomials])), (h_this_polynomial_numbers, .inl (cI, 2325, .inl v_polynomial_numbers))]) C (c_Po_numberOf h_1) mi_Po_numberOf zw_274 (by decide) 0 rfl rfl [1, 2] (by decide) rfl rfl rfl rfl rfl (by decide) ⟨Nat.zero_le _, Nat.zero_le _⟩ d_Ps_ruleFor_7 ?_
  refine z_istore_n (lv' := [(2, .int r_2), (0, .ref h_this), (1, .int x1)]) C d_Ps_ruleFor_10 rfl (by decide) rfl ?_
  refine z_iload_n C d_Ps_ruleFor_11 rfl 0 rfl ?_
  refine z_iconst (v := 0) C d_Ps_ruleFor_12 (by decide) ?_
  refine z_callS (As := [.int r_2, .int (0 : Int32)]) (rest := []) (ws' := [(h_this, .inr (4, [.ref h_this_values, .ref h_this_polynomial, .ref h_this_doneRules, .ref h_this_ways, .ref h_this_root, .int v_wireCount, .int v_bitsCame, .int v_bitsThere, .int v_inputBits, .int v_rootsBelow, .int v_begunOpen, .int v_empty])), (h_this_polynomial, .inr (1, [.ref h_this_polynomial_numbers, .int v_polynomial_monomials])), (h_this_polynomial_numbers, .inl (cI, 2325, .inl v_polynomial_numbers))]) C (c_Ps_has rfl) mi_Ps_has zw_204 (by decide) [] (by decide) rfl rfl rfl rfl rfl (by decide) ⟨Nat.zero_le _, Nat.zero_le _⟩ d_Ps_ruleFor_13 ?_
  refine z_if_eq (tgt := 21) C d_Ps_ruleFor_16 (by decide) (fun c_4 => ?_) (fun c_4 => ?_)
  · have hf := zif_pos c_4 hf
    refine z_aload_n C d_Ps_ruleFor_21 rfl 1 rfl ?_
    refine z_get C iw_Ps 0 rfl rfl 1 (by decide) zw_161 rfl d_Ps_ruleFor_22 ?_
    refine z_iload_n C d_Ps_ruleFor_25 rfl 2 rfl ?_
    obtain ⟨r_6, h_5, hf⟩ := zb1_elim hf
    refine z_callV (As := [.int x1]) (rest := []) (ws' := [(h_this, .inr (4, [.ref h_this_values, .ref h_this_polynomial, .ref h_this_doneRules, .ref h_this_ways, .ref h_this_root, .int v_wireCount, .int v_bitsCame, .int v_bitsThere, .int v_inputBits, .int v_rootsBelow, .int v_begunOpen, .int v_empty])), (h_this_polynomial, .inr (1, [.ref h_this_polynomial_numbers, .int v_polynomial_monomials])), (h_this_polynomial_numbers, .inl (cI, 2325, .inl v_polynomial_numbers))]) C (c_Po_partnersOf h_5) mi_Po_partnersOf zw_278 (by decide) 0 rfl rfl [1, 2] (by decide) rfl rfl rfl rfl rfl (by decide) ⟨Nat.zero_le _, Nat.zero_le _⟩ d_Ps_ruleFor_26 ?_
    refine z_istore_n (lv' := [(3, .int r_6), (2, .int r_2), (0, .ref h_this), (1, .int x1)]) C d_Ps_ruleFor_29 rfl (by decide) rfl ?_
    refine z_iload_n C d_Ps_ruleFor_30 rfl 0 rfl ?_
    refine z_iconst (v := -1) C d_Ps_ruleFor_31 (by decide) ?_
    refine z_icmp_ne (tgt := 37) C d_Ps_ruleFor_32 (by decide) (fun c_7 => ?_) (fun c_7 => ?_)
    · have hf := zif_neg c_7 hf
      refine z_iload_n C d_Ps_ruleFor_37 rfl 1 rfl ?_
      refine z_iconst (v := 1) C d_Ps_ruleFor_38 (by decide) ?_
      refine z_callS (As := [.int r_2, .int (1 : Int32)]) (rest := []) (ws' := [(h_this, .inr (4, [.ref h_this_values, .ref h_this_polynomial, .ref h_this_doneRules, .ref h_this_ways, .ref h_this_root, .int v_wireCount, .int v_bitsCame, .int v_bitsThere, .int v_inputBits, .int v_rootsBelow, .int v_begunOpen, .int v_empty])), (h_this_polynomial, .inr (1, [.ref h_this_polynomial_numbers, .int v_polynomial_monomials])), (h_this_polynomial_numbers, .inl (cI, 2325, .inl v_polynomial_numbers))]) C (c_Ps_has rfl) mi_Ps_has zw_204 (by decide) [] (by decide) rfl rfl rfl rfl rfl (by decide) ⟨Nat.zero_le _, Nat.zero_le _⟩ d_Ps_ruleFor_39 ?_
      refine z_if_eq (tgt := 47) C d_Ps_ruleFor_42 (by decide) (fun c_9 => ?_) (fun c_9 => ?_)
      · have hf := zif_pos c_9 hf
        refine z_iload_n C d_Ps_ruleFor_47 rfl 0 rfl ?_
        refine z_if_ne (tgt := 61) C d_Ps_ruleFor_48 (by decide) (fun c_10 => ?_) (fun c_10 => ?_)
        · have hf := zif_neg c_10 hf
          refine z_iload_n C d_Ps_ruleFor_61 rfl 0 rfl ?_
          refine z_aload_n C d_Ps_ruleFor_62 rfl 2 rfl ?_
          refine z_get C iw_Ps 0 rfl rfl 8 (by decide) zw_168 rfl d_Ps_ruleFor_63 ?_
          refine z_iconst (v := -1) C d_Ps_ruleFor_66 (by decide) ?_
          refine z_ixor C d_Ps_ruleFor_67 ?_
          refine z_iand C d_Ps_ruleFor_68 ?_
          refine z_if_eq (tgt := 76) C d_Ps_ruleFor_69 (by decide) (fun c_12 => ?_) (fun c_12 => ?_)
          · have hf := zif_pos c_12 hf
            refine z_iconst (v := -1) C d_Ps_ruleFor_76 (by decide) ?_
            cases hf
            exact z_iret C hr d_Ps_ruleFor_77
          · have hf := zif_neg c_12 hf
            refine z_iconst (v := 3) C d_Ps_ruleFor_72 (by decide) ?_
            refine z_goto (tgt := 77) C d_Ps_ruleFor_73 (by decide) ?_
            cases hf
            exact z_iret C hr d_Ps_ruleFor_77
        · have hf := zif_pos c_10 hf
          refine z_iload_n C d_Ps_ruleFor_51 rfl 1 rfl ?_
          refine z_if_ne (tgt := 59) C d_Ps_ruleFor_52 (by decide) (fun c_11 => ?_) (fun c_11 => ?_)
          · have hf := zif_neg c_11 hf
            refine z_iconst (v := 2) C d_Ps_ruleFor_59 (by decide) ?_
            cases hf
            exact z_iret C hr d_Ps_ruleFor_60
          · have hf := zif_pos c_11 hf
            refine z_iconst (v := 1) C d_Ps_ruleFor_55 (by decide) ?_
            refine z_goto (tgt := 60) C d_Ps_ruleFor_56 (by decide) ?_
            cases hf
            exact z_iret C hr d_Ps_ruleFor_60
      · have hf := zif_neg c_9 hf
        refine z_iconst (v := 4) C d_Ps_ruleFor_45 (by decide) ?_
        cases hf
        exact z_iret C hr d_Ps_ruleFor_46
    · have hf := zif_pos c_7 hf
      refine z_iconst (v := -1) C d_Ps_ruleFor_35 (by decide) ?_
      cases hf
      exact z_iret C hr d_Ps_ruleFor_36
  · have hf := zif_neg c_4 hf
    refine z_iconst (v := -1) C d_Ps_ruleFor_19 (by decide) ?_
    cases hf
    exact z_iret C hr d_Ps_ruleFor_20
theorem c_Ps_ruleFor {l : Launch} {D : va_G} {cI cL : ClassId} {h_this h_this_values h_this_polynomial h_this_doneRules h_this_ways h_this_root h_this_polynomial_numbers : Nat} {v_wireCount v_bitsCame v_bitsThere v_inputBits v_rootsBelow v_begunOpen v_empty v_polynomial_monomials rr x1 : Int32} {v_polynomial_numbers : Nat → Int32} (hf : f_Ps_ruleFor x1 v_inputBits v_polynomial_numbers = some rr) : zM l y_Ps_ruleFor (Cond.code y_Ps_ruleFor b_Ps_ruleFor 4 (some .int) :: zT) rm_Ps_ruleFor D vwCl [(cI, .int), (cL, .long)] [.ref h_this, .int x1] [(h_this, .inr (4, [.ref h_this_values, .ref h_this_polynomial, .ref h_this_doneRules, .ref h_this_ways, .ref h_this_root, .int v_wireCount, .int v_bitsCame, .int v_bitsThere, .int v_inputBits, .int v_rootsBelow, .int v_begunOpen, .int v_empty])), (h_this_polynomial, .inr (1, [.ref h_this_polynomial_numbers, .int v_polynomial_monomials])), (h_this_polynomial_numbers, .inl (cI, 2325, .inl v_polynomial_numbers))] [(h_this, .inr (4, [.ref h_this_values, .ref h_this_polynomial, .ref h_this_doneRules, .ref h_this_ways, .ref h_this_root, .int v_wireCount, .int v_bitsCame, .int v_bitsThere, .int v_inputBits, .int v_rootsBelow, .int v_begunOpen, .int v_empty])), (h_this_polynomial, .inr (1, [.ref h_this_polynomial_numbers, .int v_polynomial_monomials])), (h_this_polynomial_numbers, .inl (cI, 2325, .inl v_polynomial_numbers))] (some (.int rr)) :=
  zM.intro (by decide) rfl (fun _ h => List.mem_cons_of_mem _ h) (Nat.le_of_ble_eq_true rfl) (fun _ _ _ _ _ _ _ C hr _ => k_Ps_ruleFor C hr hf)
def rm_Ps_leastBitWithRule : Room := { frames := 5, cells := 0, slots := 0, locals := 118 }
def f_Ps_leastBitWithRule_l14 (v_bitsThere : Int32) (v_inputBits : Int32) (v_values : Nat → Int32) (v_polynomial_numbers : Nat → Int32) (x1 : Int32) (x2 : Int32) : Option ((Int32 × Int32) ⊕ (Int32)) :=
  if (6 : Int32) ≤ x2 then (
    some (.inr (x1)))
  else (
    if x2 < 0 ∨ 6 ≤ x2.toNatClampNeg then none else
    zlet (x1 &&& ((v_values x2.toNatClampNeg) ^^^ (-1 : Int32))) fun y_3 =>
    zlet (x2 + 1) fun y_4 =>
    some (.inl (y_3, y_4)))
set_option maxRecDepth 100000 in
set_option maxHeartbeats 4000000 in
theorem k_Ps_leastBitWithRule_l14 {p : Program} {l : Launch} {e : Env} {s : State} {m : MethodId} {args : Array Value} {below : List Frame} {meth : Method} {c : Code} {D : va_G} {cI cL : ClassId} {h_this h_this_values h_this_polynomial h_this_doneRules h_this_ways h_this_root h_this_polynomial_numbers : Nat} {v_wireCount v_bitsCame v_bitsThere v_inputBits v_rootsBelow v_begunOpen v_empty v_polynomial_monomials rr x1 x2 : Int32} {v_values v_polynomial_numbers : Nat → Int32} (C : zC p s m args meth c b_Ps_leastBitWithRule 3 R_Ps D vwCl [(cI, .int), (cL, .long)] (zA [h_this, h_this_values, h_this_polynomial, h_this_polynomial_numbers] s.heap.size)) (hr : meth.sig.returnType = some .int) {z : (Int32 × Int32) ⊕ (Int32)} (hf : f_Ps_leastBitWithRule_l14 v_bitsThere v_inputBits v_values v_polynomial_numbers x1 x2 = some z) (hK : zcase (fun q => ZV p l e rm_Ps_leastBitWithRule s m args below meth c 3 D (some (.int rr)) [(h_this, .inr (4, [.ref h_this_values, .ref h_this_polynomial, .ref h_this_doneRules, .ref h_this_ways, .ref h_this_root, .int v_wireCount, .int v_bitsCame, .int v_bitsThere, .int v_inputBits, .int v_rootsBelow, .int v_begunOpen, .int v_empty])), (h_this_values, .inl (cI, 6, .inl v_values)), (h_this_polynomial, .inr (1, [.ref h_this_polynomial_numbers, .int v_polynomial_monomials])), (h_this_polynomial_numbers, .inl (cI, 2325, .inl v_polynomial_numbers))] [h_this, h_this_values, h_this_polynomial, h_this_polynomial_numbers] [(h_this, .inr (4, [.ref h_this_values, .ref h_this_polynomial, .ref h_this_doneRules, .ref h_this_ways, .ref h_this_root, .int v_wireCount, .int v_bitsCame, .int v_bitsThere, .int v_inputBits, .int v_rootsBelow, .int v_begunOpen, .int v_empty])), (h_this_values, .inl (cI, 6, .inl v_values)), (h_this_polynomial, .inr (1, [.ref h_this_polynomial_numbers, .int v_polynomial_monomials])), (h_this_polynomial_numbers, .inl (cI, 2325, .inl v_polynomial_numbers))] 14 [(0, .ref h_this), (1, .int q.1), (2, .int q.2)] []) (fun q => ZV p l e rm_Ps_leastBitWithRule s m args below meth c 3 D (some (.int rr)) [(h_this, .inr (4, [.ref h_this_values, .ref h_this_polynomial, .ref h_this_doneRules, .ref h_this_ways, .ref h_this_root, .int v_wireCount, .int v_bitsCame, .int v_bitsThere, .int v_inputBits, .int v_rootsBelow, .int v_begunOpen, .int v_empty])), (h_this_values, .inl (cI, 6, .inl v_values)), (h_this_polynomial, .inr (1, [.ref h_this_polynomial_numbers, .int v_polynomial_monomials])), (h_this_polynomial_numbers, .inl (cI, 2325, .inl v_polynomial_numbers))] [h_this, h_this_values, h_this_polynomial, h_this_polynomial_numbers] [(h_this, .inr (4, [.ref h_this_values, .ref h_this_polynomial, .ref h_this_doneRules, .ref h_this_ways, .ref h_this_root, .int v_wireCount, .int v_bitsCame, .int v_bitsThere, .int v_inputBits, .int v_rootsBelow, .int v_begunOpen, .int v_empty])), (h_this_values, .inl (cI, 6, .inl v_values)), (h_this_polynomial, .inr (1, [.ref h_this_polynomial_numbers, .int v_polynomial_monomials])), (h_this_polynomial_numbers, .inl (cI, 2325, .inl v_polynomial_numbers))] 37 [(0, .ref h_this), (1, .int q)] []) z) : ZV p l e rm_Ps_leastBitWithRule s m args below meth c 3 D (some (.int rr)) [(h_this, .inr (4, [.ref h_this_values, .ref h_this_polynomial, .ref h_this_doneRules, .ref h_this_ways, .ref h_this_root, .int v_wireCount, .int v_bitsCame, .int v_bitsThere, .int v_inputBits, .int v_rootsBelow, .int v_begunOpen, .int v_empty])), (h_this_values, .inl (cI, 6, .inl v_values)), (h_this_polynomial, .inr (1, [.ref h_this_polynomial_numbers, .int v_polynomial_monomials])), (h_this_polynomial_numbers, .inl (cI, 2325, .inl v_polynomial_numbers))] [h_this, h_this_values, h_this_polynomial, h_this_polynomial_numbers] [(h_this, .inr (4, [.ref h_this_values, .ref h_this_polynomial, .ref h_this_doneRules, .ref h_this_ways, .ref h_this_root, .int v_wireCount, .int v_bitsCame, .int v_bitsThere, .int v_inputBits, .int v_rootsBelow, .int v_begunOpen, .int v_empty])), (h_this_values, .inl (cI, 6, .inl v_values)), (h_this_polynomial, .inr (1, [.ref h_this_polynomial_numbers, .int v_polynomial_monomials])), (h_this_polynomial_numbers, .inl (cI, 2325, .inl v_polynomial_numbers))] 14 [(0, .ref h_this), (1, .int x1), (2, .int x2)] [] := by
  unfold f_Ps_leastBitWithRule_l14 at hf
  refine z_iload_n C d_Ps_leastBitWithRule_14 rfl 2 rfl ?_
  refine z_bipush (v := 6) C d_Ps_leastBitWithRule_15 (by decide) ?_
  refine z_icmp_ge (tgt := 37) C d_Ps_leastBitWithRule_17 (by decide) (fun c_1 => ?_) (fun c_1 => ?_)
  · have hf := zif_pos c_1 hf
    refine z_lv [0, 1] rfl ?_
    cases hf
    exact hK
  · have hf := zif_neg c_1 hf
    refine z_iload_n C d_Ps_leastBitWithRule_20 rfl 1 rfl ?_
    refine z_aload_n C d_Ps_leastBitWithRule_21 rfl 0 rfl ?_
    refine z_get C iw_Ps 0 rfl rfl 0 (by decide) zw_160 rfl d_Ps_leastBitWithRule_22 ?_
    refine z_iload_n C d_Ps_leastBitWithRule_25 rfl 2 rfl ?_
    obtain ⟨g_2, hf⟩ := zguard hf
    refine z_iald C 1 0 rfl rfl g_2 d_Ps_leastBitWithRule_26 ?_
    refine z_iconst (v := -1) C d_Ps_leastBitWithRule_27 (by decide) ?_
    refine z_ixor C d_Ps_leastBitWithRule_28 ?_
    refine z_iand C d_Ps_leastBitWithRule_29 ?_
    refine z_topi (fun y_3 ey_3 => ?_)
    have hf := zlet_at ey_3 hf
    refine z_istore_n (lv' := [(1, .int y_3), (0, .ref h_this), (2, .int x2)]) C d_Ps_leastBitWithRule_30 rfl (by decide) rfl ?_
    obtain ⟨y_4, ey_4⟩ : ∃ y : Int32, y = x2 + 1 := ⟨_, rfl⟩
    have hf := zlet_at ey_4 hf
    refine z_iinc (v := y_4) (lv' := [(2, .int y_4), (1, .int y_3), (0, .ref h_this)]) C d_Ps_leastBitWithRule_31 (k := 2) rfl (by rw [ey_4]; rfl) (by decide) rfl ?_
    refine z_goto (tgt := 14) C d_Ps_leastBitWithRule_34 (by decide) ?_
    refine z_lv [2, 1, 0] rfl ?_
    cases hf
    exact hK
theorem k_Ps_leastBitWithRule_l14_run {p : Program} {l : Launch} {e : Env} {s : State} {m : MethodId} {args : Array Value} {below : List Frame} {meth : Method} {c : Code} {D : va_G} {cI cL : ClassId} {h_this h_this_values h_this_polynomial h_this_doneRules h_this_ways h_this_root h_this_polynomial_numbers : Nat} {v_wireCount v_bitsCame v_bitsThere v_inputBits v_rootsBelow v_begunOpen v_empty v_polynomial_monomials rr x1 x2 : Int32} {v_values v_polynomial_numbers : Nat → Int32} (C : zC p s m args meth c b_Ps_leastBitWithRule 3 R_Ps D vwCl [(cI, .int), (cL, .long)] (zA [h_this, h_this_values, h_this_polynomial, h_this_polynomial_numbers] s.heap.size)) (hr : meth.sig.returnType = some .int) {o0 : Int32} (hf : zloop (fun q => f_Ps_leastBitWithRule_l14 v_bitsThere v_inputBits v_values v_polynomial_numbers q.1 q.2) zF (x1, x2) = some o0) (hK : ZV p l e rm_Ps_leastBitWithRule s m args below meth c 3 D (some (.int rr)) [(h_this, .inr (4, [.ref h_this_values, .ref h_this_polynomial, .ref h_this_doneRules, .ref h_this_ways, .ref h_this_root, .int v_wireCount, .int v_bitsCame, .int v_bitsThere, .int v_inputBits, .int v_rootsBelow, .int v_begunOpen, .int v_empty])), (h_this_values, .inl (cI, 6, .inl v_values)), (h_this_polynomial, .inr (1, [.ref h_this_polynomial_numbers, .int v_polynomial_monomials])), (h_this_polynomial_numbers, .inl (cI, 2325, .inl v_polynomial_numbers))] [h_this, h_this_values, h_this_polynomial, h_this_polynomial_numbers] [(h_this, .inr (4, [.ref h_this_values, .ref h_this_polynomial, .ref h_this_doneRules, .ref h_this_ways, .ref h_this_root, .int v_wireCount, .int v_bitsCame, .int v_bitsThere, .int v_inputBits, .int v_rootsBelow, .int v_begunOpen, .int v_empty])), (h_this_values, .inl (cI, 6, .inl v_values)), (h_this_polynomial, .inr (1, [.ref h_this_polynomial_numbers, .int v_polynomial_monomials])), (h_this_polynomial_numbers, .inl (cI, 2325, .inl v_polynomial_numbers))] 37 [(0, .ref h_this), (1, .int o0)] []) : ZV p l e rm_Ps_leastBitWithRule s m args below meth c 3 D (some (.int rr)) [(h_this, .inr (4, [.ref h_this_values, .ref h_this_polynomial, .ref h_this_doneRules, .ref h_this_ways, .ref h_this_root, .int v_wireCount, .int v_bitsCame, .int v_bitsThere, .int v_inputBits, .int v_rootsBelow, .int v_begunOpen, .int v_empty])), (h_this_values, .inl (cI, 6, .inl v_values)), (h_this_polynomial, .inr (1, [.ref h_this_polynomial_numbers, .int v_polynomial_monomials])), (h_this_polynomial_numbers, .inl (cI, 2325, .inl v_polynomial_numbers))] [h_this, h_this_values, h_this_polynomial, h_this_polynomial_numbers] [(h_this, .inr (4, [.ref h_this_values, .ref h_this_polynomial, .ref h_this_doneRules, .ref h_this_ways, .ref h_this_root, .int v_wireCount, .int v_bitsCame, .int v_bitsThere, .int v_inputBits, .int v_rootsBelow, .int v_begunOpen, .int v_empty])), (h_this_values, .inl (cI, 6, .inl v_values)), (h_this_polynomial, .inr (1, [.ref h_this_polynomial_numbers, .int v_polynomial_monomials])), (h_this_polynomial_numbers, .inl (cI, 2325, .inl v_polynomial_numbers))] 14 [(0, .ref h_this), (1, .int x1), (2, .int x2)] [] :=
  zloop_run (P := fun q => ZV p l e rm_Ps_leastBitWithRule s m args below meth c 3 D (some (.int rr)) [(h_this, .inr (4, [.ref h_this_values, .ref h_this_polynomial, .ref h_this_doneRules, .ref h_this_ways, .ref h_this_root, .int v_wireCount, .int v_bitsCame, .int v_bitsThere, .int v_inputBits, .int v_rootsBelow, .int v_begunOpen, .int v_empty])), (h_this_values, .inl (cI, 6, .inl v_values)), (h_this_polynomial, .inr (1, [.ref h_this_polynomial_numbers, .int v_polynomial_monomials])), (h_this_polynomial_numbers, .inl (cI, 2325, .inl v_polynomial_numbers))] [h_this, h_this_values, h_this_polynomial, h_this_polynomial_numbers] [(h_this, .inr (4, [.ref h_this_values, .ref h_this_polynomial, .ref h_this_doneRules, .ref h_this_ways, .ref h_this_root, .int v_wireCount, .int v_bitsCame, .int v_bitsThere, .int v_inputBits, .int v_rootsBelow, .int v_begunOpen, .int v_empty])), (h_this_values, .inl (cI, 6, .inl v_values)), (h_this_polynomial, .inr (1, [.ref h_this_polynomial_numbers, .int v_polynomial_monomials])), (h_this_polynomial_numbers, .inl (cI, 2325, .inl v_polynomial_numbers))] 14 [(0, .ref h_this), (1, .int q.1), (2, .int q.2)] []) (K := (fun q => ZV p l e rm_Ps_leastBitWithRule s m args below meth c 3 D (some (.int rr)) [(h_this, .inr (4, [.ref h_this_values, .ref h_this_polynomial, .ref h_this_doneRules, .ref h_this_ways, .ref h_this_root, .int v_wireCount, .int v_bitsCame, .int v_bitsThere, .int v_inputBits, .int v_rootsBelow, .int v_begunOpen, .int v_empty])), (h_this_values, .inl (cI, 6, .inl v_values)), (h_this_polynomial, .inr (1, [.ref h_this_polynomial_numbers, .int v_polynomial_monomials])), (h_this_polynomial_numbers, .inl (cI, 2325, .inl v_polynomial_numbers))] [h_this, h_this_values, h_this_polynomial, h_this_polynomial_numbers] [(h_this, .inr (4, [.ref h_this_values, .ref h_this_polynomial, .ref h_this_doneRules, .ref h_this_ways, .ref h_this_root, .int v_wireCount, .int v_bitsCame, .int v_bitsThere, .int v_inputBits, .int v_rootsBelow, .int v_begunOpen, .int v_empty])), (h_this_values, .inl (cI, 6, .inl v_values)), (h_this_polynomial, .inr (1, [.ref h_this_polynomial_numbers, .int v_polynomial_monomials])), (h_this_polynomial_numbers, .inl (cI, 2325, .inl v_polynomial_numbers))] 37 [(0, .ref h_this), (1, .int q)] [])) (fun q z hz hK => k_Ps_leastBitWithRule_l14 C hr hz hK) zF _ (o0) hf hK
def f_Ps_leastBitWithRule_l39 (x1 : Int32) (v_bitsThere : Int32) (v_inputBits : Int32) (v_values : Nat → Int32) (v_polynomial_numbers : Nat → Int32) (x2 : Int32) : Option ((Int32) ⊕ ((Unit) ⊕ (Int32))) :=
  if (24 : Int32) ≤ x2 then (
    some (.inr (.inl ())))
  else (
    if (f_Ps_has x1 x2) = 0 then (
      zlet (x2 + 1) fun y_4 =>
      some (.inl (y_4)))
    else (
      zb1 (f_Ps_ruleFor x2 v_inputBits v_polynomial_numbers) fun r_6 =>
      if r_6 = (-1 : Int32) then (
        zlet (x2 + 1) fun y_8 =>
        some (.inl (y_8)))
      else (
        some (.inr (.inr (x2))))))
set_option maxRecDepth 100000 in
set_option maxHeartbeats 4000000 in
theorem k_Ps_leastBitWithRule_l39 {p : Program} {l : Launch} {e : Env} {s : State} {m : MethodId} {args : Array Value} {below : List Frame} {meth : Method} {c : Code} {D : va_G} {cI cL : ClassId} {h_this h_this_values h_this_polynomial h_this_doneRules h_this_ways h_this_root h_this_polynomial_numbers : Nat} {v_wireCount v_bitsCame v_bitsThere v_inputBits v_rootsBelow v_begunOpen v_empty v_polynomial_monomials rr x1 x2 : Int32} {v_values v_polynomial_numbers : Nat → Int32} (C : zC p s m args meth c b_Ps_leastBitWithRule 3 R_Ps D vwCl [(cI, .int), (cL, .long)] (zA [h_this, h_this_values, h_this_polynomial, h_this_polynomial_numbers] s.heap.size)) (hr : meth.sig.returnType = some .int) {z : (Int32) ⊕ ((Unit) ⊕ (Int32))} (hf : f_Ps_leastBitWithRule_l39 x1 v_bitsThere v_inputBits v_values v_polynomial_numbers x2 = some z) (hK : zcase (fun q => ZV p l e rm_Ps_leastBitWithRule s m args below meth c 3 D (some (.int rr)) [(h_this, .inr (4, [.ref h_this_values, .ref h_this_polynomial, .ref h_this_doneRules, .ref h_this_ways, .ref h_this_root, .int v_wireCount, .int v_bitsCame, .int v_bitsThere, .int v_inputBits, .int v_rootsBelow, .int v_begunOpen, .int v_empty])), (h_this_values, .inl (cI, 6, .inl v_values)), (h_this_polynomial, .inr (1, [.ref h_this_polynomial_numbers, .int v_polynomial_monomials])), (h_this_polynomial_numbers, .inl (cI, 2325, .inl v_polynomial_numbers))] [h_this, h_this_values, h_this_polynomial, h_this_polynomial_numbers] [(h_this, .inr (4, [.ref h_this_values, .ref h_this_polynomial, .ref h_this_doneRules, .ref h_this_ways, .ref h_this_root, .int v_wireCount, .int v_bitsCame, .int v_bitsThere, .int v_inputBits, .int v_rootsBelow, .int v_begunOpen, .int v_empty])), (h_this_values, .inl (cI, 6, .inl v_values)), (h_this_polynomial, .inr (1, [.ref h_this_polynomial_numbers, .int v_polynomial_monomials])), (h_this_polynomial_numbers, .inl (cI, 2325, .inl v_polynomial_numbers))] 39 [(0, .ref h_this), (1, .int x1), (2, .int q)] []) (zcase (fun q => ZV p l e rm_Ps_leastBitWithRule s m args below meth c 3 D (some (.int rr)) [(h_this, .inr (4, [.ref h_this_values, .ref h_this_polynomial, .ref h_this_doneRules, .ref h_this_ways, .ref h_this_root, .int v_wireCount, .int v_bitsCame, .int v_bitsThere, .int v_inputBits, .int v_rootsBelow, .int v_begunOpen, .int v_empty])), (h_this_values, .inl (cI, 6, .inl v_values)), (h_this_polynomial, .inr (1, [.ref h_this_polynomial_numbers, .int v_polynomial_monomials])), (h_this_polynomial_numbers, .inl (cI, 2325, .inl v_polynomial_numbers))] [h_this, h_this_values, h_this_polynomial, h_this_polynomial_numbers] [(h_this, .inr (4, [.ref h_this_values, .ref h_this_polynomial, .ref h_this_doneRules, .ref h_this_ways, .ref h_this_root, .int v_wireCount, .int v_bitsCame, .int v_bitsThere, .int v_inputBits, .int v_rootsBelow, .int v_begunOpen, .int v_empty])), (h_this_values, .inl (cI, 6, .inl v_values)), (h_this_polynomial, .inr (1, [.ref h_this_polynomial_numbers, .int v_polynomial_monomials])), (h_this_polynomial_numbers, .inl (cI, 2325, .inl v_polynomial_numbers))] 70 [] []) (fun w => w = rr)) z) : ZV p l e rm_Ps_leastBitWithRule s m args below meth c 3 D (some (.int rr)) [(h_this, .inr (4, [.ref h_this_values, .ref h_this_polynomial, .ref h_this_doneRules, .ref h_this_ways, .ref h_this_root, .int v_wireCount, .int v_bitsCame, .int v_bitsThere, .int v_inputBits, .int v_rootsBelow, .int v_begunOpen, .int v_empty])), (h_this_values, .inl (cI, 6, .inl v_values)), (h_this_polynomial, .inr (1, [.ref h_this_polynomial_numbers, .int v_polynomial_monomials])), (h_this_polynomial_numbers, .inl (cI, 2325, .inl v_polynomial_numbers))] [h_this, h_this_values, h_this_polynomial, h_this_polynomial_numbers] [(h_this, .inr (4, [.ref h_this_values, .ref h_this_polynomial, .ref h_this_doneRules, .ref h_this_ways, .ref h_this_root, .int v_wireCount, .int v_bitsCame, .int v_bitsThere, .int v_inputBits, .int v_rootsBelow, .int v_begunOpen, .int v_empty])), (h_this_values, .inl (cI, 6, .inl v_values)), (h_this_polynomial, .inr (1, [.ref h_this_polynomial_numbers, .int v_polynomial_monomials])), (h_this_polynomial_numbers, .inl (cI, 2325, .inl v_polynomial_numbers))] 39 [(0, .ref h_this), (1, .int x1), (2, .int x2)] [] := by
  unfold f_Ps_leastBitWithRule_l39 at hf
  refine z_iload_n C d_Ps_leastBitWithRule_39 rfl 2 rfl ?_
  refine z_bipush (v := 24) C d_Ps_leastBitWithRule_40 (by decide) ?_
  refine z_icmp_ge (tgt := 70) C d_Ps_leastBitWithRule_42 (by decide) (fun c_1 => ?_) (fun c_1 => ?_)
  · have hf := zif_pos c_1 hf
    refine z_lv [] rfl ?_
    cases hf
    exact hK
  · have hf := zif_neg c_1 hf
    refine z_iload_n C d_Ps_leastBitWithRule_45 rfl 1 rfl ?_
    refine z_iload_n C d_Ps_leastBitWithRule_46 rfl 2 rfl ?_
    refine z_callS (As := [.int x1, .int x2]) (rest := []) (ws' := [(h_this, .inr (4, [.ref h_this_values, .ref h_this_polynomial, .ref h_this_doneRules, .ref h_this_ways, .ref h_this_root, .int v_wireCount, .int v_bitsCame, .int v_bitsThere, .int v_inputBits, .int v_rootsBelow, .int v_begunOpen, .int v_empty])), (h_this_values, .inl (cI, 6, .inl v_values)), (h_this_polynomial, .inr (1, [.ref h_this_polynomial_numbers, .int v_polynomial_monomials])), (h_this_polynomial_numbers, .inl (cI, 2325, .inl v_polynomial_numbers))]) C (c_Ps_has rfl) mi_Ps_has zw_204 (by decide) [] (by decide) rfl rfl rfl rfl rfl (by decide) ⟨Nat.zero_le _, Nat.zero_le _⟩ d_Ps_leastBitWithRule_47 ?_
    refine z_if_eq (tgt := 64) C d_Ps_leastBitWithRule_50 (by decide) (fun c_3 => ?_) (fun c_3 => ?_)
    · have hf := zif_pos c_3 hf
      obtain ⟨y_4, ey_4⟩ : ∃ y : Int32, y = x2 + 1 := ⟨_, rfl⟩
      have hf := zlet_at ey_4 hf
      refine z_iinc (v := y_4) (lv' := [(2, .int y_4), (0, .ref h_this), (1, .int x1)]) C d_Ps_leastBitWithRule_64 (k := 2) rfl (by rw [ey_4]; rfl) (by decide) rfl ?_
      refine z_goto (tgt := 39) C d_Ps_leastBitWithRule_67 (by decide) ?_
      refine z_lv [1, 2, 0] rfl ?_
      cases hf
      exact hK
    · have hf := zif_neg c_3 hf
      refine z_aload_n C d_Ps_leastBitWithRule_53 rfl 0 rfl ?_
      refine z_iload_n C d_Ps_leastBitWithRule_54 rfl 2 rfl ?_
      obtain ⟨r_6, h_5, hf⟩ := zb1_elim hf
      refine z_callV (As := [.int x2]) (rest := []) (ws' := [(h_this, .inr (4, [.ref h_this_values, .ref h_this_polynomial, .ref h_this_doneRules, .ref h_this_ways, .ref h_this_root, .int v_wireCount, .int v_bitsCame, .int v_bitsThere, .int v_inputBits, .int v_rootsBelow, .int v_begunOpen, .int v_empty])), (h_this_values, .inl (cI, 6, .inl v_values)), (h_this_polynomial, .inr (1, [.ref h_this_polynomial_numbers, .int v_polynomial_monomials])), (h_this_polynomial_numbers, .inl (cI, 2325, .inl v_polynomial_numbers))]) C (c_Ps_ruleFor h_5) mi_Ps_ruleFor zw_270 (by decide) 0 rfl rfl [0, 2, 3] (by decide) rfl rfl rfl rfl rfl (by decide) ⟨Nat.zero_le _, Nat.zero_le _⟩ d_Ps_leastBitWithRule_55 ?_
      refine z_iconst (v := -1) C d_Ps_leastBitWithRule_58 (by decide) ?_
      refine z_icmp_eq (tgt := 64) C d_Ps_leastBitWithRule_59 (by decide) (fun c_7 => ?_) (fun c_7 => ?_)
      · have hf := zif_pos c_7 hf
        obtain ⟨y_8, ey_8⟩ : ∃ y : Int32, y = x2 + 1 := ⟨_, rfl⟩
        have hf := zlet_at ey_8 hf
        refine z_iinc (v := y_8) (lv' := [(2, .int y_8), (0, .ref h_this), (1, .int x1)]) C d_Ps_leastBitWithRule_64 (k := 2) rfl (by rw [ey_8]; rfl) (by decide) rfl ?_
        refine z_goto (tgt := 39) C d_Ps_leastBitWithRule_67 (by decide) ?_
        refine z_lv [1, 2, 0] rfl ?_
        cases hf
        exact hK
      · have hf := zif_neg c_7 hf
        refine z_iload_n C d_Ps_leastBitWithRule_62 rfl 2 rfl ?_
        cases hf
        have hK : x2 = rr := hK
        cases hK
        exact z_iret C hr d_Ps_leastBitWithRule_63
theorem k_Ps_leastBitWithRule_l39_run {p : Program} {l : Launch} {e : Env} {s : State} {m : MethodId} {args : Array Value} {below : List Frame} {meth : Method} {c : Code} {D : va_G} {cI cL : ClassId} {h_this h_this_values h_this_polynomial h_this_doneRules h_this_ways h_this_root h_this_polynomial_numbers : Nat} {v_wireCount v_bitsCame v_bitsThere v_inputBits v_rootsBelow v_begunOpen v_empty v_polynomial_monomials rr x1 x2 : Int32} {v_values v_polynomial_numbers : Nat → Int32} (C : zC p s m args meth c b_Ps_leastBitWithRule 3 R_Ps D vwCl [(cI, .int), (cL, .long)] (zA [h_this, h_this_values, h_this_polynomial, h_this_polynomial_numbers] s.heap.size)) (hr : meth.sig.returnType = some .int)  (hf : zloop (fun q => f_Ps_leastBitWithRule_l39 x1 v_bitsThere v_inputBits v_values v_polynomial_numbers q) zF (x2) = some (.inl ())) (hK : ZV p l e rm_Ps_leastBitWithRule s m args below meth c 3 D (some (.int rr)) [(h_this, .inr (4, [.ref h_this_values, .ref h_this_polynomial, .ref h_this_doneRules, .ref h_this_ways, .ref h_this_root, .int v_wireCount, .int v_bitsCame, .int v_bitsThere, .int v_inputBits, .int v_rootsBelow, .int v_begunOpen, .int v_empty])), (h_this_values, .inl (cI, 6, .inl v_values)), (h_this_polynomial, .inr (1, [.ref h_this_polynomial_numbers, .int v_polynomial_monomials])), (h_this_polynomial_numbers, .inl (cI, 2325, .inl v_polynomial_numbers))] [h_this, h_this_values, h_this_polynomial, h_this_polynomial_numbers] [(h_this, .inr (4, [.ref h_this_values, .ref h_this_polynomial, .ref h_this_doneRules, .ref h_this_ways, .ref h_this_root, .int v_wireCount, .int v_bitsCame, .int v_bitsThere, .int v_inputBits, .int v_rootsBelow, .int v_begunOpen, .int v_empty])), (h_this_values, .inl (cI, 6, .inl v_values)), (h_this_polynomial, .inr (1, [.ref h_this_polynomial_numbers, .int v_polynomial_monomials])), (h_this_polynomial_numbers, .inl (cI, 2325, .inl v_polynomial_numbers))] 70 [] []) : ZV p l e rm_Ps_leastBitWithRule s m args below meth c 3 D (some (.int rr)) [(h_this, .inr (4, [.ref h_this_values, .ref h_this_polynomial, .ref h_this_doneRules, .ref h_this_ways, .ref h_this_root, .int v_wireCount, .int v_bitsCame, .int v_bitsThere, .int v_inputBits, .int v_rootsBelow, .int v_begunOpen, .int v_empty])), (h_this_values, .inl (cI, 6, .inl v_values)), (h_this_polynomial, .inr (1, [.ref h_this_polynomial_numbers, .int v_polynomial_monomials])), (h_this_polynomial_numbers, .inl (cI, 2325, .inl v_polynomial_numbers))] [h_this, h_this_values, h_this_polynomial, h_this_polynomial_numbers] [(h_this, .inr (4, [.ref h_this_values, .ref h_this_polynomial, .ref h_this_doneRules, .ref h_this_ways, .ref h_this_root, .int v_wireCount, .int v_bitsCame, .int v_bitsThere, .int v_inputBits, .int v_rootsBelow, .int v_begunOpen, .int v_empty])), (h_this_values, .inl (cI, 6, .inl v_values)), (h_this_polynomial, .inr (1, [.ref h_this_polynomial_numbers, .int v_polynomial_monomials])), (h_this_polynomial_numbers, .inl (cI, 2325, .inl v_polynomial_numbers))] 39 [(0, .ref h_this), (1, .int x1), (2, .int x2)] [] :=
  zloop_run (P := fun q => ZV p l e rm_Ps_leastBitWithRule s m args below meth c 3 D (some (.int rr)) [(h_this, .inr (4, [.ref h_this_values, .ref h_this_polynomial, .ref h_this_doneRules, .ref h_this_ways, .ref h_this_root, .int v_wireCount, .int v_bitsCame, .int v_bitsThere, .int v_inputBits, .int v_rootsBelow, .int v_begunOpen, .int v_empty])), (h_this_values, .inl (cI, 6, .inl v_values)), (h_this_polynomial, .inr (1, [.ref h_this_polynomial_numbers, .int v_polynomial_monomials])), (h_this_polynomial_numbers, .inl (cI, 2325, .inl v_polynomial_numbers))] [h_this, h_this_values, h_this_polynomial, h_this_polynomial_numbers] [(h_this, .inr (4, [.ref h_this_values, .ref h_this_polynomial, .ref h_this_doneRules, .ref h_this_ways, .ref h_this_root, .int v_wireCount, .int v_bitsCame, .int v_bitsThere, .int v_inputBits, .int v_rootsBelow, .int v_begunOpen, .int v_empty])), (h_this_values, .inl (cI, 6, .inl v_values)), (h_this_polynomial, .inr (1, [.ref h_this_polynomial_numbers, .int v_polynomial_monomials])), (h_this_polynomial_numbers, .inl (cI, 2325, .inl v_polynomial_numbers))] 39 [(0, .ref h_this), (1, .int x1), (2, .int q)] []) (K := (zcase (fun q => ZV p l e rm_Ps_leastBitWithRule s m args below meth c 3 D (some (.int rr)) [(h_this, .inr (4, [.ref h_this_values, .ref h_this_polynomial, .ref h_this_doneRules, .ref h_this_ways, .ref h_this_root, .int v_wireCount, .int v_bitsCame, .int v_bitsThere, .int v_inputBits, .int v_rootsBelow, .int v_begunOpen, .int v_empty])), (h_this_values, .inl (cI, 6, .inl v_values)), (h_this_polynomial, .inr (1, [.ref h_this_polynomial_numbers, .int v_polynomial_monomials])), (h_this_polynomial_numbers, .inl (cI, 2325, .inl v_polynomial_numbers))] [h_this, h_this_values, h_this_polynomial, h_this_polynomial_numbers] [(h_this, .inr (4, [.ref h_this_values, .ref h_this_polynomial, .ref h_this_doneRules, .ref h_this_ways, .ref h_this_root, .int v_wireCount, .int v_bitsCame, .int v_bitsThere, .int v_inputBits, .int v_rootsBelow, .int v_begunOpen, .int v_empty])), (h_this_values, .inl (cI, 6, .inl v_values)), (h_this_polynomial, .inr (1, [.ref h_this_polynomial_numbers, .int v_polynomial_monomials])), (h_this_polynomial_numbers, .inl (cI, 2325, .inl v_polynomial_numbers))] 70 [] []) (fun w => w = rr))) (fun q z hz hK => k_Ps_leastBitWithRule_l39 C hr hz hK) zF _ ((.inl ())) hf hK
theorem k_Ps_leastBitWithRule_l39_runR {p : Program} {l : Launch} {e : Env} {s : State} {m : MethodId} {args : Array Value} {below : List Frame} {meth : Method} {c : Code} {D : va_G} {cI cL : ClassId} {h_this h_this_values h_this_polynomial h_this_doneRules h_this_ways h_this_root h_this_polynomial_numbers : Nat} {v_wireCount v_bitsCame v_bitsThere v_inputBits v_rootsBelow v_begunOpen v_empty v_polynomial_monomials rr x1 x2 : Int32} {v_values v_polynomial_numbers : Nat → Int32} (C : zC p s m args meth c b_Ps_leastBitWithRule 3 R_Ps D vwCl [(cI, .int), (cL, .long)] (zA [h_this, h_this_values, h_this_polynomial, h_this_polynomial_numbers] s.heap.size)) (hr : meth.sig.returnType = some .int) (hf : zloop (fun q => f_Ps_leastBitWithRule_l39 x1 v_bitsThere v_inputBits v_values v_polynomial_numbers q) zF (x2) = some (.inr rr)) : ZV p l e rm_Ps_leastBitWithRule s m args below meth c 3 D (some (.int rr)) [(h_this, .inr (4, [.ref h_this_values, .ref h_this_polynomial, .ref h_this_doneRules, .ref h_this_ways, .ref h_this_root, .int v_wireCount, .int v_bitsCame, .int v_bitsThere, .int v_inputBits, .int v_rootsBelow, .int v_begunOpen, .int v_empty])), (h_this_values, .inl (cI, 6, .inl v_values)), (h_this_polynomial, .inr (1, [.ref h_this_polynomial_numbers, .int v_polynomial_monomials])), (h_this_polynomial_numbers, .inl (cI, 2325, .inl v_polynomial_numbers))] [h_this, h_this_values, h_this_polynomial, h_this_polynomial_numbers] [(h_this, .inr (4, [.ref h_this_values, .ref h_this_polynomial, .ref h_this_doneRules, .ref h_this_ways, .ref h_this_root, .int v_wireCount, .int v_bitsCame, .int v_bitsThere, .int v_inputBits, .int v_rootsBelow, .int v_begunOpen, .int v_empty])), (h_this_values, .inl (cI, 6, .inl v_values)), (h_this_polynomial, .inr (1, [.ref h_this_polynomial_numbers, .int v_polynomial_monomials])), (h_this_polynomial_numbers, .inl (cI, 2325, .inl v_polynomial_numbers))] 39 [(0, .ref h_this), (1, .int x1), (2, .int x2)] [] :=
  zloop_run (P := fun q => ZV p l e rm_Ps_leastBitWithRule s m args below meth c 3 D (some (.int rr)) [(h_this, .inr (4, [.ref h_this_values, .ref h_this_polynomial, .ref h_this_doneRules, .ref h_this_ways, .ref h_this_root, .int v_wireCount, .int v_bitsCame, .int v_bitsThere, .int v_inputBits, .int v_rootsBelow, .int v_begunOpen, .int v_empty])), (h_this_values, .inl (cI, 6, .inl v_values)), (h_this_polynomial, .inr (1, [.ref h_this_polynomial_numbers, .int v_polynomial_monomials])), (h_this_polynomial_numbers, .inl (cI, 2325, .inl v_polynomial_numbers))] [h_this, h_this_values, h_this_polynomial, h_this_polynomial_numbers] [(h_this, .inr (4, [.ref h_this_values, .ref h_this_polynomial, .ref h_this_doneRules, .ref h_this_ways, .ref h_this_root, .int v_wireCount, .int v_bitsCame, .int v_bitsThere, .int v_inputBits, .int v_rootsBelow, .int v_begunOpen, .int v_empty])), (h_this_values, .inl (cI, 6, .inl v_values)), (h_this_polynomial, .inr (1, [.ref h_this_polynomial_numbers, .int v_polynomial_monomials])), (h_this_polynomial_numbers, .inl (cI, 2325, .inl v_polynomial_numbers))] 39 [(0, .ref h_this), (1, .int x1), (2, .int q)] []) (K := (zcase (fun q => ZV p l e rm_Ps_leastBitWithRule s m args below meth c 3 D (some (.int rr)) [(h_this, .inr (4, [.ref h_this_values, .ref h_this_polynomial, .ref h_this_doneRules, .ref h_this_ways, .ref h_this_root, .int v_wireCount, .int v_bitsCame, .int v_bitsThere, .int v_inputBits, .int v_rootsBelow, .int v_begunOpen, .int v_empty])), (h_this_values, .inl (cI, 6, .inl v_values)), (h_this_polynomial, .inr (1, [.ref h_this_polynomial_numbers, .int v_polynomial_monomials])), (h_this_polynomial_numbers, .inl (cI, 2325, .inl v_polynomial_numbers))] [h_this, h_this_values, h_this_polynomial, h_this_polynomial_numbers] [(h_this, .inr (4, [.ref h_this_values, .ref h_this_polynomial, .ref h_this_doneRules, .ref h_this_ways, .ref h_this_root, .int v_wireCount, .int v_bitsCame, .int v_bitsThere, .int v_inputBits, .int v_rootsBelow, .int v_begunOpen, .int v_empty])), (h_this_values, .inl (cI, 6, .inl v_values)), (h_this_polynomial, .inr (1, [.ref h_this_polynomial_numbers, .int v_polynomial_monomials])), (h_this_polynomial_numbers, .inl (cI, 2325, .inl v_polynomial_numbers))] 70 [] []) (fun w => w = rr))) (fun q z hz hK => k_Ps_leastBitWithRule_l39 C hr hz hK) zF _ (.inr rr) hf rfl
/-- PathSums.leastBitWithRule()I -/
def f_Ps_leastBitWithRule (v_bitsThere : Int32) (v_inputBits : Int32) (v_values : Nat → Int32) (v_polynomial_numbers : Nat → Int32) : Option (Int32) :=
  zlet (v_bitsThere &&& (v_inputBits ^^^ (-1 : Int32))) fun y_1 =>
  zb1 (zloop (fun q => f_Ps_leastBitWithRule_l14 v_bitsThere v_inputBits v_values v_polynomial_numbers q.1 q.2) zF (y_1, (0 : Int32))) fun y_2 =>
  zr0 (zloop (fun q => f_Ps_leastBitWithRule_l39 y_2 v_bitsThere v_inputBits v_values v_polynomial_numbers q) zF ((0 : Int32))) fun  =>
  some (-1 : Int32)
set_option maxRecDepth 100000 in
set_option maxHeartbeats 4000000 in
theorem k_Ps_leastBitWithRule {p : Program} {l : Launch} {e : Env} {s : State} {m : MethodId} {args : Array Value} {below : List Frame} {meth : Method} {c : Code} {D : va_G} {cI cL : ClassId} {h_this h_this_values h_this_polynomial h_this_doneRules h_this_ways h_this_root h_this_polynomial_numbers : Nat} {v_wireCount v_bitsCame v_bitsThere v_inputBits v_rootsBelow v_begunOpen v_empty v_polynomial_monomials rr : Int32} {v_values v_polynomial_numbers : Nat → Int32} (C : zC p s m args meth c b_Ps_leastBitWithRule 3 R_Ps D vwCl [(cI, .int), (cL, .long)] (zA [h_this, h_this_values, h_this_polynomial, h_this_polynomial_numbers] s.heap.size)) (hr : meth.sig.returnType = some .int) (hf : f_Ps_leastBitWithRule v_bitsThere v_inputBits v_values v_polynomial_numbers = some rr) : ZV p l e rm_Ps_leastBitWithRule s m args below meth c 3 D (some (.int rr)) [(h_this, .inr (4, [.ref h_this_values, .ref h_this_polynomial, .ref h_this_doneRules, .ref h_this_ways, .ref h_this_root, .int v_wireCount, .int v_bitsCame, .int v_bitsThere, .int v_inputBits, .int v_rootsBelow, .int v_begunOpen, .int v_empty])), (h_this_values, .inl (cI, 6, .inl v_values)), (h_this_polynomial, .inr (1, [.ref h_this_polynomial_numbers, .int v_polynomial_monomials])), (h_this_polynomial_numbers, .inl (cI, 2325, .inl v_polynomial_numbers))] [h_this, h_this_values, h_this_polynomial, h_this_polynomial_numbers] [(h_this, .inr (4, [.ref h_this_values, .ref h_this_polynomial, .ref h_this_doneRules, .ref h_this_ways, .ref h_this_root, .int v_wireCount, .int v_bitsCame, .int v_bitsThere, .int v_inputBits, .int v_rootsBelow, .int v_begunOpen, .int v_empty])), (h_this_values, .inl (cI, 6, .inl v_values)), (h_this_polynomial, .inr (1, [.ref h_this_polynomial_numbers, .int v_polynomial_monomials])), (h_this_polynomial_numbers, .inl (cI, 2325, .inl v_polynomial_numbers))] 0 [(0, .ref h_this)] [] := by
  unfold f_Ps_leastBitWithRule at hf
  refine z_aload_n C d_Ps_leastBitWithRule_0 rfl 0 rfl ?_
  refine z_get C iw_Ps 0 rfl rfl 7 (by decide) zw_167 rfl d_Ps_leastBitWithRule_1 ?_
  refine z_aload_n C d_Ps_leastBitWithRule_4 rfl 0 rfl ?_
  refine z_get C iw_Ps 0 rfl rfl 8 (by decide) zw_168 rfl d_Ps_leastBitWithRule_5 ?_
  refine z_iconst (v := -1) C d_Ps_leastBitWithRule_8 (by decide) ?_
  refine z_ixor C d_Ps_leastBitWithRule_9 ?_
  refine z_iand C d_Ps_leastBitWithRule_10 ?_
  refine z_topi (fun y_1 ey_1 => ?_)
  have hf := zlet_at ey_1 hf
  refine z_istore_n (lv' := [(1, .int y_1), (0, .ref h_this)]) C d_Ps_leastBitWithRule_11 rfl (by decide) rfl ?_
  refine z_iconst (v := 0) C d_Ps_leastBitWithRule_12 (by decide) ?_
  refine z_istore_n (lv' := [(2, .int (0 : Int32)), (1, .int y_1), (0, .ref h_this)]) C d_Ps_leastBitWithRule_13 rfl (by decide) rfl ?_
  refine z_lv [2, 1, 0] rfl ?_
  obtain ⟨y_2, h_3, hf⟩ := zb1_elim hf
  refine k_Ps_leastBitWithRule_l14_run C hr h_3 ?_
  refine z_iconst (v := 0) C d_Ps_leastBitWithRule_37 (by decide) ?_
  refine z_istore_n (lv' := [(2, .int (0 : Int32)), (0, .ref h_this), (1, .int y_2)]) C d_Ps_leastBitWithRule_38 rfl (by decide) rfl ?_
  refine z_lv [1, 2, 0] rfl ?_
  rcases zr0_elim hf with ⟨, h_4, hf⟩ | h_4
  rotate_left
  · exact k_Ps_leastBitWithRule_l39_runR C hr h_4
  refine k_Ps_leastBitWithRule_l39_run C hr h_4 ?_
  refine z_iconst (v := -1) C d_Ps_leastBitWithRule_70 (by decide) ?_
  cases hf
  exact z_iret C hr d_Ps_leastBitWithRule_71
theorem c_Ps_leastBitWithRule {l : Launch} {D : va_G} {cI cL : ClassId} {h_this h_this_values h_this_polynomial h_this_doneRules h_this_ways h_this_root h_this_polynomial_numbers : Nat} {v_wireCount v_bitsCame v_bitsThere v_inputBits v_rootsBelow v_begunOpen v_empty v_polynomial_monomials rr : Int32} {v_values v_polynomial_numbers : Nat → Int32} (hf : f_Ps_leastBitWithRule v_bitsThere v_inputBits v_values v_polynomial_numbers = some rr) : zM l y_Ps_leastBitWithRule (Cond.code y_Ps_leastBitWithRule b_Ps_leastBitWithRule 3 (some .int) :: zT) rm_Ps_leastBitWithRule D vwCl [(cI, .int), (cL, .long)] [.ref h_this] [(h_this, .inr (4, [.ref h_this_values, .ref h_this_polynomial, .ref h_this_doneRules, .ref h_this_ways, .ref h_this_root, .int v_wireCount, .int v_bitsCame, .int v_bitsThere, .int v_inputBits, .int v_rootsBelow, .int v_begunOpen, .int v_empty])), (h_this_values, .inl (cI, 6, .inl v_values)), (h_this_polynomial, .inr (1, [.ref h_this_polynomial_numbers, .int v_polynomial_monomials])), (h_this_polynomial_numbers, .inl (cI, 2325, .inl v_polynomial_numbers))] [(h_this, .inr (4, [.ref h_this_values, .ref h_this_polynomial, .ref h_this_doneRules, .ref h_this_ways, .ref h_this_root, .int v_wireCount, .int v_bitsCame, .int v_bitsThere, .int v_inputBits, .int v_rootsBelow, .int v_begunOpen, .int v_empty])), (h_this_values, .inl (cI, 6, .inl v_values)), (h_this_polynomial, .inr (1, [.ref h_this_polynomial_numbers, .int v_polynomial_monomials])), (h_this_polynomial_numbers, .inl (cI, 2325, .inl v_polynomial_numbers))] (some (.int rr)) :=
  zM.intro (by decide) rfl (fun _ h => List.mem_cons_of_mem _ h) (Nat.le_of_ble_eq_true rfl) (fun _ _ _ _ _ _ _ C hr _ => k_Ps_leastBitWithRule C hr hf)
def rm_Ps_greatestOf : Room := { frames := 1, cells := 0, slots := 0, locals := 21 }
def f_Ps_greatestOf_l3 (x0 : Int32) (x1 : Int32) : Option ((Int32) ⊕ ((Unit) ⊕ (Int32))) :=
  if x1 < 0 then (
    some (.inr (.inl ())))
  else (
    if (f_Ps_has x0 x1) = 0 then (
      zlet (x1 + (-1)) fun y_4 =>
      some (.inl (y_4)))
    else (
      some (.inr (.inr (x1)))))
set_option maxRecDepth 100000 in
set_option maxHeartbeats 4000000 in
theorem k_Ps_greatestOf_l3 {p : Program} {l : Launch} {e : Env} {s : State} {m : MethodId} {args : Array Value} {below : List Frame} {meth : Method} {c : Code} {D : va_G} {cI cL : ClassId} {rr x0 x1 : Int32} (C : zC p s m args meth c b_Ps_greatestOf 2 R_Ps D vwCl [(cI, .int), (cL, .long)] (zA [] s.heap.size)) (hr : meth.sig.returnType = some .int) {z : (Int32) ⊕ ((Unit) ⊕ (Int32))} (hf : f_Ps_greatestOf_l3 x0 x1 = some z) (hK : zcase (fun q => ZV p l e rm_Ps_greatestOf s m args below meth c 2 D (some (.int rr)) [] [] [] 3 [(0, .int x0), (1, .int q)] []) (zcase (fun q => ZV p l e rm_Ps_greatestOf s m args below meth c 2 D (some (.int rr)) [] [] [] 23 [] []) (fun w => w = rr)) z) : ZV p l e rm_Ps_greatestOf s m args below meth c 2 D (some (.int rr)) [] [] [] 3 [(0, .int x0), (1, .int x1)] [] := by
  unfold f_Ps_greatestOf_l3 at hf
  refine z_iload_n C d_Ps_greatestOf_3 rfl 1 rfl ?_
  refine z_if_lt (tgt := 23) C d_Ps_greatestOf_4 (by decide) (fun c_1 => ?_) (fun c_1 => ?_)
  · have hf := zif_pos c_1 hf
    refine z_lv [] rfl ?_
    cases hf
    exact hK
  · have hf := zif_neg c_1 hf
    refine z_iload_n C d_Ps_greatestOf_7 rfl 0 rfl ?_
    refine z_iload_n C d_Ps_greatestOf_8 rfl 1 rfl ?_
    refine z_callS (As := [.int x0, .int x1]) (rest := []) (ws' := []) C (c_Ps_has rfl) mi_Ps_has zw_204 (by decide) [] (by decide) rfl rfl rfl rfl rfl (by decide) ⟨Nat.zero_le _, Nat.zero_le _⟩ d_Ps_greatestOf_9 ?_
    refine z_if_eq (tgt := 17) C d_Ps_greatestOf_12 (by decide) (fun c_3 => ?_) (fun c_3 => ?_)
    · have hf := zif_pos c_3 hf
      obtain ⟨y_4, ey_4⟩ : ∃ y : Int32, y = x1 + (-1) := ⟨_, rfl⟩
      have hf := zlet_at ey_4 hf
      refine z_iinc (v := y_4) (lv' := [(1, .int y_4), (0, .int x0)]) C d_Ps_greatestOf_17 (k := 1) rfl (by rw [ey_4]; rfl) (by decide) rfl ?_
      refine z_goto (tgt := 3) C d_Ps_greatestOf_20 (by decide) ?_
      refine z_lv [1, 0] rfl ?_
      cases hf
      exact hK
    · have hf := zif_neg c_3 hf
      refine z_iload_n C d_Ps_greatestOf_15 rfl 1 rfl ?_
      cases hf
      have hK : x1 = rr := hK
      cases hK
      exact z_iret C hr d_Ps_greatestOf_16
theorem k_Ps_greatestOf_l3_run {p : Program} {l : Launch} {e : Env} {s : State} {m : MethodId} {args : Array Value} {below : List Frame} {meth : Method} {c : Code} {D : va_G} {cI cL : ClassId} {rr x0 x1 : Int32} (C : zC p s m args meth c b_Ps_greatestOf 2 R_Ps D vwCl [(cI, .int), (cL, .long)] (zA [] s.heap.size)) (hr : meth.sig.returnType = some .int)  (hf : zloop (fun q => f_Ps_greatestOf_l3 x0 q) zF (x1) = some (.inl ())) (hK : ZV p l e rm_Ps_greatestOf s m args below meth c 2 D (some (.int rr)) [] [] [] 23 [] []) : ZV p l e rm_Ps_greatestOf s m args below meth c 2 D (some (.int rr)) [] [] [] 3 [(0, .int x0), (1, .int x1)] [] :=
  zloop_run (P := fun q => ZV p l e rm_Ps_greatestOf s m args below meth c 2 D (some (.int rr)) [] [] [] 3 [(0, .int x0), (1, .int q)] []) (K := (zcase (fun q => ZV p l e rm_Ps_greatestOf s m args below meth c 2 D (some (.int rr)) [] [] [] 23 [] []) (fun w => w = rr))) (fun q z hz hK => k_Ps_greatestOf_l3 C hr hz hK) zF _ ((.inl ())) hf hK
theorem k_Ps_greatestOf_l3_runR {p : Program} {l : Launch} {e : Env} {s : State} {m : MethodId} {args : Array Value} {below : List Frame} {meth : Method} {c : Code} {D : va_G} {cI cL : ClassId} {rr x0 x1 : Int32} (C : zC p s m args meth c b_Ps_greatestOf 2 R_Ps D vwCl [(cI, .int), (cL, .long)] (zA [] s.heap.size)) (hr : meth.sig.returnType = some .int) (hf : zloop (fun q => f_Ps_greatestOf_l3 x0 q) zF (x1) = some (.inr rr)) : ZV p l e rm_Ps_greatestOf s m args below meth c 2 D (some (.int rr)) [] [] [] 3 [(0, .int x0), (1, .int x1)] [] :=
  zloop_run (P := fun q => ZV p l e rm_Ps_greatestOf s m args below meth c 2 D (some (.int rr)) [] [] [] 3 [(0, .int x0), (1, .int q)] []) (K := (zcase (fun q => ZV p l e rm_Ps_greatestOf s m args below meth c 2 D (some (.int rr)) [] [] [] 23 [] []) (fun w => w = rr))) (fun q z hz hK => k_Ps_greatestOf_l3 C hr hz hK) zF _ (.inr rr) hf rfl
/-- PathSums.greatestOf(I)I -/
def f_Ps_greatestOf (x0 : Int32) : Option (Int32) :=
  zr0 (zloop (fun q => f_Ps_greatestOf_l3 x0 q) zF ((23 : Int32))) fun  =>
  some (-1 : Int32)
set_option maxRecDepth 100000 in
set_option maxHeartbeats 4000000 in
theorem k_Ps_greatestOf {p : Program} {l : Launch} {e : Env} {s : State} {m : MethodId} {args : Array Value} {below : List Frame} {meth : Method} {c : Code} {D : va_G} {cI cL : ClassId} {rr x0 : Int32} (C : zC p s m args meth c b_Ps_greatestOf 2 R_Ps D vwCl [(cI, .int), (cL, .long)] (zA [] s.heap.size)) (hr : meth.sig.returnType = some .int) (hf : f_Ps_greatestOf x0 = some rr) : ZV p l e rm_Ps_greatestOf s m args below meth c 2 D (some (.int rr)) [] [] [] 0 [(0, .int x0)] [] := by
  unfold f_Ps_greatestOf at hf
  refine z_bipush (v := 23) C d_Ps_greatestOf_0 (by decide) ?_
  refine z_istore_n (lv' := [(1, .int (23 : Int32)), (0, .int x0)]) C d_Ps_greatestOf_2 rfl (by decide) rfl ?_
  refine z_lv [1, 0] rfl ?_
  rcases zr0_elim hf with ⟨, h_1, hf⟩ | h_1
  rotate_left
  · exact k_Ps_greatestOf_l3_runR C hr h_1
  refine k_Ps_greatestOf_l3_run C hr h_1 ?_
  refine z_iconst (v := -1) C d_Ps_greatestOf_23 (by decide) ?_
  cases hf
  exact z_iret C hr d_Ps_greatestOf_24
theorem c_Ps_greatestOf {l : Launch} {D : va_G} {cI cL : ClassId} {rr x0 : Int32} (hf : f_Ps_greatestOf x0 = some rr) : zM l y_Ps_greatestOf (Cond.code y_Ps_greatestOf b_Ps_greatestOf 2 (some .int) :: zT) rm_Ps_greatestOf D vwCl [(cI, .int), (cL, .long)] [.int x0] [] [] (some (.int rr)) :=
  zM.intro (by decide) rfl (fun _ h => List.mem_cons_of_mem _ h) (Nat.le_of_ble_eq_true rfl) (fun _ _ _ _ _ _ _ C hr _ => k_Ps_greatestOf C hr hf)
def rm_Ps_becomeEmpty : Room := { frames := 2, cells := 0, slots := 0, locals := 43 }
def f_Ps_becomeEmpty_l2 (v_bitsThere : Int32) (v_inputBits : Int32) (v_rootsBelow : Int32) (v_empty : Int32) (v_polynomial_monomials : Int32) (v_polynomial_numbers : Nat → Int32) (x1 : Int32) (v_values : Nat → Int32) : Option ((Int32 × (Nat → Int32)) ⊕ ((Nat → Int32))) :=
  if (6 : Int32) ≤ x1 then (
    some (.inr (v_values)))
  else (
    if x1 < 0 ∨ 6 ≤ x1.toNatClampNeg then none else
    if x1 < 0 ∨ 6 ≤ x1.toNatClampNeg then none else
    zlet (upd v_values x1.toNatClampNeg ((v_values x1.toNatClampNeg) &&& (v_inputBits ||| (16777216 : Int32)))) fun u_4 =>
    zlet (x1 + 1) fun y_5 =>
    some (.inl (y_5, u_4)))
set_option maxRecDepth 100000 in
set_option maxHeartbeats 4000000 in
theorem k_Ps_becomeEmpty_l2 {p : Program} {l : Launch} {e : Env} {s : State} {m : MethodId} {args : Array Value} {below : List Frame} {meth : Method} {c : Code} {D : va_G} {cI cL : ClassId} {h_this h_this_values h_this_polynomial h_this_doneRules h_this_ways h_this_root h_this_polynomial_numbers : Nat} {v_wireCount v_bitsCame v_bitsThere v_inputBits v_rootsBelow v_begunOpen v_empty v_polynomial_monomials o_bitsThere o_rootsBelow o_empty o_polynomial_monomials x1 : Int32} {v_values v_polynomial_numbers o_values o_polynomial_numbers : Nat → Int32} (C : zC p s m args meth c b_Ps_becomeEmpty 2 R_Ps D vwCl [(cI, .int), (cL, .long)] (zA [h_this, h_this_values, h_this_polynomial, h_this_polynomial_numbers] s.heap.size)) (hr : meth.sig.returnType = none) {z : (Int32 × (Nat → Int32)) ⊕ ((Nat → Int32))} (hf : f_Ps_becomeEmpty_l2 v_bitsThere v_inputBits v_rootsBelow v_empty v_polynomial_monomials v_polynomial_numbers x1 v_values = some z) (hK : zcase (fun q => ZV p l e rm_Ps_becomeEmpty s m args below meth c 2 D (none) [(h_this, .inr (4, [.ref h_this_values, .ref h_this_polynomial, .ref h_this_doneRules, .ref h_this_ways, .ref h_this_root, .int v_wireCount, .int v_bitsCame, .int o_bitsThere, .int v_inputBits, .int o_rootsBelow, .int v_begunOpen, .int o_empty])), (h_this_values, .inl (cI, 6, .inl o_values)), (h_this_polynomial, .inr (1, [.ref h_this_polynomial_numbers, .int o_polynomial_monomials])), (h_this_polynomial_numbers, .inl (cI, 2325, .inl o_polynomial_numbers))] [h_this, h_this_values, h_this_polynomial, h_this_polynomial_numbers] [(h_this, .inr (4, [.ref h_this_values, .ref h_this_polynomial, .ref h_this_doneRules, .ref h_this_ways, .ref h_this_root, .int v_wireCount, .int v_bitsCame, .int v_bitsThere, .int v_inputBits, .int v_rootsBelow, .int v_begunOpen, .int v_empty])), (h_this_values, .inl (cI, 6, .inl q.2)), (h_this_polynomial, .inr (1, [.ref h_this_polynomial_numbers, .int v_polynomial_monomials])), (h_this_polynomial_numbers, .inl (cI, 2325, .inl v_polynomial_numbers))] 2 [(0, .ref h_this), (1, .int q.1)] []) (fun q => ZV p l e rm_Ps_becomeEmpty s m args below meth c 2 D (none) [(h_this, .inr (4, [.ref h_this_values, .ref h_this_polynomial, .ref h_this_doneRules, .ref h_this_ways, .ref h_this_root, .int v_wireCount, .int v_bitsCame, .int o_bitsThere, .int v_inputBits, .int o_rootsBelow, .int v_begunOpen, .int o_empty])), (h_this_values, .inl (cI, 6, .inl o_values)), (h_this_polynomial, .inr (1, [.ref h_this_polynomial_numbers, .int o_polynomial_monomials])), (h_this_polynomial_numbers, .inl (cI, 2325, .inl o_polynomial_numbers))] [h_this, h_this_values, h_this_polynomial, h_this_polynomial_numbers] [(h_this, .inr (4, [.ref h_this_values, .ref h_this_polynomial, .ref h_this_doneRules, .ref h_this_ways, .ref h_this_root, .int v_wireCount, .int v_bitsCame, .int v_bitsThere, .int v_inputBits, .int v_rootsBelow, .int v_begunOpen, .int v_empty])), (h_this_values, .inl (cI, 6, .inl q)), (h_this_polynomial, .inr (1, [.ref h_this_polynomial_numbers, .int v_polynomial_monomials])), (h_this_polynomial_numbers, .inl (cI, 2325, .inl v_polynomial_numbers))] 30 [(0, .ref h_this)] []) z) : ZV p l e rm_Ps_becomeEmpty s m args below meth c 2 D (none) [(h_this, .inr (4, [.ref h_this_values, .ref h_this_polynomial, .ref h_this_doneRules, .ref h_this_ways, .ref h_this_root, .int v_wireCount, .int v_bitsCame, .int o_bitsThere, .int v_inputBits, .int o_rootsBelow, .int v_begunOpen, .int o_empty])), (h_this_values, .inl (cI, 6, .inl o_values)), (h_this_polynomial, .inr (1, [.ref h_this_polynomial_numbers, .int o_polynomial_monomials])), (h_this_polynomial_numbers, .inl (cI, 2325, .inl o_polynomial_numbers))] [h_this, h_this_values, h_this_polynomial, h_this_polynomial_numbers] [(h_this, .inr (4, [.ref h_this_values, .ref h_this_polynomial, .ref h_this_doneRules, .ref h_this_ways, .ref h_this_root, .int v_wireCount, .int v_bitsCame, .int v_bitsThere, .int v_inputBits, .int v_rootsBelow, .int v_begunOpen, .int v_empty])), (h_this_values, .inl (cI, 6, .inl v_values)), (h_this_polynomial, .inr (1, [.ref h_this_polynomial_numbers, .int v_polynomial_monomials])), (h_this_polynomial_numbers, .inl (cI, 2325, .inl v_polynomial_numbers))] 2 [(0, .ref h_this), (1, .int x1)] [] := by
  unfold f_Ps_becomeEmpty_l2 at hf
  refine z_iload_n C d_Ps_becomeEmpty_2 rfl 1 rfl ?_
  refine z_bipush (v := 6) C d_Ps_becomeEmpty_3 (by decide) ?_
  refine z_icmp_ge (tgt := 30) C d_Ps_becomeEmpty_5 (by decide) (fun c_1 => ?_) (fun c_1 => ?_)
  · have hf := zif_pos c_1 hf
    refine z_lv [0] rfl ?_
    cases hf
    exact hK
  · have hf := zif_neg c_1 hf
    refine z_aload_n C d_Ps_becomeEmpty_8 rfl 0 rfl ?_
    refine z_get C iw_Ps 0 rfl rfl 0 (by decide) zw_160 rfl d_Ps_becomeEmpty_9 ?_
    refine z_iload_n C d_Ps_becomeEmpty_12 rfl 1 rfl ?_
    refine z_dup2_11 C d_Ps_becomeEmpty_13 rfl rfl ?_
    obtain ⟨g_2, hf⟩ := zguard hf
    refine z_iald C 1 0 rfl rfl g_2 d_Ps_becomeEmpty_14 ?_
    refine z_aload_n C d_Ps_becomeEmpty_15 rfl 0 rfl ?_
    refine z_get C iw_Ps 0 rfl rfl 8 (by decide) zw_168 rfl d_Ps_becomeEmpty_16 ?_
    refine z_ldc (v := 16777216) C zw_207 d_Ps_becomeEmpty_19 ?_
    refine z_ior C d_Ps_becomeEmpty_21 ?_
    refine z_iand C d_Ps_becomeEmpty_22 ?_
    obtain ⟨g_3, hf⟩ := zguard hf
    obtain ⟨u_4, eu_4⟩ : ∃ u : Nat → Int32, u = upd v_values x1.toNatClampNeg ((v_values x1.toNatClampNeg) &&& (v_inputBits ||| (16777216 : Int32))) := ⟨_, rfl⟩
    have hf := zlet_at eu_4 hf
    refine z_iast (ws' := [(h_this, .inr (4, [.ref h_this_values, .ref h_this_polynomial, .ref h_this_doneRules, .ref h_this_ways, .ref h_this_root, .int v_wireCount, .int v_bitsCame, .int v_bitsThere, .int v_inputBits, .int v_rootsBelow, .int v_begunOpen, .int v_empty])), (h_this_values, .inl (cI, 6, .inl u_4)), (h_this_polynomial, .inr (1, [.ref h_this_polynomial_numbers, .int v_polynomial_monomials])), (h_this_polynomial_numbers, .inl (cI, 2325, .inl v_polynomial_numbers))]) C 1 0 rfl rfl g_3 d_Ps_becomeEmpty_23 (by rw [eu_4]; rfl) ?_
    obtain ⟨y_5, ey_5⟩ : ∃ y : Int32, y = x1 + 1 := ⟨_, rfl⟩
    have hf := zlet_at ey_5 hf
    refine z_iinc (v := y_5) (lv' := [(1, .int y_5), (0, .ref h_this)]) C d_Ps_becomeEmpty_24 (k := 1) rfl (by rw [ey_5]; rfl) (by decide) rfl ?_
    refine z_goto (tgt := 2) C d_Ps_becomeEmpty_27 (by decide) ?_
    refine z_lv [1, 0] rfl ?_
    cases hf
    exact hK
theorem k_Ps_becomeEmpty_l2_run {p : Program} {l : Launch} {e : Env} {s : State} {m : MethodId} {args : Array Value} {below : List Frame} {meth : Method} {c : Code} {D : va_G} {cI cL : ClassId} {h_this h_this_values h_this_polynomial h_this_doneRules h_this_ways h_this_root h_this_polynomial_numbers : Nat} {v_wireCount v_bitsCame v_bitsThere v_inputBits v_rootsBelow v_begunOpen v_empty v_polynomial_monomials o_bitsThere o_rootsBelow o_empty o_polynomial_monomials x1 : Int32} {v_values v_polynomial_numbers o_values o_polynomial_numbers : Nat → Int32} (C : zC p s m args meth c b_Ps_becomeEmpty 2 R_Ps D vwCl [(cI, .int), (cL, .long)] (zA [h_this, h_this_values, h_this_polynomial, h_this_polynomial_numbers] s.heap.size)) (hr : meth.sig.returnType = none) {o0 : Nat → Int32} (hf : zloop (fun q => f_Ps_becomeEmpty_l2 v_bitsThere v_inputBits v_rootsBelow v_empty v_polynomial_monomials v_polynomial_numbers q.1 q.2) zF (x1, v_values) = some o0) (hK : ZV p l e rm_Ps_becomeEmpty s m args below meth c 2 D (none) [(h_this, .inr (4, [.ref h_this_values, .ref h_this_polynomial, .ref h_this_doneRules, .ref h_this_ways, .ref h_this_root, .int v_wireCount, .int v_bitsCame, .int o_bitsThere, .int v_inputBits, .int o_rootsBelow, .int v_begunOpen, .int o_empty])), (h_this_values, .inl (cI, 6, .inl o_values)), (h_this_polynomial, .inr (1, [.ref h_this_polynomial_numbers, .int o_polynomial_monomials])), (h_this_polynomial_numbers, .inl (cI, 2325, .inl o_polynomial_numbers))] [h_this, h_this_values, h_this_polynomial, h_this_polynomial_numbers] [(h_this, .inr (4, [.ref h_this_values, .ref h_this_polynomial, .ref h_this_doneRules, .ref h_this_ways, .ref h_this_root, .int v_wireCount, .int v_bitsCame, .int v_bitsThere, .int v_inputBits, .int v_rootsBelow, .int v_begunOpen, .int v_empty])), (h_this_values, .inl (cI, 6, .inl o0)), (h_this_polynomial, .inr (1, [.ref h_this_polynomial_numbers, .int v_polynomial_monomials])), (h_this_polynomial_numbers, .inl (cI, 2325, .inl v_polynomial_numbers))] 30 [(0, .ref h_this)] []) : ZV p l e rm_Ps_becomeEmpty s m args below meth c 2 D (none) [(h_this, .inr (4, [.ref h_this_values, .ref h_this_polynomial, .ref h_this_doneRules, .ref h_this_ways, .ref h_this_root, .int v_wireCount, .int v_bitsCame, .int o_bitsThere, .int v_inputBits, .int o_rootsBelow, .int v_begunOpen, .int o_empty])), (h_this_values, .inl (cI, 6, .inl o_values)), (h_this_polynomial, .inr (1, [.ref h_this_polynomial_numbers, .int o_polynomial_monomials])), (h_this_polynomial_numbers, .inl (cI, 2325, .inl o_polynomial_numbers))] [h_this, h_this_values, h_this_polynomial, h_this_polynomial_numbers] [(h_this, .inr (4, [.ref h_this_values, .ref h_this_polynomial, .ref h_this_doneRules, .ref h_this_ways, .ref h_this_root, .int v_wireCount, .int v_bitsCame, .int v_bitsThere, .int v_inputBits, .int v_rootsBelow, .int v_begunOpen, .int v_empty])), (h_this_values, .inl (cI, 6, .inl v_values)), (h_this_polynomial, .inr (1, [.ref h_this_polynomial_numbers, .int v_polynomial_monomials])), (h_this_polynomial_numbers, .inl (cI, 2325, .inl v_polynomial_numbers))] 2 [(0, .ref h_this), (1, .int x1)] [] :=
  zloop_run (P := fun q => ZV p l e rm_Ps_becomeEmpty s m args below meth c 2 D (none) [(h_this, .inr (4, [.ref h_this_values, .ref h_this_polynomial, .ref h_this_doneRules, .ref h_this_ways, .ref h_this_root, .int v_wireCount, .int v_bitsCame, .int o_bitsThere, .int v_inputBits, .int o_rootsBelow, .int v_begunOpen, .int o_empty])), (h_this_values, .inl (cI, 6, .inl o_values)), (h_this_polynomial, .inr (1, [.ref h_this_polynomial_numbers, .int o_polynomial_monomials])), (h_this_polynomial_numbers, .inl (cI, 2325, .inl o_polynomial_numbers))] [h_this, h_this_values, h_this_polynomial, h_this_polynomial_numbers] [(h_this, .inr (4, [.ref h_this_values, .ref h_this_polynomial, .ref h_this_doneRules, .ref h_this_ways, .ref h_this_root, .int v_wireCount, .int v_bitsCame, .int v_bitsThere, .int v_inputBits, .int v_rootsBelow, .int v_begunOpen, .int v_empty])), (h_this_values, .inl (cI, 6, .inl q.2)), (h_this_polynomial, .inr (1, [.ref h_this_polynomial_numbers, .int v_polynomial_monomials])), (h_this_polynomial_numbers, .inl (cI, 2325, .inl v_polynomial_numbers))] 2 [(0, .ref h_this), (1, .int q.1)] []) (K := (fun q => ZV p l e rm_Ps_becomeEmpty s m args below meth c 2 D (none) [(h_this, .inr (4, [.ref h_this_values, .ref h_this_polynomial, .ref h_this_doneRules, .ref h_this_ways, .ref h_this_root, .int v_wireCount, .int v_bitsCame, .int o_bitsThere, .int v_inputBits, .int o_rootsBelow, .int v_begunOpen, .int o_empty])), (h_this_values, .inl (cI, 6, .inl o_values)), (h_this_polynomial, .inr (1, [.ref h_this_polynomial_numbers, .int o_polynomial_monomials])), (h_this_polynomial_numbers, .inl (cI, 2325, .inl o_polynomial_numbers))] [h_this, h_this_values, h_this_polynomial, h_this_polynomial_numbers] [(h_this, .inr (4, [.ref h_this_values, .ref h_this_polynomial, .ref h_this_doneRules, .ref h_this_ways, .ref h_this_root, .int v_wireCount, .int v_bitsCame, .int v_bitsThere, .int v_inputBits, .int v_rootsBelow, .int v_begunOpen, .int v_empty])), (h_this_values, .inl (cI, 6, .inl q)), (h_this_polynomial, .inr (1, [.ref h_this_polynomial_numbers, .int v_polynomial_monomials])), (h_this_polynomial_numbers, .inl (cI, 2325, .inl v_polynomial_numbers))] 30 [(0, .ref h_this)] [])) (fun q z hz hK => k_Ps_becomeEmpty_l2 C hr hz hK) zF _ (o0) hf hK
/-- PathSums.becomeEmpty()V -/
def f_Ps_becomeEmpty (v_bitsThere : Int32) (v_inputBits : Int32) (v_rootsBelow : Int32) (v_empty : Int32) (v_values : Nat → Int32) (v_polynomial_monomials : Int32) (v_polynomial_numbers : Nat → Int32) : Option (Int32 × Int32 × Int32 × (Nat → Int32) × Int32 × (Nat → Int32)) :=
  zb1 (zloop (fun q => f_Ps_becomeEmpty_l2 v_bitsThere v_inputBits v_rootsBelow v_empty v_polynomial_monomials v_polynomial_numbers q.1 q.2) zF ((0 : Int32), v_values)) fun q_1 =>
  zb2 (f_Po_clear v_polynomial_monomials v_polynomial_numbers) fun q_4 q_5 =>
  some (v_inputBits, (0 : Int32), (1 : Int32), q_1, q_4, q_5)
set_option maxRecDepth 100000 in
set_option maxHeartbeats 4000000 in
theorem k_Ps_becomeEmpty {p : Program} {l : Launch} {e : Env} {s : State} {m : MethodId} {args : Array Value} {below : List Frame} {meth : Method} {c : Code} {D : va_G} {cI cL : ClassId} {h_this h_this_values h_this_polynomial h_this_doneRules h_this_ways h_this_root h_this_polynomial_numbers : Nat} {v_wireCount v_bitsCame v_bitsThere v_inputBits v_rootsBelow v_begunOpen v_empty v_polynomial_monomials o_bitsThere o_rootsBelow o_empty o_polynomial_monomials : Int32} {v_values v_polynomial_numbers o_values o_polynomial_numbers : Nat → Int32} (C : zC p s m args meth c b_Ps_becomeEmpty 2 R_Ps D vwCl [(cI, .int), (cL, .long)] (zA [h_this, h_this_values, h_this_polynomial, h_this_polynomial_numbers] s.heap.size)) (hr : meth.sig.returnType = none) (hf : f_Ps_becomeEmpty v_bitsThere v_inputBits v_rootsBelow v_empty v_values v_polynomial_monomials v_polynomial_numbers = some (o_bitsThere, o_rootsBelow, o_empty, o_values, o_polynomial_monomials, o_polynomial_numbers)) : ZV p l e rm_Ps_becomeEmpty s m args below meth c 2 D (none) [(h_this, .inr (4, [.ref h_this_values, .ref h_this_polynomial, .ref h_this_doneRules, .ref h_this_ways, .ref h_this_root, .int v_wireCount, .int v_bitsCame, .int o_bitsThere, .int v_inputBits, .int o_rootsBelow, .int v_begunOpen, .int o_empty])), (h_this_values, .inl (cI, 6, .inl o_values)), (h_this_polynomial, .inr (1, [.ref h_this_polynomial_numbers, .int o_polynomial_monomials])), (h_this_polynomial_numbers, .inl (cI, 2325, .inl o_polynomial_numbers))] [h_this, h_this_values, h_this_polynomial, h_this_polynomial_numbers] [(h_this, .inr (4, [.ref h_this_values, .ref h_this_polynomial, .ref h_this_doneRules, .ref h_this_ways, .ref h_this_root, .int v_wireCount, .int v_bitsCame, .int v_bitsThere, .int v_inputBits, .int v_rootsBelow, .int v_begunOpen, .int v_empty])), (h_this_values, .inl (cI, 6, .inl v_values)), (h_this_polynomial, .inr (1, [.ref h_this_polynomial_numbers, .int v_polynomial_monomials])), (h_this_polynomial_numbers, .inl (cI, 2325, .inl v_polynomial_numbers))] 0 [(0, .ref h_this)] [] := by
  unfold f_Ps_becomeEmpty at hf
  refine z_iconst (v := 0) C d_Ps_becomeEmpty_0 (by decide) ?_
  refine z_istore_n (lv' := [(1, .int (0 : Int32)), (0, .ref h_this)]) C d_Ps_becomeEmpty_1 rfl (by decide) rfl ?_
  refine z_lv [1, 0] rfl ?_
  obtain ⟨q_1, h_2, hf⟩ := zb1_elim hf
  refine k_Ps_becomeEmpty_l2_run C hr h_2 ?_
  refine z_aload_n C d_Ps_becomeEmpty_30 rfl 0 rfl ?_
  refine z_get C iw_Ps 0 rfl rfl 1 (by decide) zw_161 rfl d_Ps_becomeEmpty_31 ?_
  obtain ⟨q_4, q_5, h_3, hf⟩ := zb2_elim hf
  refine z_callV (As := []) (rest := []) (ws' := [(h_this, .inr (4, [.ref h_this_values, .ref h_this_polynomial, .ref h_this_doneRules, .ref h_this_ways, .ref h_this_root, .int v_wireCount, .int v_bitsCame, .int v_bitsThere, .int v_inputBits, .int v_rootsBelow, .int v_begunOpen, .int v_empty])), (h_this_values, .inl (cI, 6, .inl q_1)), (h_this_polynomial, .inr (1, [.ref h_this_polynomial_numbers, .int q_4])), (h_this_polynomial_numbers, .inl (cI, 2325, .inl q_5))]) C (c_Po_clear h_3) mi_Po_clear zw_155 (by decide) 0 rfl rfl [2, 3] (by decide) rfl rfl rfl rfl rfl (by decide) ⟨Nat.zero_le _, Nat.zero_le _⟩ d_Ps_becomeEmpty_34 ?_
  refine z_aload_n C d_Ps_becomeEmpty_37 rfl 0 rfl ?_
  refine z_aload_n C d_Ps_becomeEmpty_38 rfl 0 rfl ?_
  refine z_get C iw_Ps 0 rfl rfl 8 (by decide) zw_168 rfl d_Ps_becomeEmpty_39 ?_
  refine z_put (ws' := [(h_this, .inr (4, [.ref h_this_values, .ref h_this_polynomial, .ref h_this_doneRules, .ref h_this_ways, .ref h_this_root, .int v_wireCount, .int v_bitsCame, .int v_inputBits, .int v_inputBits, .int v_rootsBelow, .int v_begunOpen, .int v_empty])), (h_this_values, .inl (cI, 6, .inl q_1)), (h_this_polynomial, .inr (1, [.ref h_this_polynomial_numbers, .int q_4])), (h_this_polynomial_numbers, .inl (cI, 2325, .inl q_5))]) C iw_Ps t_Ps t_Ps_ok n_Ps 0 rfl rfl 7 (by decide) zw_167 rfl (ty := .int) rfl rfl rfl (by simp) d_Ps_becomeEmpty_42 rfl ?_
  refine z_aload_n C d_Ps_becomeEmpty_45 rfl 0 rfl ?_
  refine z_iconst (v := 0) C d_Ps_becomeEmpty_46 (by decide) ?_
  refine z_put (ws' := [(h_this, .inr (4, [.ref h_this_values, .ref h_this_polynomial, .ref h_this_doneRules, .ref h_this_ways, .ref h_this_root, .int v_wireCount, .int v_bitsCame, .int v_inputBits, .int v_inputBits, .int (0 : Int32), .int v_begunOpen, .int v_empty])), (h_this_values, .inl (cI, 6, .inl q_1)), (h_this_polynomial, .inr (1, [.ref h_this_polynomial_numbers, .int q_4])), (h_this_polynomial_numbers, .inl (cI, 2325, .inl q_5))]) C iw_Ps t_Ps t_Ps_ok n_Ps 0 rfl rfl 9 (by decide) zw_169 rfl (ty := .int) rfl rfl rfl (by simp) d_Ps_becomeEmpty_47 rfl ?_
  refine z_aload_n C d_Ps_becomeEmpty_50 rfl 0 rfl ?_
  refine z_iconst (v := 1) C d_Ps_becomeEmpty_51 (by decide) ?_
  refine z_put (ws' := [(h_this, .inr (4, [.ref h_this_values, .ref h_this_polynomial, .ref h_this_doneRules, .ref h_this_ways, .ref h_this_root, .int v_wireCount, .int v_bitsCame, .int v_inputBits, .int v_inputBits, .int (0 : Int32), .int v_begunOpen, .int (1 : Int32)])), (h_this_values, .inl (cI, 6, .inl q_1)), (h_this_polynomial, .inr (1, [.ref h_this_polynomial_numbers, .int q_4])), (h_this_polynomial_numbers, .inl (cI, 2325, .inl q_5))]) C iw_Ps t_Ps t_Ps_ok n_Ps 0 rfl rfl 11 (by decide) zw_171 rfl (ty := .boolean) rfl rfl rfl (by simp) d_Ps_becomeEmpty_52 rfl ?_
  cases hf
  exact z_vret C hr d_Ps_becomeEmpty_55
theorem c_Ps_becomeEmpty {l : Launch} {D : va_G} {cI cL : ClassId} {h_this h_this_values h_this_polynomial h_this_doneRules h_this_ways h_this_root h_this_polynomial_numbers : Nat} {v_wireCount v_bitsCame v_bitsThere v_inputBits v_rootsBelow v_begunOpen v_empty v_polynomial_monomials o_bitsThere o_rootsBelow o_empty o_polynomial_monomials : Int32} {v_values v_polynomial_numbers o_values o_polynomial_numbers : Nat → Int32} (hf : f_Ps_becomeEmpty v_bitsThere v_inputBits v_rootsBelow v_empty v_values v_polynomial_monomials v_polynomial_numbers = some (o_bitsThere, o_rootsBelow, o_empty, o_values, o_polynomial_monomials, o_polynomial_numbers)) : zM l y_Ps_becomeEmpty (Cond.code y_Ps_becomeEmpty b_Ps_becomeEmpty 2 none :: zT) rm_Ps_becomeEmpty D vwCl [(cI, .int), (cL, .long)] [.ref h_this] [(h_this, .inr (4, [.ref h_this_values, .ref h_this_polynomial, .ref h_this_doneRules, .ref h_this_ways, .ref h_this_root, .int v_wireCount, .int v_bitsCame, .int v_bitsThere, .int v_inputBits, .int v_rootsBelow, .int v_begunOpen, .int v_empty])), (h_this_values, .inl (cI, 6, .inl v_values)), (h_this_polynomial, .inr (1, [.ref h_this_polynomial_numbers, .int v_polynomial_monomials])), (h_this_polynomial_numbers, .inl (cI, 2325, .inl v_polynomial_numbers))] [(h_this, .inr (4, [.ref h_this_values, .ref h_this_polynomial, .ref h_this_doneRules, .ref h_this_ways, .ref h_this_root, .int v_wireCount, .int v_bitsCame, .int o_bitsThere, .int v_inputBits, .int o_rootsBelow, .int v_begunOpen, .int o_empty])), (h_this_values, .inl (cI, 6, .inl o_values)), (h_this_polynomial, .inr (1, [.ref h_this_polynomial_numbers, .int o_polynomial_monomials])), (h_this_polynomial_numbers, .inl (cI, 2325, .inl o_polynomial_numbers))] (none) :=
  zM.intro (by decide) rfl (fun _ h => List.mem_cons_of_mem _ h) (Nat.le_of_ble_eq_true rfl) (fun _ _ _ _ _ _ _ C hr _ => k_Ps_becomeEmpty C hr hf)
def rm_Ps_replaceInValues : Room := { frames := 1, cells := 0, slots := 0, locals := 21 }
def f_Ps_replaceInValues_l2 (x1 : Int32) (x2 : Int32) (x3 : Int32) (v_values : Nat → Int32) : Option ((Int32 × (Nat → Int32)) ⊕ ((Nat → Int32))) :=
  if (6 : Int32) ≤ x3 then (
    some (.inr (v_values)))
  else (
    if x3 < 0 ∨ 6 ≤ x3.toNatClampNeg then none else
    if (f_Ps_has (v_values x3.toNatClampNeg) x1) = 0 then (
      zlet (x3 + 1) fun y_5 =>
      some (.inl (y_5, v_values)))
    else (
      if x3 < 0 ∨ 6 ≤ x3.toNatClampNeg then none else
      if x3 < 0 ∨ 6 ≤ x3.toNatClampNeg then none else
      zlet (upd v_values x3.toNatClampNeg ((v_values x3.toNatClampNeg) ^^^ (((1 : Int32) <<< (x1 &&& 31)) ^^^ x2))) fun u_8 =>
      zlet (x3 + 1) fun y_9 =>
      some (.inl (y_9, u_8))))
set_option maxRecDepth 100000 in
set_option maxHeartbeats 4000000 in
theorem k_Ps_replaceInValues_l2 {p : Program} {l : Launch} {e : Env} {s : State} {m : MethodId} {args : Array Value} {below : List Frame} {meth : Method} {c : Code} {D : va_G} {cI cL : ClassId} {h_this h_this_values h_this_polynomial h_this_doneRules h_this_ways h_this_root : Nat} {v_wireCount v_bitsCame v_bitsThere v_inputBits v_rootsBelow v_begunOpen v_empty x1 x2 x3 : Int32} {v_values o_values : Nat → Int32} (C : zC p s m args meth c b_Ps_replaceInValues 4 R_Ps D vwCl [(cI, .int), (cL, .long)] (zA [h_this, h_this_values] s.heap.size)) (hr : meth.sig.returnType = none) {z : (Int32 × (Nat → Int32)) ⊕ ((Nat → Int32))} (hf : f_Ps_replaceInValues_l2 x1 x2 x3 v_values = some z) (hK : zcase (fun q => ZV p l e rm_Ps_replaceInValues s m args below meth c 4 D (none) [(h_this, .inr (4, [.ref h_this_values, .ref h_this_polynomial, .ref h_this_doneRules, .ref h_this_ways, .ref h_this_root, .int v_wireCount, .int v_bitsCame, .int v_bitsThere, .int v_inputBits, .int v_rootsBelow, .int v_begunOpen, .int v_empty])), (h_this_values, .inl (cI, 6, .inl o_values))] [h_this, h_this_values] [(h_this, .inr (4, [.ref h_this_values, .ref h_this_polynomial, .ref h_this_doneRules, .ref h_this_ways, .ref h_this_root, .int v_wireCount, .int v_bitsCame, .int v_bitsThere, .int v_inputBits, .int v_rootsBelow, .int v_begunOpen, .int v_empty])), (h_this_values, .inl (cI, 6, .inl q.2))] 2 [(0, .ref h_this), (1, .int x1), (2, .int x2), (3, .int q.1)] []) (fun q => ZV p l e rm_Ps_replaceInValues s m args below meth c 4 D (none) [(h_this, .inr (4, [.ref h_this_values, .ref h_this_polynomial, .ref h_this_doneRules, .ref h_this_ways, .ref h_this_root, .int v_wireCount, .int v_bitsCame, .int v_bitsThere, .int v_inputBits, .int v_rootsBelow, .int v_begunOpen, .int v_empty])), (h_this_values, .inl (cI, 6, .inl o_values))] [h_this, h_this_values] [(h_this, .inr (4, [.ref h_this_values, .ref h_this_polynomial, .ref h_this_doneRules, .ref h_this_ways, .ref h_this_root, .int v_wireCount, .int v_bitsCame, .int v_bitsThere, .int v_inputBits, .int v_rootsBelow, .int v_begunOpen, .int v_empty])), (h_this_values, .inl (cI, 6, .inl q))] 41 [] []) z) : ZV p l e rm_Ps_replaceInValues s m args below meth c 4 D (none) [(h_this, .inr (4, [.ref h_this_values, .ref h_this_polynomial, .ref h_this_doneRules, .ref h_this_ways, .ref h_this_root, .int v_wireCount, .int v_bitsCame, .int v_bitsThere, .int v_inputBits, .int v_rootsBelow, .int v_begunOpen, .int v_empty])), (h_this_values, .inl (cI, 6, .inl o_values))] [h_this, h_this_values] [(h_this, .inr (4, [.ref h_this_values, .ref h_this_polynomial, .ref h_this_doneRules, .ref h_this_ways, .ref h_this_root, .int v_wireCount, .int v_bitsCame, .int v_bitsThere, .int v_inputBits, .int v_rootsBelow, .int v_begunOpen, .int v_empty])), (h_this_values, .inl (cI, 6, .inl v_values))] 2 [(0, .ref h_this), (1, .int x1), (2, .int x2), (3, .int x3)] [] := by
  unfold f_Ps_replaceInValues_l2 at hf
  refine z_iload_n C d_Ps_replaceInValues_2 rfl 3 rfl ?_
  refine z_bipush (v := 6) C d_Ps_replaceInValues_3 (by decide) ?_
  refine z_icmp_ge (tgt := 41) C d_Ps_replaceInValues_5 (by decide) (fun c_1 => ?_) (fun c_1 => ?_)
  · have hf := zif_pos c_1 hf
    refine z_lv [] rfl ?_
    cases hf
    exact hK
  · have hf := zif_neg c_1 hf
    refine z_aload_n C d_Ps_replaceInValues_8 rfl 0 rfl ?_
    refine z_get C iw_Ps 0 rfl rfl 0 (by decide) zw_160 rfl d_Ps_replaceInValues_9 ?_
    refine z_iload_n C d_Ps_replaceInValues_12 rfl 3 rfl ?_
    obtain ⟨g_2, hf⟩ := zguard hf
    refine z_iald C 1 0 rfl rfl g_2 d_Ps_replaceInValues_13 ?_
    refine z_iload_n C d_Ps_replaceInValues_14 rfl 1 rfl ?_
    refine z_callS (As := [.int (v_values x3.toNatClampNeg), .int x1]) (rest := []) (ws' := [(h_this, .inr (4, [.ref h_this_values, .ref h_this_polynomial, .ref h_this_doneRules, .ref h_this_ways, .ref h_this_root, .int v_wireCount, .int v_bitsCame, .int v_bitsThere, .int v_inputBits, .int v_rootsBelow, .int v_begunOpen, .int v_empty])), (h_this_values, .inl (cI, 6, .inl v_values))]) C (c_Ps_has rfl) mi_Ps_has zw_204 (by decide) [] (by decide) rfl rfl rfl rfl rfl (by decide) ⟨Nat.zero_le _, Nat.zero_le _⟩ d_Ps_replaceInValues_15 ?_
    refine z_if_eq (tgt := 35) C d_Ps_replaceInValues_18 (by decide) (fun c_4 => ?_) (fun c_4 => ?_)
    · have hf := zif_pos c_4 hf
      obtain ⟨y_5, ey_5⟩ : ∃ y : Int32, y = x3 + 1 := ⟨_, rfl⟩
      have hf := zlet_at ey_5 hf
      refine z_iinc (v := y_5) (lv' := [(3, .int y_5), (0, .ref h_this), (1, .int x1), (2, .int x2)]) C d_Ps_replaceInValues_35 (k := 3) rfl (by rw [ey_5]; rfl) (by decide) rfl ?_
      refine z_goto (tgt := 2) C d_Ps_replaceInValues_38 (by decide) ?_
      refine z_lv [1, 2, 3, 0] rfl ?_
      cases hf
      exact hK
    · have hf := zif_neg c_4 hf
      refine z_aload_n C d_Ps_replaceInValues_21 rfl 0 rfl ?_
      refine z_get C iw_Ps 0 rfl rfl 0 (by decide) zw_160 rfl d_Ps_replaceInValues_22 ?_
      refine z_iload_n C d_Ps_replaceInValues_25 rfl 3 rfl ?_
      refine z_dup2_11 C d_Ps_replaceInValues_26 rfl rfl ?_
      obtain ⟨g_6, hf⟩ := zguard hf
      refine z_iald C 1 0 rfl rfl g_6 d_Ps_replaceInValues_27 ?_
      refine z_iconst (v := 1) C d_Ps_replaceInValues_28 (by decide) ?_
      refine z_iload_n C d_Ps_replaceInValues_29 rfl 1 rfl ?_
      refine z_ishl C d_Ps_replaceInValues_30 ?_
      refine z_iload_n C d_Ps_replaceInValues_31 rfl 2 rfl ?_
      refine z_ixor C d_Ps_replaceInValues_32 ?_
      refine z_ixor C d_Ps_replaceInValues_33 ?_
      obtain ⟨g_7, hf⟩ := zguard hf
      obtain ⟨u_8, eu_8⟩ : ∃ u : Nat → Int32, u = upd v_values x3.toNatClampNeg ((v_values x3.toNatClampNeg) ^^^ (((1 : Int32) <<< (x1 &&& 31)) ^^^ x2)) := ⟨_, rfl⟩
      have hf := zlet_at eu_8 hf
      refine z_iast (ws' := [(h_this, .inr (4, [.ref h_this_values, .ref h_this_polynomial, .ref h_this_doneRules, .ref h_this_ways, .ref h_this_root, .int v_wireCount, .int v_bitsCame, .int v_bitsThere, .int v_inputBits, .int v_rootsBelow, .int v_begunOpen, .int v_empty])), (h_this_values, .inl (cI, 6, .inl u_8))]) C 1 0 rfl rfl g_7 d_Ps_replaceInValues_34 (by rw [eu_8]; rfl) ?_
      obtain ⟨y_9, ey_9⟩ : ∃ y : Int32, y = x3 + 1 := ⟨_, rfl⟩
      have hf := zlet_at ey_9 hf
      refine z_iinc (v := y_9) (lv' := [(3, .int y_9), (0, .ref h_this), (1, .int x1), (2, .int x2)]) C d_Ps_replaceInValues_35 (k := 3) rfl (by rw [ey_9]; rfl) (by decide) rfl ?_
      refine z_goto (tgt := 2) C d_Ps_replaceInValues_38 (by decide) ?_
      refine z_lv [1, 2, 3, 0] rfl ?_
      cases hf
      exact hK
theorem k_Ps_replaceInValues_l2_run {p : Program} {l : Launch} {e : Env} {s : State} {m : MethodId} {args : Array Value} {below : List Frame} {meth : Method} {c : Code} {D : va_G} {cI cL : ClassId} {h_this h_this_values h_this_polynomial h_this_doneRules h_this_ways h_this_root : Nat} {v_wireCount v_bitsCame v_bitsThere v_inputBits v_rootsBelow v_begunOpen v_empty x1 x2 x3 : Int32} {v_values o_values : Nat → Int32} (C : zC p s m args meth c b_Ps_replaceInValues 4 R_Ps D vwCl [(cI, .int), (cL, .long)] (zA [h_this, h_this_values] s.heap.size)) (hr : meth.sig.returnType = none) {o0 : Nat → Int32} (hf : zloop (fun q => f_Ps_replaceInValues_l2 x1 x2 q.1 q.2) zF (x3, v_values) = some o0) (hK : ZV p l e rm_Ps_replaceInValues s m args below meth c 4 D (none) [(h_this, .inr (4, [.ref h_this_values, .ref h_this_polynomial, .ref h_this_doneRules, .ref h_this_ways, .ref h_this_root, .int v_wireCount, .int v_bitsCame, .int v_bitsThere, .int v_inputBits, .int v_rootsBelow, .int v_begunOpen, .int v_empty])), (h_this_values, .inl (cI, 6, .inl o_values))] [h_this, h_this_values] [(h_this, .inr (4, [.ref h_this_values, .ref h_this_polynomial, .ref h_this_doneRules, .ref h_this_ways, .ref h_this_root, .int v_wireCount, .int v_bitsCame, .int v_bitsThere, .int v_inputBits, .int v_rootsBelow, .int v_begunOpen, .int v_empty])), (h_this_values, .inl (cI, 6, .inl o0))] 41 [] []) : ZV p l e rm_Ps_replaceInValues s m args below meth c 4 D (none) [(h_this, .inr (4, [.ref h_this_values, .ref h_this_polynomial, .ref h_this_doneRules, .ref h_this_ways, .ref h_this_root, .int v_wireCount, .int v_bitsCame, .int v_bitsThere, .int v_inputBits, .int v_rootsBelow, .int v_begunOpen, .int v_empty])), (h_this_values, .inl (cI, 6, .inl o_values))] [h_this, h_this_values] [(h_this, .inr (4, [.ref h_this_values, .ref h_this_polynomial, .ref h_this_doneRules, .ref h_this_ways, .ref h_this_root, .int v_wireCount, .int v_bitsCame, .int v_bitsThere, .int v_inputBits, .int v_rootsBelow, .int v_begunOpen, .int v_empty])), (h_this_values, .inl (cI, 6, .inl v_values))] 2 [(0, .ref h_this), (1, .int x1), (2, .int x2), (3, .int x3)] [] :=
  zloop_run (P := fun q => ZV p l e rm_Ps_replaceInValues s m args below meth c 4 D (none) [(h_this, .inr (4, [.ref h_this_values, .ref h_this_polynomial, .ref h_this_doneRules, .ref h_this_ways, .ref h_this_root, .int v_wireCount, .int v_bitsCame, .int v_bitsThere, .int v_inputBits, .int v_rootsBelow, .int v_begunOpen, .int v_empty])), (h_this_values, .inl (cI, 6, .inl o_values))] [h_this, h_this_values] [(h_this, .inr (4, [.ref h_this_values, .ref h_this_polynomial, .ref h_this_doneRules, .ref h_this_ways, .ref h_this_root, .int v_wireCount, .int v_bitsCame, .int v_bitsThere, .int v_inputBits, .int v_rootsBelow, .int v_begunOpen, .int v_empty])), (h_this_values, .inl (cI, 6, .inl q.2))] 2 [(0, .ref h_this), (1, .int x1), (2, .int x2), (3, .int q.1)] []) (K := (fun q => ZV p l e rm_Ps_replaceInValues s m args below meth c 4 D (none) [(h_this, .inr (4, [.ref h_this_values, .ref h_this_polynomial, .ref h_this_doneRules, .ref h_this_ways, .ref h_this_root, .int v_wireCount, .int v_bitsCame, .int v_bitsThere, .int v_inputBits, .int v_rootsBelow, .int v_begunOpen, .int v_empty])), (h_this_values, .inl (cI, 6, .inl o_values))] [h_this, h_this_values] [(h_this, .inr (4, [.ref h_this_values, .ref h_this_polynomial, .ref h_this_doneRules, .ref h_this_ways, .ref h_this_root, .int v_wireCount, .int v_bitsCame, .int v_bitsThere, .int v_inputBits, .int v_rootsBelow, .int v_begunOpen, .int v_empty])), (h_this_values, .inl (cI, 6, .inl q))] 41 [] [])) (fun q z hz hK => k_Ps_replaceInValues_l2 C hr hz hK) zF _ (o0) hf hK
/-- PathSums.replaceInValues(II)V -/
def f_Ps_replaceInValues (x1 : Int32) (x2 : Int32) (v_values : Nat → Int32) : Option ((Nat → Int32)) :=
  zb1 (zloop (fun q => f_Ps_replaceInValues_l2 x1 x2 q.1 q.2) zF ((0 : Int32), v_values)) fun q_1 =>
  some (q_1)
set_option maxRecDepth 100000 in
set_option maxHeartbeats 4000000 in
theorem k_Ps_replaceInValues {p : Program} {l : Launch} {e : Env} {s : State} {m : MethodId} {args : Array Value} {below : List Frame} {meth : Method} {c : Code} {D : va_G} {cI cL : ClassId} {h_this h_this_values h_this_polynomial h_this_doneRules h_this_ways h_this_root : Nat} {v_wireCount v_bitsCame v_bitsThere v_inputBits v_rootsBelow v_begunOpen v_empty x1 x2 : Int32} {v_values o_values : Nat → Int32} (C : zC p s m args meth c b_Ps_replaceInValues 4 R_Ps D vwCl [(cI, .int), (cL, .long)] (zA [h_this, h_this_values] s.heap.size)) (hr : meth.sig.returnType = none) (hf : f_Ps_replaceInValues x1 x2 v_values = some o_values) : ZV p l e rm_Ps_replaceInValues s m args below meth c 4 D (none) [(h_this, .inr (4, [.ref h_this_values, .ref h_this_polynomial, .ref h_this_doneRules, .ref h_this_ways, .ref h_this_root, .int v_wireCount, .int v_bitsCame, .int v_bitsThere, .int v_inputBits, .int v_rootsBelow, .int v_begunOpen, .int v_empty])), (h_this_values, .inl (cI, 6, .inl o_values))] [h_this, h_this_values] [(h_this, .inr (4, [.ref h_this_values, .ref h_this_polynomial, .ref h_this_doneRules, .ref h_this_ways, .ref h_this_root, .int v_wireCount, .int v_bitsCame, .int v_bitsThere, .int v_inputBits, .int v_rootsBelow, .int v_begunOpen, .int v_empty])), (h_this_values, .inl (cI, 6, .inl v_values))] 0 [(0, .ref h_this), (1, .int x1), (2, .int x2)] [] := by
  unfold f_Ps_replaceInValues at hf
  refine z_iconst (v := 0) C d_Ps_replaceInValues_0 (by decide) ?_
  refine z_istore_n (lv' := [(3, .int (0 : Int32)), (0, .ref h_this), (1, .int x1), (2, .int x2)]) C d_Ps_replaceInValues_1 rfl (by decide) rfl ?_
  refine z_lv [1, 2, 3, 0] rfl ?_
  obtain ⟨q_1, h_2, hf⟩ := zb1_elim hf
  refine k_Ps_replaceInValues_l2_run C hr h_2 ?_
  cases hf
  exact z_vret C hr d_Ps_replaceInValues_41
theorem c_Ps_replaceInValues {l : Launch} {D : va_G} {cI cL : ClassId} {h_this h_this_values h_this_polynomial h_this_doneRules h_this_ways h_this_root : Nat} {v_wireCount v_bitsCame v_bitsThere v_inputBits v_rootsBelow v_begunOpen v_empty x1 x2 : Int32} {v_values o_values : Nat → Int32} (hf : f_Ps_replaceInValues x1 x2 v_values = some o_values) : zM l y_Ps_replaceInValues (Cond.code y_Ps_replaceInValues b_Ps_replaceInValues 4 none :: zT) rm_Ps_replaceInValues D vwCl [(cI, .int), (cL, .long)] [.ref h_this, .int x1, .int x2] [(h_this, .inr (4, [.ref h_this_values, .ref h_this_polynomial, .ref h_this_doneRules, .ref h_this_ways, .ref h_this_root, .int v_wireCount, .int v_bitsCame, .int v_bitsThere, .int v_inputBits, .int v_rootsBelow, .int v_begunOpen, .int v_empty])), (h_this_values, .inl (cI, 6, .inl v_values))] [(h_this, .inr (4, [.ref h_this_values, .ref h_this_polynomial, .ref h_this_doneRules, .ref h_this_ways, .ref h_this_root, .int v_wireCount, .int v_bitsCame, .int v_bitsThere, .int v_inputBits, .int v_rootsBelow, .int v_begunOpen, .int v_empty])), (h_this_values, .inl (cI, 6, .inl o_values))] (none) :=
  zM.intro (by decide) rfl (fun _ h => List.mem_cons_of_mem _ h) (Nat.le_of_ble_eq_true rfl) (fun _ _ _ _ _ _ _ C hr _ => k_Ps_replaceInValues C hr hf)
def rm_Ps_doRule : Room := { frames := 7, cells := 0, slots := 0, locals := 172 }
def f_Ps_doRule_j193 (x3 : Int32) (x4 : Int32) (t1 : Int32) (t2 : Int32) (v_bitsThere : Int32) (v_inputBits : Int32) (v_rootsBelow : Int32) (v_empty : Int32) (v_polynomial_monomials : Int32) (v_polynomial_numbers : Nat → Int32) (v_doneRules_count : Int32) (v_doneRules_kinds : Nat → Int32) (v_doneRules_ys : Nat → Int32) (v_doneRules_zs : Nat → Int32) (v_values : Nat → Int32) : Option (Int32 × Int32 × Int32 × Int32 × (Nat → Int32) × Int32 × (Nat → Int32) × (Nat → Int32) × (Nat → Int32) × (Nat → Int32)) :=
  zb2 (f_Po_add t1 t2 v_polynomial_monomials v_polynomial_numbers) fun q_2 q_3 =>
  if x3 = (2 : Int32) then (
    zb2 (f_Po_addXor (6 : Int32) x4 (0 : Int32) q_2 q_3) fun q_6 q_7 =>
    some (v_bitsThere, v_rootsBelow, v_empty, q_6, q_7, v_doneRules_count, v_doneRules_kinds, v_doneRules_ys, v_doneRules_zs, v_values))
  else (
    zb2 (f_Po_addXor (2 : Int32) x4 (0 : Int32) q_2 q_3) fun q_9 q_10 =>
    some (v_bitsThere, v_rootsBelow, v_empty, q_9, q_10, v_doneRules_count, v_doneRules_kinds, v_doneRules_ys, v_doneRules_zs, v_values))
set_option maxRecDepth 100000 in
set_option maxHeartbeats 4000000 in
theorem k_Ps_doRule_j193 {p : Program} {l : Launch} {e : Env} {s : State} {m : MethodId} {args : Array Value} {below : List Frame} {meth : Method} {c : Code} {D : va_G} {cI cL : ClassId} {h_this h_this_values h_this_polynomial h_this_doneRules h_this_ways h_this_root h_this_polynomial_numbers h_this_doneRules_kinds h_this_doneRules_ys h_this_doneRules_zs : Nat} {v_wireCount v_bitsCame v_bitsThere v_inputBits v_rootsBelow v_begunOpen v_empty v_polynomial_monomials v_doneRules_count o_bitsThere o_rootsBelow o_empty o_polynomial_monomials o_doneRules_count x3 x4 : Int32} {v_polynomial_numbers v_doneRules_kinds v_doneRules_ys v_doneRules_zs v_values o_polynomial_numbers o_doneRules_kinds o_doneRules_ys o_doneRules_zs o_values : Nat → Int32} {t1 : Int32} {t2 : Int32} (C : zC p s m args meth c b_Ps_doRule 7 R_Ps D vwCl [(cI, .int), (cL, .long)] (zA [h_this, h_this_polynomial, h_this_polynomial_numbers, h_this_doneRules, h_this_doneRules_kinds, h_this_doneRules_ys, h_this_doneRules_zs, h_this_values] s.heap.size)) (hr : meth.sig.returnType = none) (hf : f_Ps_doRule_j193 x3 x4 t1 t2 v_bitsThere v_inputBits v_rootsBelow v_empty v_polynomial_monomials v_polynomial_numbers v_doneRules_count v_doneRules_kinds v_doneRules_ys v_doneRules_zs v_values = some (o_bitsThere, o_rootsBelow, o_empty, o_polynomial_monomials, o_polynomial_numbers, o_doneRules_count, o_doneRules_kinds, o_doneRules_ys, o_doneRules_zs, o_values)) : ZV p l e rm_Ps_doRule s m args below meth c 7 D (none) [(h_this, .inr (4, [.ref h_this_values, .ref h_this_polynomial, .ref h_this_doneRules, .ref h_this_ways, .ref h_this_root, .int v_wireCount, .int v_bitsCame, .int o_bitsThere, .int v_inputBits, .int o_rootsBelow, .int v_begunOpen, .int o_empty])), (h_this_polynomial, .inr (1, [.ref h_this_polynomial_numbers, .int o_polynomial_monomials])), (h_this_polynomial_numbers, .inl (cI, 2325, .inl o_polynomial_numbers)), (h_this_doneRules, .inr (0, [.ref h_this_doneRules_kinds, .ref h_this_doneRules_ys, .ref h_this_doneRules_zs, .int o_doneRules_count])), (h_this_doneRules_kinds, .inl (cI, 24, .inl o_doneRules_kinds)), (h_this_doneRules_ys, .inl (cI, 24, .inl o_doneRules_ys)), (h_this_doneRules_zs, .inl (cI, 24, .inl o_doneRules_zs)), (h_this_values, .inl (cI, 6, .inl o_values))] [h_this, h_this_polynomial, h_this_polynomial_numbers, h_this_doneRules, h_this_doneRules_kinds, h_this_doneRules_ys, h_this_doneRules_zs, h_this_values] [(h_this, .inr (4, [.ref h_this_values, .ref h_this_polynomial, .ref h_this_doneRules, .ref h_this_ways, .ref h_this_root, .int v_wireCount, .int v_bitsCame, .int v_bitsThere, .int v_inputBits, .int v_rootsBelow, .int v_begunOpen, .int v_empty])), (h_this_polynomial, .inr (1, [.ref h_this_polynomial_numbers, .int v_polynomial_monomials])), (h_this_polynomial_numbers, .inl (cI, 2325, .inl v_polynomial_numbers)), (h_this_doneRules, .inr (0, [.ref h_this_doneRules_kinds, .ref h_this_doneRules_ys, .ref h_this_doneRules_zs, .int v_doneRules_count])), (h_this_doneRules_kinds, .inl (cI, 24, .inl v_doneRules_kinds)), (h_this_doneRules_ys, .inl (cI, 24, .inl v_doneRules_ys)), (h_this_doneRules_zs, .inl (cI, 24, .inl v_doneRules_zs)), (h_this_values, .inl (cI, 6, .inl v_values))] 193 [(0, .ref h_this), (3, .int x3), (4, .int x4)] [.int t2, .int t1, .ref h_this_polynomial] := by
  unfold f_Ps_doRule_j193 at hf
  obtain ⟨q_2, q_3, h_1, hf⟩ := zb2_elim hf
  refine z_callV (As := [.int t1, .int t2]) (rest := []) (ws' := [(h_this, .inr (4, [.ref h_this_values, .ref h_this_polynomial, .ref h_this_doneRules, .ref h_this_ways, .ref h_this_root, .int v_wireCount, .int v_bitsCame, .int v_bitsThere, .int v_inputBits, .int v_rootsBelow, .int v_begunOpen, .int v_empty])), (h_this_polynomial, .inr (1, [.ref h_this_polynomial_numbers, .int q_2])), (h_this_polynomial_numbers, .inl (cI, 2325, .inl q_3)), (h_this_doneRules, .inr (0, [.ref h_this_doneRules_kinds, .ref h_this_doneRules_ys, .ref h_this_doneRules_zs, .int v_doneRules_count])), (h_this_doneRules_kinds, .inl (cI, 24, .inl v_doneRules_kinds)), (h_this_doneRules_ys, .inl (cI, 24, .inl v_doneRules_ys)), (h_this_doneRules_zs, .inl (cI, 24, .inl v_doneRules_zs)), (h_this_values, .inl (cI, 6, .inl v_values))]) C (c_Po_add h_1) mi_Po_add zw_261 (by decide) 0 rfl rfl [1, 2] (by decide) rfl rfl rfl rfl rfl (by decide) ⟨Nat.zero_le _, Nat.zero_le _⟩ d_Ps_doRule_193 ?_
  refine z_aload_n C d_Ps_doRule_196 rfl 0 rfl ?_
  refine z_get C iw_Ps 0 rfl rfl 1 (by decide) zw_161 rfl d_Ps_doRule_197 ?_
  refine z_iload_n C d_Ps_doRule_200 rfl 1 rfl ?_
  refine z_iconst (v := 2) C d_Ps_doRule_201 (by decide) ?_
  refine z_icmp_ne (tgt := 210) C d_Ps_doRule_202 (by decide) (fun c_4 => ?_) (fun c_4 => ?_)
  · have hf := zif_neg c_4 hf
    refine z_iconst (v := 2) C d_Ps_doRule_210 (by decide) ?_
    refine z_iload C d_Ps_doRule_211 2 rfl ?_
    refine z_iconst (v := 0) C d_Ps_doRule_213 (by decide) ?_
    obtain ⟨q_9, q_10, h_8, hf⟩ := zb2_elim hf
    refine z_callV (As := [.int (2 : Int32), .int x4, .int (0 : Int32)]) (rest := []) (ws' := [(h_this, .inr (4, [.ref h_this_values, .ref h_this_polynomial, .ref h_this_doneRules, .ref h_this_ways, .ref h_this_root, .int v_wireCount, .int v_bitsCame, .int v_bitsThere, .int v_inputBits, .int v_rootsBelow, .int v_begunOpen, .int v_empty])), (h_this_polynomial, .inr (1, [.ref h_this_polynomial_numbers, .int q_9])), (h_this_polynomial_numbers, .inl (cI, 2325, .inl q_10)), (h_this_doneRules, .inr (0, [.ref h_this_doneRules_kinds, .ref h_this_doneRules_ys, .ref h_this_doneRules_zs, .int v_doneRules_count])), (h_this_doneRules_kinds, .inl (cI, 24, .inl v_doneRules_kinds)), (h_this_doneRules_ys, .inl (cI, 24, .inl v_doneRules_ys)), (h_this_doneRules_zs, .inl (cI, 24, .inl v_doneRules_zs)), (h_this_values, .inl (cI, 6, .inl v_values))]) C (c_Po_addXor h_8) mi_Po_addXor zw_226 (by decide) 0 rfl rfl [1, 2] (by decide) rfl rfl rfl rfl rfl (by decide) ⟨Nat.zero_le _, Nat.zero_le _⟩ d_Ps_doRule_214 ?_
    cases hf
    exact z_vret C hr d_Ps_doRule_217
  · have hf := zif_pos c_4 hf
    refine z_bipush (v := 6) C d_Ps_doRule_205 (by decide) ?_
    refine z_goto (tgt := 211) C d_Ps_doRule_207 (by decide) ?_
    refine z_iload C d_Ps_doRule_211 2 rfl ?_
    refine z_iconst (v := 0) C d_Ps_doRule_213 (by decide) ?_
    obtain ⟨q_6, q_7, h_5, hf⟩ := zb2_elim hf
    refine z_callV (As := [.int (6 : Int32), .int x4, .int (0 : Int32)]) (rest := []) (ws' := [(h_this, .inr (4, [.ref h_this_values, .ref h_this_polynomial, .ref h_this_doneRules, .ref h_this_ways, .ref h_this_root, .int v_wireCount, .int v_bitsCame, .int v_bitsThere, .int v_inputBits, .int v_rootsBelow, .int v_begunOpen, .int v_empty])), (h_this_polynomial, .inr (1, [.ref h_this_polynomial_numbers, .int q_6])), (h_this_polynomial_numbers, .inl (cI, 2325, .inl q_7)), (h_this_doneRules, .inr (0, [.ref h_this_doneRules_kinds, .ref h_this_doneRules_ys, .ref h_this_doneRules_zs, .int v_doneRules_count])), (h_this_doneRules_kinds, .inl (cI, 24, .inl v_doneRules_kinds)), (h_this_doneRules_ys, .inl (cI, 24, .inl v_doneRules_ys)), (h_this_doneRules_zs, .inl (cI, 24, .inl v_doneRules_zs)), (h_this_values, .inl (cI, 6, .inl v_values))]) C (c_Po_addXor h_5) mi_Po_addXor zw_226 (by decide) 0 rfl rfl [1, 2] (by decide) rfl rfl rfl rfl rfl (by decide) ⟨Nat.zero_le _, Nat.zero_le _⟩ d_Ps_doRule_214 ?_
    cases hf
    exact z_vret C hr d_Ps_doRule_217
def f_Ps_doRule_j132 (x5 : Int32) (t0 : Int32) (t1 : Int32) (v_bitsThere : Int32) (v_inputBits : Int32) (v_rootsBelow : Int32) (v_empty : Int32) (v_polynomial_monomials : Int32) (v_polynomial_numbers : Nat → Int32) (v_doneRules_count : Int32) (v_doneRules_kinds : Nat → Int32) (v_doneRules_ys : Nat → Int32) (v_doneRules_zs : Nat → Int32) (v_values : Nat → Int32) : Option (Int32 × Int32 × Int32 × Int32 × (Nat → Int32) × Int32 × (Nat → Int32) × (Nat → Int32) × (Nat → Int32) × (Nat → Int32)) :=
  zlet (t0 ||| t1) fun y_1 =>
  zb2 (f_Po_replaceBit x5 y_1 v_polynomial_monomials v_polynomial_numbers) fun q_3 q_4 =>
  zb1 (f_Ps_replaceInValues x5 y_1 v_values) fun q_6 =>
  zlet (v_bitsThere &&& (((1 : Int32) <<< (x5 &&& 31)) ^^^ (-1 : Int32))) fun y_7 =>
  some (y_7, v_rootsBelow, v_empty, q_3, q_4, v_doneRules_count, v_doneRules_kinds, v_doneRules_ys, v_doneRules_zs, q_6)
set_option maxRecDepth 100000 in
set_option maxHeartbeats 4000000 in
theorem k_Ps_doRule_j132 {p : Program} {l : Launch} {e : Env} {s : State} {m : MethodId} {args : Array Value} {below : List Frame} {meth : Method} {c : Code} {D : va_G} {cI cL : ClassId} {h_this h_this_values h_this_polynomial h_this_doneRules h_this_ways h_this_root h_this_polynomial_numbers h_this_doneRules_kinds h_this_doneRules_ys h_this_doneRules_zs : Nat} {v_wireCount v_bitsCame v_bitsThere v_inputBits v_rootsBelow v_begunOpen v_empty v_polynomial_monomials v_doneRules_count o_bitsThere o_rootsBelow o_empty o_polynomial_monomials o_doneRules_count x5 : Int32} {v_polynomial_numbers v_doneRules_kinds v_doneRules_ys v_doneRules_zs v_values o_polynomial_numbers o_doneRules_kinds o_doneRules_ys o_doneRules_zs o_values : Nat → Int32} {t0 : Int32} {t1 : Int32} (C : zC p s m args meth c b_Ps_doRule 7 R_Ps D vwCl [(cI, .int), (cL, .long)] (zA [h_this, h_this_polynomial, h_this_polynomial_numbers, h_this_doneRules, h_this_doneRules_kinds, h_this_doneRules_ys, h_this_doneRules_zs, h_this_values] s.heap.size)) (hr : meth.sig.returnType = none) (hf : f_Ps_doRule_j132 x5 t0 t1 v_bitsThere v_inputBits v_rootsBelow v_empty v_polynomial_monomials v_polynomial_numbers v_doneRules_count v_doneRules_kinds v_doneRules_ys v_doneRules_zs v_values = some (o_bitsThere, o_rootsBelow, o_empty, o_polynomial_monomials, o_polynomial_numbers, o_doneRules_count, o_doneRules_kinds, o_doneRules_ys, o_doneRules_zs, o_values)) : ZV p l e rm_Ps_doRule s m args below meth c 7 D (none) [(h_this, .inr (4, [.ref h_this_values, .ref h_this_polynomial, .ref h_this_doneRules, .ref h_this_ways, .ref h_this_root, .int v_wireCount, .int v_bitsCame, .int o_bitsThere, .int v_inputBits, .int o_rootsBelow, .int v_begunOpen, .int o_empty])), (h_this_polynomial, .inr (1, [.ref h_this_polynomial_numbers, .int o_polynomial_monomials])), (h_this_polynomial_numbers, .inl (cI, 2325, .inl o_polynomial_numbers)), (h_this_doneRules, .inr (0, [.ref h_this_doneRules_kinds, .ref h_this_doneRules_ys, .ref h_this_doneRules_zs, .int o_doneRules_count])), (h_this_doneRules_kinds, .inl (cI, 24, .inl o_doneRules_kinds)), (h_this_doneRules_ys, .inl (cI, 24, .inl o_doneRules_ys)), (h_this_doneRules_zs, .inl (cI, 24, .inl o_doneRules_zs)), (h_this_values, .inl (cI, 6, .inl o_values))] [h_this, h_this_polynomial, h_this_polynomial_numbers, h_this_doneRules, h_this_doneRules_kinds, h_this_doneRules_ys, h_this_doneRules_zs, h_this_values] [(h_this, .inr (4, [.ref h_this_values, .ref h_this_polynomial, .ref h_this_doneRules, .ref h_this_ways, .ref h_this_root, .int v_wireCount, .int v_bitsCame, .int v_bitsThere, .int v_inputBits, .int v_rootsBelow, .int v_begunOpen, .int v_empty])), (h_this_polynomial, .inr (1, [.ref h_this_polynomial_numbers, .int v_polynomial_monomials])), (h_this_polynomial_numbers, .inl (cI, 2325, .inl v_polynomial_numbers)), (h_this_doneRules, .inr (0, [.ref h_this_doneRules_kinds, .ref h_this_doneRules_ys, .ref h_this_doneRules_zs, .int v_doneRules_count])), (h_this_doneRules_kinds, .inl (cI, 24, .inl v_doneRules_kinds)), (h_this_doneRules_ys, .inl (cI, 24, .inl v_doneRules_ys)), (h_this_doneRules_zs, .inl (cI, 24, .inl v_doneRules_zs)), (h_this_values, .inl (cI, 6, .inl v_values))] 132 [(0, .ref h_this), (5, .int x5)] [.int t1, .int t0] := by
  unfold f_Ps_doRule_j132 at hf
  refine z_ior C d_Ps_doRule_132 ?_
  refine z_topi (fun y_1 ey_1 => ?_)
  have hf := zlet_at ey_1 hf
  refine z_istore (lv' := [(6, .int y_1), (0, .ref h_this), (5, .int x5)]) C d_Ps_doRule_133 (by decide) rfl ?_
  refine z_aload_n C d_Ps_doRule_135 rfl 1 rfl ?_
  refine z_get C iw_Ps 0 rfl rfl 1 (by decide) zw_161 rfl d_Ps_doRule_136 ?_
  refine z_iload C d_Ps_doRule_139 2 rfl ?_
  refine z_iload C d_Ps_doRule_141 0 rfl ?_
  obtain ⟨q_3, q_4, h_2, hf⟩ := zb2_elim hf
  refine z_callV (As := [.int x5, .int y_1]) (rest := []) (ws' := [(h_this, .inr (4, [.ref h_this_values, .ref h_this_polynomial, .ref h_this_doneRules, .ref h_this_ways, .ref h_this_root, .int v_wireCount, .int v_bitsCame, .int v_bitsThere, .int v_inputBits, .int v_rootsBelow, .int v_begunOpen, .int v_empty])), (h_this_polynomial, .inr (1, [.ref h_this_polynomial_numbers, .int q_3])), (h_this_polynomial_numbers, .inl (cI, 2325, .inl q_4)), (h_this_doneRules, .inr (0, [.ref h_this_doneRules_kinds, .ref h_this_doneRules_ys, .ref h_this_doneRules_zs, .int v_doneRules_count])), (h_this_doneRules_kinds, .inl (cI, 24, .inl v_doneRules_kinds)), (h_this_doneRules_ys, .inl (cI, 24, .inl v_doneRules_ys)), (h_this_doneRules_zs, .inl (cI, 24, .inl v_doneRules_zs)), (h_this_values, .inl (cI, 6, .inl v_values))]) C (c_Po_replaceBit h_2) mi_Po_replaceBit zw_298 (by decide) 0 rfl rfl [1, 2] (by decide) rfl rfl rfl rfl rfl (by decide) ⟨Nat.zero_le _, Nat.zero_le _⟩ d_Ps_doRule_143 ?_
  refine z_aload_n C d_Ps_doRule_146 rfl 1 rfl ?_
  refine z_iload C d_Ps_doRule_147 2 rfl ?_
  refine z_iload C d_Ps_doRule_149 0 rfl ?_
  obtain ⟨q_6, h_5, hf⟩ := zb1_elim hf
  refine z_callV (As := [.int x5, .int y_1]) (rest := []) (ws' := [(h_this, .inr (4, [.ref h_this_values, .ref h_this_polynomial, .ref h_this_doneRules, .ref h_this_ways, .ref h_this_root, .int v_wireCount, .int v_bitsCame, .int v_bitsThere, .int v_inputBits, .int v_rootsBelow, .int v_begunOpen, .int v_empty])), (h_this_polynomial, .inr (1, [.ref h_this_polynomial_numbers, .int q_3])), (h_this_polynomial_numbers, .inl (cI, 2325, .inl q_4)), (h_this_doneRules, .inr (0, [.ref h_this_doneRules_kinds, .ref h_this_doneRules_ys, .ref h_this_doneRules_zs, .int v_doneRules_count])), (h_this_doneRules_kinds, .inl (cI, 24, .inl v_doneRules_kinds)), (h_this_doneRules_ys, .inl (cI, 24, .inl v_doneRules_ys)), (h_this_doneRules_zs, .inl (cI, 24, .inl v_doneRules_zs)), (h_this_values, .inl (cI, 6, .inl q_6))]) C (c_Ps_replaceInValues h_5) mi_Ps_replaceInValues zw_303 (by decide) 0 rfl rfl [0, 7] (by decide) rfl rfl rfl rfl rfl (by decide) ⟨Nat.zero_le _, Nat.zero_le _⟩ d_Ps_doRule_151 ?_
  refine z_aload_n C d_Ps_doRule_154 rfl 1 rfl ?_
  refine z_dup C d_Ps_doRule_155 rfl ?_
  refine z_get C iw_Ps 0 rfl rfl 7 (by decide) zw_167 rfl d_Ps_doRule_156 ?_
  refine z_iconst (v := 1) C d_Ps_doRule_159 (by decide) ?_
  refine z_iload C d_Ps_doRule_160 2 rfl ?_
  refine z_ishl C d_Ps_doRule_162 ?_
  refine z_iconst (v := -1) C d_Ps_doRule_163 (by decide) ?_
  refine z_ixor C d_Ps_doRule_164 ?_
  refine z_iand C d_Ps_doRule_165 ?_
  refine z_topi (fun y_7 ey_7 => ?_)
  have hf := zlet_at ey_7 hf
  refine z_put (ws' := [(h_this, .inr (4, [.ref h_this_values, .ref h_this_polynomial, .ref h_this_doneRules, .ref h_this_ways, .ref h_this_root, .int v_wireCount, .int v_bitsCame, .int y_7, .int v_inputBits, .int v_rootsBelow, .int v_begunOpen, .int v_empty])), (h_this_polynomial, .inr (1, [.ref h_this_polynomial_numbers, .int q_3])), (h_this_polynomial_numbers, .inl (cI, 2325, .inl q_4)), (h_this_doneRules, .inr (0, [.ref h_this_doneRules_kinds, .ref h_this_doneRules_ys, .ref h_this_doneRules_zs, .int v_doneRules_count])), (h_this_doneRules_kinds, .inl (cI, 24, .inl v_doneRules_kinds)), (h_this_doneRules_ys, .inl (cI, 24, .inl v_doneRules_ys)), (h_this_doneRules_zs, .inl (cI, 24, .inl v_doneRules_zs)), (h_this_values, .inl (cI, 6, .inl q_6))]) C iw_Ps t_Ps t_Ps_ok n_Ps 0 rfl rfl 7 (by decide) zw_167 rfl (ty := .int) rfl rfl rfl (by simp) d_Ps_doRule_166 rfl ?_
  refine z_goto (tgt := 217) C d_Ps_doRule_169 (by decide) ?_
  cases hf
  exact z_vret C hr d_Ps_doRule_217
def f_Ps_doRule_j103 (x1 : Int32) (x3 : Int32) (x4 : Int32) (x5 : Int32) (t1 : Int32) (t2 : Int32) (v_bitsThere : Int32) (v_inputBits : Int32) (v_rootsBelow : Int32) (v_empty : Int32) (v_polynomial_monomials : Int32) (v_polynomial_numbers : Nat → Int32) (v_doneRules_count : Int32) (v_doneRules_kinds : Nat → Int32) (v_doneRules_ys : Nat → Int32) (v_doneRules_zs : Nat → Int32) (v_values : Nat → Int32) : Option (Int32 × Int32 × Int32 × Int32 × (Nat → Int32) × Int32 × (Nat → Int32) × (Nat → Int32) × (Nat → Int32) × (Nat → Int32)) :=
  zlet (t1 - t2) fun y_1 =>
  if x1 = (3 : Int32) then (
    if x3 = (4 : Int32) then (
      f_Ps_doRule_j132 x5 (x4 &&& (((1 : Int32) <<< (x5 &&& 31)) ^^^ (-1 : Int32))) (16777216 : Int32) v_bitsThere v_inputBits y_1 v_empty v_polynomial_monomials v_polynomial_numbers v_doneRules_count v_doneRules_kinds v_doneRules_ys v_doneRules_zs v_values)
    else (
      f_Ps_doRule_j132 x5 (x4 &&& (((1 : Int32) <<< (x5 &&& 31)) ^^^ (-1 : Int32))) (0 : Int32) v_bitsThere v_inputBits y_1 v_empty v_polynomial_monomials v_polynomial_numbers v_doneRules_count v_doneRules_kinds v_doneRules_ys v_doneRules_zs v_values))
  else (
    if x1 = (4 : Int32) then (
      if x3 = (2 : Int32) then (
        f_Ps_doRule_j193 x3 x4 (0 : Int32) (1 : Int32) v_bitsThere v_inputBits y_1 v_empty v_polynomial_monomials v_polynomial_numbers v_doneRules_count v_doneRules_kinds v_doneRules_ys v_doneRules_zs v_values)
      else (
        f_Ps_doRule_j193 x3 x4 (0 : Int32) (7 : Int32) v_bitsThere v_inputBits y_1 v_empty v_polynomial_monomials v_polynomial_numbers v_doneRules_count v_doneRules_kinds v_doneRules_ys v_doneRules_zs v_values))
    else (
      some (v_bitsThere, y_1, v_empty, v_polynomial_monomials, v_polynomial_numbers, v_doneRules_count, v_doneRules_kinds, v_doneRules_ys, v_doneRules_zs, v_values)))
set_option maxRecDepth 100000 in
set_option maxHeartbeats 4000000 in
theorem k_Ps_doRule_j103 {p : Program} {l : Launch} {e : Env} {s : State} {m : MethodId} {args : Array Value} {below : List Frame} {meth : Method} {c : Code} {D : va_G} {cI cL : ClassId} {h_this h_this_values h_this_polynomial h_this_doneRules h_this_ways h_this_root h_this_polynomial_numbers h_this_doneRules_kinds h_this_doneRules_ys h_this_doneRules_zs : Nat} {v_wireCount v_bitsCame v_bitsThere v_inputBits v_rootsBelow v_begunOpen v_empty v_polynomial_monomials v_doneRules_count o_bitsThere o_rootsBelow o_empty o_polynomial_monomials o_doneRules_count x1 x3 x4 x5 : Int32} {v_polynomial_numbers v_doneRules_kinds v_doneRules_ys v_doneRules_zs v_values o_polynomial_numbers o_doneRules_kinds o_doneRules_ys o_doneRules_zs o_values : Nat → Int32} {t1 : Int32} {t2 : Int32} (C : zC p s m args meth c b_Ps_doRule 7 R_Ps D vwCl [(cI, .int), (cL, .long)] (zA [h_this, h_this_polynomial, h_this_polynomial_numbers, h_this_doneRules, h_this_doneRules_kinds, h_this_doneRules_ys, h_this_doneRules_zs, h_this_values] s.heap.size)) (hr : meth.sig.returnType = none) (hf : f_Ps_doRule_j103 x1 x3 x4 x5 t1 t2 v_bitsThere v_inputBits v_rootsBelow v_empty v_polynomial_monomials v_polynomial_numbers v_doneRules_count v_doneRules_kinds v_doneRules_ys v_doneRules_zs v_values = some (o_bitsThere, o_rootsBelow, o_empty, o_polynomial_monomials, o_polynomial_numbers, o_doneRules_count, o_doneRules_kinds, o_doneRules_ys, o_doneRules_zs, o_values)) : ZV p l e rm_Ps_doRule s m args below meth c 7 D (none) [(h_this, .inr (4, [.ref h_this_values, .ref h_this_polynomial, .ref h_this_doneRules, .ref h_this_ways, .ref h_this_root, .int v_wireCount, .int v_bitsCame, .int o_bitsThere, .int v_inputBits, .int o_rootsBelow, .int v_begunOpen, .int o_empty])), (h_this_polynomial, .inr (1, [.ref h_this_polynomial_numbers, .int o_polynomial_monomials])), (h_this_polynomial_numbers, .inl (cI, 2325, .inl o_polynomial_numbers)), (h_this_doneRules, .inr (0, [.ref h_this_doneRules_kinds, .ref h_this_doneRules_ys, .ref h_this_doneRules_zs, .int o_doneRules_count])), (h_this_doneRules_kinds, .inl (cI, 24, .inl o_doneRules_kinds)), (h_this_doneRules_ys, .inl (cI, 24, .inl o_doneRules_ys)), (h_this_doneRules_zs, .inl (cI, 24, .inl o_doneRules_zs)), (h_this_values, .inl (cI, 6, .inl o_values))] [h_this, h_this_polynomial, h_this_polynomial_numbers, h_this_doneRules, h_this_doneRules_kinds, h_this_doneRules_ys, h_this_doneRules_zs, h_this_values] [(h_this, .inr (4, [.ref h_this_values, .ref h_this_polynomial, .ref h_this_doneRules, .ref h_this_ways, .ref h_this_root, .int v_wireCount, .int v_bitsCame, .int v_bitsThere, .int v_inputBits, .int v_rootsBelow, .int v_begunOpen, .int v_empty])), (h_this_polynomial, .inr (1, [.ref h_this_polynomial_numbers, .int v_polynomial_monomials])), (h_this_polynomial_numbers, .inl (cI, 2325, .inl v_polynomial_numbers)), (h_this_doneRules, .inr (0, [.ref h_this_doneRules_kinds, .ref h_this_doneRules_ys, .ref h_this_doneRules_zs, .int v_doneRules_count])), (h_this_doneRules_kinds, .inl (cI, 24, .inl v_doneRules_kinds)), (h_this_doneRules_ys, .inl (cI, 24, .inl v_doneRules_ys)), (h_this_doneRules_zs, .inl (cI, 24, .inl v_doneRules_zs)), (h_this_values, .inl (cI, 6, .inl v_values))] 103 [(0, .ref h_this), (1, .int x1), (3, .int x3), (4, .int x4), (5, .int x5)] [.int t2, .int t1, .ref h_this] := by
  unfold f_Ps_doRule_j103 at hf
  refine z_isub C d_Ps_doRule_103 ?_
  refine z_topi (fun y_1 ey_1 => ?_)
  have hf := zlet_at ey_1 hf
  refine z_put (ws' := [(h_this, .inr (4, [.ref h_this_values, .ref h_this_polynomial, .ref h_this_doneRules, .ref h_this_ways, .ref h_this_root, .int v_wireCount, .int v_bitsCame, .int v_bitsThere, .int v_inputBits, .int y_1, .int v_begunOpen, .int v_empty])), (h_this_polynomial, .inr (1, [.ref h_this_polynomial_numbers, .int v_polynomial_monomials])), (h_this_polynomial_numbers, .inl (cI, 2325, .inl v_polynomial_numbers)), (h_this_doneRules, .inr (0, [.ref h_this_doneRules_kinds, .ref h_this_doneRules_ys, .ref h_this_doneRules_zs, .int v_doneRules_count])), (h_this_doneRules_kinds, .inl (cI, 24, .inl v_doneRules_kinds)), (h_this_doneRules_ys, .inl (cI, 24, .inl v_doneRules_ys)), (h_this_doneRules_zs, .inl (cI, 24, .inl v_doneRules_zs)), (h_this_values, .inl (cI, 6, .inl v_values))]) C iw_Ps t_Ps t_Ps_ok n_Ps 0 rfl rfl 9 (by decide) zw_169 rfl (ty := .int) rfl rfl rfl (by simp) d_Ps_doRule_104 rfl ?_
  refine z_iload_n C d_Ps_doRule_107 rfl 1 rfl ?_
  refine z_iconst (v := 3) C d_Ps_doRule_108 (by decide) ?_
  refine z_icmp_ne (tgt := 172) C d_Ps_doRule_109 (by decide) (fun c_2 => ?_) (fun c_2 => ?_)
  · have hf := zif_neg c_2 hf
    refine z_iload_n C d_Ps_doRule_172 rfl 1 rfl ?_
    refine z_iconst (v := 4) C d_Ps_doRule_173 (by decide) ?_
    refine z_icmp_ne (tgt := 217) C d_Ps_doRule_174 (by decide) (fun c_4 => ?_) (fun c_4 => ?_)
    · have hf := zif_neg c_4 hf
      cases hf
      exact z_vret C hr d_Ps_doRule_217
    · have hf := zif_pos c_4 hf
      refine z_aload_n C d_Ps_doRule_177 rfl 0 rfl ?_
      refine z_get C iw_Ps 0 rfl rfl 1 (by decide) zw_161 rfl d_Ps_doRule_178 ?_
      refine z_iconst (v := 0) C d_Ps_doRule_181 (by decide) ?_
      refine z_iload_n C d_Ps_doRule_182 rfl 2 rfl ?_
      refine z_iconst (v := 2) C d_Ps_doRule_183 (by decide) ?_
      refine z_icmp_ne (tgt := 191) C d_Ps_doRule_184 (by decide) (fun c_5 => ?_) (fun c_5 => ?_)
      · have hf := zif_neg c_5 hf
        refine z_bipush (v := 7) C d_Ps_doRule_191 (by decide) ?_
        refine z_lv [0, 2, 3] rfl ?_
        exact k_Ps_doRule_j193 C hr hf
      · have hf := zif_pos c_5 hf
        refine z_iconst (v := 1) C d_Ps_doRule_187 (by decide) ?_
        refine z_goto (tgt := 193) C d_Ps_doRule_188 (by decide) ?_
        refine z_lv [0, 2, 3] rfl ?_
        exact k_Ps_doRule_j193 C hr hf
  · have hf := zif_pos c_2 hf
    refine z_iload C d_Ps_doRule_112 3 rfl ?_
    refine z_iconst (v := 1) C d_Ps_doRule_114 (by decide) ?_
    refine z_iload C d_Ps_doRule_115 4 rfl ?_
    refine z_ishl C d_Ps_doRule_117 ?_
    refine z_iconst (v := -1) C d_Ps_doRule_118 (by decide) ?_
    refine z_ixor C d_Ps_doRule_119 ?_
    refine z_iand C d_Ps_doRule_120 ?_
    refine z_iload_n C d_Ps_doRule_121 rfl 2 rfl ?_
    refine z_iconst (v := 4) C d_Ps_doRule_122 (by decide) ?_
    refine z_icmp_ne (tgt := 131) C d_Ps_doRule_123 (by decide) (fun c_3 => ?_) (fun c_3 => ?_)
    · have hf := zif_neg c_3 hf
      refine z_iconst (v := 0) C d_Ps_doRule_131 (by decide) ?_
      refine z_lv [0, 4] rfl ?_
      exact k_Ps_doRule_j132 C hr hf
    · have hf := zif_pos c_3 hf
      refine z_ldc (v := 16777216) C zw_207 d_Ps_doRule_126 ?_
      refine z_goto (tgt := 132) C d_Ps_doRule_128 (by decide) ?_
      refine z_lv [0, 4] rfl ?_
      exact k_Ps_doRule_j132 C hr hf
def f_Ps_doRule_j42 (x1 : Int32) (x2 : Int32) (x3 : Int32) (x4 : Int32) (t0 : Int32) (v_bitsThere : Int32) (v_inputBits : Int32) (v_rootsBelow : Int32) (v_empty : Int32) (v_polynomial_monomials : Int32) (v_polynomial_numbers : Nat → Int32) (v_doneRules_count : Int32) (v_doneRules_kinds : Nat → Int32) (v_doneRules_ys : Nat → Int32) (v_doneRules_zs : Nat → Int32) (v_values : Nat → Int32) : Option (Int32 × Int32 × Int32 × Int32 × (Nat → Int32) × Int32 × (Nat → Int32) × (Nat → Int32) × (Nat → Int32) × (Nat → Int32)) :=
  zb4 (f_Dr_keep x1 x2 t0 v_doneRules_count v_doneRules_kinds v_doneRules_ys v_doneRules_zs) fun q_2 q_3 q_4 q_5 =>
  if x1 = (2 : Int32) then (
    zb6 (f_Ps_becomeEmpty v_bitsThere v_inputBits v_rootsBelow v_empty v_values v_polynomial_monomials v_polynomial_numbers) fun q_8 q_9 q_10 q_11 q_12 q_13 =>
    some (q_8, q_9, q_10, q_12, q_13, q_2, q_3, q_4, q_5, q_11))
  else (
    zb2 (f_Po_replaceBit x2 (0 : Int32) v_polynomial_monomials v_polynomial_numbers) fun q_15 q_16 =>
    zlet (v_bitsThere &&& (((1 : Int32) <<< (x2 &&& 31)) ^^^ (-1 : Int32))) fun y_17 =>
    if x1 = (4 : Int32) then (
      f_Ps_doRule_j103 x1 x3 x4 t0 v_rootsBelow (1 : Int32) y_17 v_inputBits v_rootsBelow v_empty q_15 q_16 q_2 q_3 q_4 q_5 v_values)
    else (
      f_Ps_doRule_j103 x1 x3 x4 t0 v_rootsBelow (2 : Int32) y_17 v_inputBits v_rootsBelow v_empty q_15 q_16 q_2 q_3 q_4 q_5 v_values))
set_option maxRecDepth 100000 in
set_option maxHeartbeats 4000000 in
theorem k_Ps_doRule_j42 {p : Program} {l : Launch} {e : Env} {s : State} {m : MethodId} {args : Array Value} {below : List Frame} {meth : Method} {c : Code} {D : va_G} {cI cL : ClassId} {h_this h_this_values h_this_polynomial h_this_doneRules h_this_ways h_this_root h_this_polynomial_numbers h_this_doneRules_kinds h_this_doneRules_ys h_this_doneRules_zs : Nat} {v_wireCount v_bitsCame v_bitsThere v_inputBits v_rootsBelow v_begunOpen v_empty v_polynomial_monomials v_doneRules_count o_bitsThere o_rootsBelow o_empty o_polynomial_monomials o_doneRules_count x1 x2 x3 x4 : Int32} {v_polynomial_numbers v_doneRules_kinds v_doneRules_ys v_doneRules_zs v_values o_polynomial_numbers o_doneRules_kinds o_doneRules_ys o_doneRules_zs o_values : Nat → Int32} {t0 : Int32} (C : zC p s m args meth c b_Ps_doRule 7 R_Ps D vwCl [(cI, .int), (cL, .long)] (zA [h_this, h_this_polynomial, h_this_polynomial_numbers, h_this_doneRules, h_this_doneRules_kinds, h_this_doneRules_ys, h_this_doneRules_zs, h_this_values] s.heap.size)) (hr : meth.sig.returnType = none) (hf : f_Ps_doRule_j42 x1 x2 x3 x4 t0 v_bitsThere v_inputBits v_rootsBelow v_empty v_polynomial_monomials v_polynomial_numbers v_doneRules_count v_doneRules_kinds v_doneRules_ys v_doneRules_zs v_values = some (o_bitsThere, o_rootsBelow, o_empty, o_polynomial_monomials, o_polynomial_numbers, o_doneRules_count, o_doneRules_kinds, o_doneRules_ys, o_doneRules_zs, o_values)) : ZV p l e rm_Ps_doRule s m args below meth c 7 D (none) [(h_this, .inr (4, [.ref h_this_values, .ref h_this_polynomial, .ref h_this_doneRules, .ref h_this_ways, .ref h_this_root, .int v_wireCount, .int v_bitsCame, .int o_bitsThere, .int v_inputBits, .int o_rootsBelow, .int v_begunOpen, .int o_empty])), (h_this_polynomial, .inr (1, [.ref h_this_polynomial_numbers, .int o_polynomial_monomials])), (h_this_polynomial_numbers, .inl (cI, 2325, .inl o_polynomial_numbers)), (h_this_doneRules, .inr (0, [.ref h_this_doneRules_kinds, .ref h_this_doneRules_ys, .ref h_this_doneRules_zs, .int o_doneRules_count])), (h_this_doneRules_kinds, .inl (cI, 24, .inl o_doneRules_kinds)), (h_this_doneRules_ys, .inl (cI, 24, .inl o_doneRules_ys)), (h_this_doneRules_zs, .inl (cI, 24, .inl o_doneRules_zs)), (h_this_values, .inl (cI, 6, .inl o_values))] [h_this, h_this_polynomial, h_this_polynomial_numbers, h_this_doneRules, h_this_doneRules_kinds, h_this_doneRules_ys, h_this_doneRules_zs, h_this_values] [(h_this, .inr (4, [.ref h_this_values, .ref h_this_polynomial, .ref h_this_doneRules, .ref h_this_ways, .ref h_this_root, .int v_wireCount, .int v_bitsCame, .int v_bitsThere, .int v_inputBits, .int v_rootsBelow, .int v_begunOpen, .int v_empty])), (h_this_polynomial, .inr (1, [.ref h_this_polynomial_numbers, .int v_polynomial_monomials])), (h_this_polynomial_numbers, .inl (cI, 2325, .inl v_polynomial_numbers)), (h_this_doneRules, .inr (0, [.ref h_this_doneRules_kinds, .ref h_this_doneRules_ys, .ref h_this_doneRules_zs, .int v_doneRules_count])), (h_this_doneRules_kinds, .inl (cI, 24, .inl v_doneRules_kinds)), (h_this_doneRules_ys, .inl (cI, 24, .inl v_doneRules_ys)), (h_this_doneRules_zs, .inl (cI, 24, .inl v_doneRules_zs)), (h_this_values, .inl (cI, 6, .inl v_values))] 42 [(0, .ref h_this), (1, .int x1), (2, .int x2), (3, .int x3), (4, .int x4)] [.int t0] := by
  unfold f_Ps_doRule_j42 at hf
  refine z_istore (lv' := [(5, .int t0), (0, .ref h_this), (1, .int x1), (2, .int x2), (3, .int x3), (4, .int x4)]) C d_Ps_doRule_42 (by decide) rfl ?_
  refine z_aload_n C d_Ps_doRule_44 rfl 1 rfl ?_
  refine z_get C iw_Ps 0 rfl rfl 2 (by decide) zw_162 rfl d_Ps_doRule_45 ?_
  refine z_iload_n C d_Ps_doRule_48 rfl 2 rfl ?_
  refine z_iload_n C d_Ps_doRule_49 rfl 3 rfl ?_
  refine z_iload C d_Ps_doRule_50 0 rfl ?_
  obtain ⟨q_2, q_3, q_4, q_5, h_1, hf⟩ := zb4_elim hf
  refine z_callV (As := [.int x1, .int x2, .int t0]) (rest := []) (ws' := [(h_this, .inr (4, [.ref h_this_values, .ref h_this_polynomial, .ref h_this_doneRules, .ref h_this_ways, .ref h_this_root, .int v_wireCount, .int v_bitsCame, .int v_bitsThere, .int v_inputBits, .int v_rootsBelow, .int v_begunOpen, .int v_empty])), (h_this_polynomial, .inr (1, [.ref h_this_polynomial_numbers, .int v_polynomial_monomials])), (h_this_polynomial_numbers, .inl (cI, 2325, .inl v_polynomial_numbers)), (h_this_doneRules, .inr (0, [.ref h_this_doneRules_kinds, .ref h_this_doneRules_ys, .ref h_this_doneRules_zs, .int q_2])), (h_this_doneRules_kinds, .inl (cI, 24, .inl q_3)), (h_this_doneRules_ys, .inl (cI, 24, .inl q_4)), (h_this_doneRules_zs, .inl (cI, 24, .inl q_5)), (h_this_values, .inl (cI, 6, .inl v_values))]) C (c_Dr_keep h_1) mi_Dr_keep zw_290 (by decide) 0 rfl rfl [3, 4, 5, 6] (by decide) rfl rfl rfl rfl rfl (by decide) ⟨Nat.zero_le _, Nat.zero_le _⟩ d_Ps_doRule_52 ?_
  refine z_iload_n C d_Ps_doRule_55 rfl 2 rfl ?_
  refine z_iconst (v := 2) C d_Ps_doRule_56 (by decide) ?_
  refine z_icmp_ne (tgt := 65) C d_Ps_doRule_57 (by decide) (fun c_6 => ?_) (fun c_6 => ?_)
  · have hf := zif_neg c_6 hf
    refine z_aload_n C d_Ps_doRule_65 rfl 1 rfl ?_
    refine z_get C iw_Ps 0 rfl rfl 1 (by decide) zw_161 rfl d_Ps_doRule_66 ?_
    refine z_iload_n C d_Ps_doRule_69 rfl 3 rfl ?_
    refine z_iconst (v := 0) C d_Ps_doRule_70 (by decide) ?_
    obtain ⟨q_15, q_16, h_14, hf⟩ := zb2_elim hf
    refine z_callV (As := [.int x2, .int (0 : Int32)]) (rest := []) (ws' := [(h_this, .inr (4, [.ref h_this_values, .ref h_this_polynomial, .ref h_this_doneRules, .ref h_this_ways, .ref h_this_root, .int v_wireCount, .int v_bitsCame, .int v_bitsThere, .int v_inputBits, .int v_rootsBelow, .int v_begunOpen, .int v_empty])), (h_this_polynomial, .inr (1, [.ref h_this_polynomial_numbers, .int q_15])), (h_this_polynomial_numbers, .inl (cI, 2325, .inl q_16)), (h_this_doneRules, .inr (0, [.ref h_this_doneRules_kinds, .ref h_this_doneRules_ys, .ref h_this_doneRules_zs, .int q_2])), (h_this_doneRules_kinds, .inl (cI, 24, .inl q_3)), (h_this_doneRules_ys, .inl (cI, 24, .inl q_4)), (h_this_doneRules_zs, .inl (cI, 24, .inl q_5)), (h_this_values, .inl (cI, 6, .inl v_values))]) C (c_Po_replaceBit h_14) mi_Po_replaceBit zw_298 (by decide) 0 rfl rfl [1, 2] (by decide) rfl rfl rfl rfl rfl (by decide) ⟨Nat.zero_le _, Nat.zero_le _⟩ d_Ps_doRule_71 ?_
    refine z_aload_n C d_Ps_doRule_74 rfl 1 rfl ?_
    refine z_dup C d_Ps_doRule_75 rfl ?_
    refine z_get C iw_Ps 0 rfl rfl 7 (by decide) zw_167 rfl d_Ps_doRule_76 ?_
    refine z_iconst (v := 1) C d_Ps_doRule_79 (by decide) ?_
    refine z_iload_n C d_Ps_doRule_80 rfl 3 rfl ?_
    refine z_ishl C d_Ps_doRule_81 ?_
    refine z_iconst (v := -1) C d_Ps_doRule_82 (by decide) ?_
    refine z_ixor C d_Ps_doRule_83 ?_
    refine z_iand C d_Ps_doRule_84 ?_
    refine z_topi (fun y_17 ey_17 => ?_)
    have hf := zlet_at ey_17 hf
    refine z_put (ws' := [(h_this, .inr (4, [.ref h_this_values, .ref h_this_polynomial, .ref h_this_doneRules, .ref h_this_ways, .ref h_this_root, .int v_wireCount, .int v_bitsCame, .int y_17, .int v_inputBits, .int v_rootsBelow, .int v_begunOpen, .int v_empty])), (h_this_polynomial, .inr (1, [.ref h_this_polynomial_numbers, .int q_15])), (h_this_polynomial_numbers, .inl (cI, 2325, .inl q_16)), (h_this_doneRules, .inr (0, [.ref h_this_doneRules_kinds, .ref h_this_doneRules_ys, .ref h_this_doneRules_zs, .int q_2])), (h_this_doneRules_kinds, .inl (cI, 24, .inl q_3)), (h_this_doneRules_ys, .inl (cI, 24, .inl q_4)), (h_this_doneRules_zs, .inl (cI, 24, .inl q_5)), (h_this_values, .inl (cI, 6, .inl v_values))]) C iw_Ps t_Ps t_Ps_ok n_Ps 0 rfl rfl 7 (by decide) zw_167 rfl (ty := .int) rfl rfl rfl (by simp) d_Ps_doRule_85 rfl ?_
    refine z_aload_n C d_Ps_doRule_88 rfl 1 rfl ?_
    refine z_dup C d_Ps_doRule_89 rfl ?_
    refine z_get C iw_Ps 0 rfl rfl 9 (by decide) zw_169 rfl d_Ps_doRule_90 ?_
    refine z_iload_n C d_Ps_doRule_93 rfl 2 rfl ?_
    refine z_iconst (v := 4) C d_Ps_doRule_94 (by decide) ?_
    refine z_icmp_ne (tgt := 102) C d_Ps_doRule_95 (by decide) (fun c_18 => ?_) (fun c_18 => ?_)
    · have hf := zif_neg c_18 hf
      refine z_iconst (v := 2) C d_Ps_doRule_102 (by decide) ?_
      refine z_lv [1, 2, 4, 5, 0] rfl ?_
      exact k_Ps_doRule_j103 C hr hf
    · have hf := zif_pos c_18 hf
      refine z_iconst (v := 1) C d_Ps_doRule_98 (by decide) ?_
      refine z_goto (tgt := 103) C d_Ps_doRule_99 (by decide) ?_
      refine z_lv [1, 2, 4, 5, 0] rfl ?_
      exact k_Ps_doRule_j103 C hr hf
  · have hf := zif_pos c_6 hf
    refine z_aload_n C d_Ps_doRule_60 rfl 1 rfl ?_
    obtain ⟨q_8, q_9, q_10, q_11, q_12, q_13, h_7, hf⟩ := zb6_elim hf
    refine z_callV (As := []) (rest := []) (ws' := [(h_this, .inr (4, [.ref h_this_values, .ref h_this_polynomial, .ref h_this_doneRules, .ref h_this_ways, .ref h_this_root, .int v_wireCount, .int v_bitsCame, .int q_8, .int v_inputBits, .int q_9, .int v_begunOpen, .int q_10])), (h_this_polynomial, .inr (1, [.ref h_this_polynomial_numbers, .int q_12])), (h_this_polynomial_numbers, .inl (cI, 2325, .inl q_13)), (h_this_doneRules, .inr (0, [.ref h_this_doneRules_kinds, .ref h_this_doneRules_ys, .ref h_this_doneRules_zs, .int q_2])), (h_this_doneRules_kinds, .inl (cI, 24, .inl q_3)), (h_this_doneRules_ys, .inl (cI, 24, .inl q_4)), (h_this_doneRules_zs, .inl (cI, 24, .inl q_5)), (h_this_values, .inl (cI, 6, .inl q_11))]) C (c_Ps_becomeEmpty h_7) mi_Ps_becomeEmpty zw_294 (by decide) 0 rfl rfl [0, 7, 1, 2] (by decide) rfl rfl rfl rfl rfl (by decide) ⟨Nat.zero_le _, Nat.zero_le _⟩ d_Ps_doRule_61 ?_
    cases hf
    exact z_vret C hr d_Ps_doRule_64
/-- PathSums.doRule(II)V -/
def f_Ps_doRule (x1 : Int32) (x2 : Int32) (v_bitsThere : Int32) (v_inputBits : Int32) (v_rootsBelow : Int32) (v_empty : Int32) (v_polynomial_monomials : Int32) (v_polynomial_numbers : Nat → Int32) (v_doneRules_count : Int32) (v_doneRules_kinds : Nat → Int32) (v_doneRules_ys : Nat → Int32) (v_doneRules_zs : Nat → Int32) (v_values : Nat → Int32) : Option (Int32 × Int32 × Int32 × Int32 × (Nat → Int32) × Int32 × (Nat → Int32) × (Nat → Int32) × (Nat → Int32) × (Nat → Int32)) :=
  zb1 (f_Po_numberOf ((1 : Int32) <<< (x2 &&& 31)) v_polynomial_numbers) fun r_2 =>
  zb1 (f_Po_partnersOf x2 v_polynomial_numbers) fun r_4 =>
  if x1 = (3 : Int32) then (
    zb1 (f_Ps_greatestOf (r_4 &&& (v_inputBits ^^^ (-1 : Int32)))) fun r_7 =>
    f_Ps_doRule_j42 x1 x2 r_2 r_4 r_7 v_bitsThere v_inputBits v_rootsBelow v_empty v_polynomial_monomials v_polynomial_numbers v_doneRules_count v_doneRules_kinds v_doneRules_ys v_doneRules_zs v_values)
  else (
    f_Ps_doRule_j42 x1 x2 r_2 r_4 (-1 : Int32) v_bitsThere v_inputBits v_rootsBelow v_empty v_polynomial_monomials v_polynomial_numbers v_doneRules_count v_doneRules_kinds v_doneRules_ys v_doneRules_zs v_values)
set_option maxRecDepth 100000 in
set_option maxHeartbeats 4000000 in
theorem k_Ps_doRule {p : Program} {l : Launch} {e : Env} {s : State} {m : MethodId} {args : Array Value} {below : List Frame} {meth : Method} {c : Code} {D : va_G} {cI cL : ClassId} {h_this h_this_values h_this_polynomial h_this_doneRules h_this_ways h_this_root h_this_polynomial_numbers h_this_doneRules_kinds h_this_doneRules_ys h_this_doneRules_zs : Nat} {v_wireCount v_bitsCame v_bitsThere v_inputBits v_rootsBelow v_begunOpen v_empty v_polynomial_monomials v_doneRules_count o_bitsThere o_rootsBelow o_empty o_polynomial_monomials o_doneRules_count x1 x2 : Int32} {v_polynomial_numbers v_doneRules_kinds v_doneRules_ys v_doneRules_zs v_values o_polynomial_numbers o_doneRules_kinds o_doneRules_ys o_doneRules_zs o_values : Nat → Int32} (C : zC p s m args meth c b_Ps_doRule 7 R_Ps D vwCl [(cI, .int), (cL, .long)] (zA [h_this, h_this_polynomial, h_this_polynomial_numbers, h_this_doneRules, h_this_doneRules_kinds, h_this_doneRules_ys, h_this_doneRules_zs, h_this_values] s.heap.size)) (hr : meth.sig.returnType = none) (hf : f_Ps_doRule x1 x2 v_bitsThere v_inputBits v_rootsBelow v_empty v_polynomial_monomials v_polynomial_numbers v_doneRules_count v_doneRules_kinds v_doneRules_ys v_doneRules_zs v_values = some (o_bitsThere, o_rootsBelow, o_empty, o_polynomial_monomials, o_polynomial_numbers, o_doneRules_count, o_doneRules_kinds, o_doneRules_ys, o_doneRules_zs, o_values)) : ZV p l e rm_Ps_doRule s m args below meth c 7 D (none) [(h_this, .inr (4, [.ref h_this_values, .ref h_this_polynomial, .ref h_this_doneRules, .ref h_this_ways, .ref h_this_root, .int v_wireCount, .int v_bitsCame, .int o_bitsThere, .int v_inputBits, .int o_rootsBelow, .int v_begunOpen, .int o_empty])), (h_this_polynomial, .inr (1, [.ref h_this_polynomial_numbers, .int o_polynomial_monomials])), (h_this_polynomial_numbers, .inl (cI, 2325, .inl o_polynomial_numbers)), (h_this_doneRules, .inr (0, [.ref h_this_doneRules_kinds, .ref h_this_doneRules_ys, .ref h_this_doneRules_zs, .int o_doneRules_count])), (h_this_doneRules_kinds, .inl (cI, 24, .inl o_doneRules_kinds)), (h_this_doneRules_ys, .inl (cI, 24, .inl o_doneRules_ys)), (h_this_doneRules_zs, .inl (cI, 24, .inl o_doneRules_zs)), (h_this_values, .inl (cI, 6, .inl o_values))] [h_this, h_this_polynomial, h_this_polynomial_numbers, h_this_doneRules, h_this_doneRules_kinds, h_this_doneRules_ys, h_this_doneRules_zs, h_this_values] [(h_this, .inr (4, [.ref h_this_values, .ref h_this_polynomial, .ref h_this_doneRules, .ref h_this_ways, .ref h_this_root, .int v_wireCount, .int v_bitsCame, .int v_bitsThere, .int v_inputBits, .int v_rootsBelow, .int v_begunOpen, .int v_empty])), (h_this_polynomial, .inr (1, [.ref h_this_polynomial_numbers, .int v_polynomial_monomials])), (h_this_polynomial_numbers, .inl (cI, 2325, .inl v_polynomial_numbers)), (h_this_doneRules, .inr (0, [.ref h_this_doneRules_kinds, .ref h_this_doneRules_ys, .ref h_this_doneRules_zs, .int v_doneRules_count])), (h_this_doneRules_kinds, .inl (cI, 24, .inl v_doneRules_kinds)), (h_this_doneRules_ys, .inl (cI, 24, .inl v_doneRules_ys)), (h_this_doneRules_zs, .inl (cI, 24, .inl v_doneRules_zs)), (h_this_values, .inl (cI, 6, .inl v_values))] 0 [(0, .ref h_this), (1, .int x1), (2, .int x2)] [] := by
  unfold f_Ps_doRule at hf
  refine z_aload_n C d_Ps_doRule_0 rfl 0 rfl ?_
  refine z_get C iw_Ps 0 rfl rfl 1 (by decide) zw_161 rfl d_Ps_doRule_1 ?_
  refine z_iconst (v := 1) C d_Ps_doRule_4 (by decide) ?_
  refine z_iload_n C d_Ps_doRule_5 rfl 2 rfl ?_
  refine z_ishl C d_Ps_doRule_6 ?_
  obtain ⟨r_2, h_1, hf⟩ := zb1_elim hf
  refine z_callV (As := [.int ((1 : Int32) <<< (x2 &&& 31))]) (rest := []) (ws' := [(h_this, .inr (4, [.ref h_this_values, .ref h_this_polynomial, .ref h_this_doneRules, .ref h_this_ways, .ref h_this_root, .int v_wireCount, .int v_bitsCame, .int v_bitsThere, .int v_inputBits, .int v_rootsBelow, .int v_begunOpen, .int v_empty])), (h_this_polynomial, .inr (1, [.ref h_this_polynomial_numbers, .int v_polynomial_monomials])), (h_this_polynomial_numbers, .inl (cI, 2325, .inl v_polynomial_numbers)), (h_this_doneRules, .inr (0, [.ref h_this_doneRules_kinds, .ref h_this_doneRules_ys, .ref h_this_doneRules_zs, .int v_doneRules_count])), (h_this_doneRules_kinds, .inl (cI, 24, .inl v_doneRules_kinds)), (h_this_doneRules_ys, .inl (cI, 24, .inl v_doneRules_ys)), (h_this_doneRules_zs, .inl (cI, 24, .inl v_doneRules_zs)), (h_this_values, .inl (cI, 6, .inl v_values))]) C (c_Po_numberOf h_1) mi_Po_numberOf zw_274 (by decide) 0 rfl rfl [1, 2] (by decide) rfl rfl rfl rfl rfl (by decide) ⟨Nat.zero_le _, Nat.zero_le _⟩ d_Ps_doRule_7 ?_
  refine z_istore_n (lv' := [(3, .int r_2), (0, .ref h_this), (1, .int x1), (2, .int x2)]) C d_Ps_doRule_10 rfl (by decide) rfl ?_
  refine z_aload_n C d_Ps_doRule_11 rfl 1 rfl ?_
  refine z_get C iw_Ps 0 rfl rfl 1 (by decide) zw_161 rfl d_Ps_doRule_12 ?_
  refine z_iload_n C d_Ps_doRule_15 rfl 3 rfl ?_
  obtain ⟨r_4, h_3, hf⟩ := zb1_elim hf
  refine z_callV (As := [.int x2]) (rest := []) (ws' := [(h_this, .inr (4, [.ref h_this_values, .ref h_this_polynomial, .ref h_this_doneRules, .ref h_this_ways, .ref h_this_root, .int v_wireCount, .int v_bitsCame, .int v_bitsThere, .int v_inputBits, .int v_rootsBelow, .int v_begunOpen, .int v_empty])), (h_this_polynomial, .inr (1, [.ref h_this_polynomial_numbers, .int v_polynomial_monomials])), (h_this_polynomial_numbers, .inl (cI, 2325, .inl v_polynomial_numbers)), (h_this_doneRules, .inr (0, [.ref h_this_doneRules_kinds, .ref h_this_doneRules_ys, .ref h_this_doneRules_zs, .int v_doneRules_count])), (h_this_doneRules_kinds, .inl (cI, 24, .inl v_doneRules_kinds)), (h_this_doneRules_ys, .inl (cI, 24, .inl v_doneRules_ys)), (h_this_doneRules_zs, .inl (cI, 24, .inl v_doneRules_zs)), (h_this_values, .inl (cI, 6, .inl v_values))]) C (c_Po_partnersOf h_3) mi_Po_partnersOf zw_278 (by decide) 0 rfl rfl [1, 2] (by decide) rfl rfl rfl rfl rfl (by decide) ⟨Nat.zero_le _, Nat.zero_le _⟩ d_Ps_doRule_16 ?_
  refine z_istore (lv' := [(4, .int r_4), (3, .int r_2), (0, .ref h_this), (1, .int x1), (2, .int x2)]) C d_Ps_doRule_19 (by decide) rfl ?_
  refine z_iload_n C d_Ps_doRule_21 rfl 3 rfl ?_
  refine z_iconst (v := 3) C d_Ps_doRule_22 (by decide) ?_
  refine z_icmp_ne (tgt := 41) C d_Ps_doRule_23 (by decide) (fun c_5 => ?_) (fun c_5 => ?_)
  · have hf := zif_neg c_5 hf
    refine z_iconst (v := -1) C d_Ps_doRule_41 (by decide) ?_
    refine z_lv [2, 3, 4, 1, 0] rfl ?_
    exact k_Ps_doRule_j42 C hr hf
  · have hf := zif_pos c_5 hf
    refine z_iload C d_Ps_doRule_26 0 rfl ?_
    refine z_aload_n C d_Ps_doRule_28 rfl 2 rfl ?_
    refine z_get C iw_Ps 0 rfl rfl 8 (by decide) zw_168 rfl d_Ps_doRule_29 ?_
    refine z_iconst (v := -1) C d_Ps_doRule_32 (by decide) ?_
    refine z_ixor C d_Ps_doRule_33 ?_
    refine z_iand C d_Ps_doRule_34 ?_
    obtain ⟨r_7, h_6, hf⟩ := zb1_elim hf
    refine z_callS (As := [.int (r_4 &&& (v_inputBits ^^^ (-1 : Int32)))]) (rest := []) (ws' := [(h_this, .inr (4, [.ref h_this_values, .ref h_this_polynomial, .ref h_this_doneRules, .ref h_this_ways, .ref h_this_root, .int v_wireCount, .int v_bitsCame, .int v_bitsThere, .int v_inputBits, .int v_rootsBelow, .int v_begunOpen, .int v_empty])), (h_this_polynomial, .inr (1, [.ref h_this_polynomial_numbers, .int v_polynomial_monomials])), (h_this_polynomial_numbers, .inl (cI, 2325, .inl v_polynomial_numbers)), (h_this_doneRules, .inr (0, [.ref h_this_doneRules_kinds, .ref h_this_doneRules_ys, .ref h_this_doneRules_zs, .int v_doneRules_count])), (h_this_doneRules_kinds, .inl (cI, 24, .inl v_doneRules_kinds)), (h_this_doneRules_ys, .inl (cI, 24, .inl v_doneRules_ys)), (h_this_doneRules_zs, .inl (cI, 24, .inl v_doneRules_zs)), (h_this_values, .inl (cI, 6, .inl v_values))]) C (c_Ps_greatestOf h_6) mi_Ps_greatestOf zw_287 (by decide) [] (by decide) rfl rfl rfl rfl rfl (by decide) ⟨Nat.zero_le _, Nat.zero_le _⟩ d_Ps_doRule_35 ?_
    refine z_goto (tgt := 42) C d_Ps_doRule_38 (by decide) ?_
    refine z_lv [2, 3, 4, 1, 0] rfl ?_
    exact k_Ps_doRule_j42 C hr hf
theorem c_Ps_doRule {l : Launch} {D : va_G} {cI cL : ClassId} {h_this h_this_values h_this_polynomial h_this_doneRules h_this_ways h_this_root h_this_polynomial_numbers h_this_doneRules_kinds h_this_doneRules_ys h_this_doneRules_zs : Nat} {v_wireCount v_bitsCame v_bitsThere v_inputBits v_rootsBelow v_begunOpen v_empty v_polynomial_monomials v_doneRules_count o_bitsThere o_rootsBelow o_empty o_polynomial_monomials o_doneRules_count x1 x2 : Int32} {v_polynomial_numbers v_doneRules_kinds v_doneRules_ys v_doneRules_zs v_values o_polynomial_numbers o_doneRules_kinds o_doneRules_ys o_doneRules_zs o_values : Nat → Int32} (hf : f_Ps_doRule x1 x2 v_bitsThere v_inputBits v_rootsBelow v_empty v_polynomial_monomials v_polynomial_numbers v_doneRules_count v_doneRules_kinds v_doneRules_ys v_doneRules_zs v_values = some (o_bitsThere, o_rootsBelow, o_empty, o_polynomial_monomials, o_polynomial_numbers, o_doneRules_count, o_doneRules_kinds, o_doneRules_ys, o_doneRules_zs, o_values)) : zM l y_Ps_doRule (Cond.code y_Ps_doRule b_Ps_doRule 7 none :: zT) rm_Ps_doRule D vwCl [(cI, .int), (cL, .long)] [.ref h_this, .int x1, .int x2] [(h_this, .inr (4, [.ref h_this_values, .ref h_this_polynomial, .ref h_this_doneRules, .ref h_this_ways, .ref h_this_root, .int v_wireCount, .int v_bitsCame, .int v_bitsThere, .int v_inputBits, .int v_rootsBelow, .int v_begunOpen, .int v_empty])), (h_this_polynomial, .inr (1, [.ref h_this_polynomial_numbers, .int v_polynomial_monomials])), (h_this_polynomial_numbers, .inl (cI, 2325, .inl v_polynomial_numbers)), (h_this_doneRules, .inr (0, [.ref h_this_doneRules_kinds, .ref h_this_doneRules_ys, .ref h_this_doneRules_zs, .int v_doneRules_count])), (h_this_doneRules_kinds, .inl (cI, 24, .inl v_doneRules_kinds)), (h_this_doneRules_ys, .inl (cI, 24, .inl v_doneRules_ys)), (h_this_doneRules_zs, .inl (cI, 24, .inl v_doneRules_zs)), (h_this_values, .inl (cI, 6, .inl v_values))] [(h_this, .inr (4, [.ref h_this_values, .ref h_this_polynomial, .ref h_this_doneRules, .ref h_this_ways, .ref h_this_root, .int v_wireCount, .int v_bitsCame, .int o_bitsThere, .int v_inputBits, .int o_rootsBelow, .int v_begunOpen, .int o_empty])), (h_this_polynomial, .inr (1, [.ref h_this_polynomial_numbers, .int o_polynomial_monomials])), (h_this_polynomial_numbers, .inl (cI, 2325, .inl o_polynomial_numbers)), (h_this_doneRules, .inr (0, [.ref h_this_doneRules_kinds, .ref h_this_doneRules_ys, .ref h_this_doneRules_zs, .int o_doneRules_count])), (h_this_doneRules_kinds, .inl (cI, 24, .inl o_doneRules_kinds)), (h_this_doneRules_ys, .inl (cI, 24, .inl o_doneRules_ys)), (h_this_doneRules_zs, .inl (cI, 24, .inl o_doneRules_zs)), (h_this_values, .inl (cI, 6, .inl o_values))] (none) :=
  zM.intro (by decide) rfl (fun _ h => List.mem_cons_of_mem _ h) (Nat.le_of_ble_eq_true rfl) (fun _ _ _ _ _ _ _ C hr _ => k_Ps_doRule C hr hf)
def rm_Ps_findAmplitude : Room := { frames := 5, cells := 0, slots := 0, locals := 119 }
def f_Ps_findAmplitude_l6 (x1 : Int32) (x2 : Int32) (x3 : Int32) (v_wireCount : Int32) (v_rootsBelow : Int32) (v_values : Nat → Int32) (v_ways_chosen : Int32) (v_ways_wayOf : Nat → Int32) (v_ways_wiresOf : Nat → Int32) (v_ways_phases : Nat → Int32) (v_polynomial_numbers : Nat → Int32) (v_ways_tallies : Nat → Int32) (v_root_a : Int64) (v_root_b : Int64) (v_root_c : Int64) (v_root_d : Int64) (v_root_k : Int32) (x4 : Int32) (x5 : Int32) : Option ((Int32 × Int32) ⊕ (Int32)) :=
  if v_wireCount ≤ x5 then (
    some (.inr (x4)))
  else (
    if (6 : Int32) ≤ x5 then (
      some (.inr (x4)))
    else (
      if x5 < 0 ∨ 6 ≤ x5.toNatClampNeg then none else
      zlet (x4 ||| (((f_Jint_bitCount ((v_values x5.toNatClampNeg) &&& (x2 ||| (16777216 : Int32)))) &&& (1 : Int32)) <<< (x5 &&& 31))) fun y_5 =>
      zlet (x5 + 1) fun y_6 =>
      some (.inl (y_5, y_6))))
set_option maxRecDepth 100000 in
set_option maxHeartbeats 4000000 in
theorem k_Ps_findAmplitude_l6 {p : Program} {l : Launch} {e : Env} {s : State} {m : MethodId} {args : Array Value} {below : List Frame} {meth : Method} {c : Code} {D : va_G} {cI cL : ClassId} {h_this h_this_values h_this_polynomial h_this_doneRules h_this_ways h_this_root h_this_ways_phases h_this_ways_wayOf h_this_ways_wiresOf h_this_ways_tallies h_this_polynomial_numbers : Nat} {v_wireCount v_bitsCame v_bitsThere v_inputBits v_rootsBelow v_begunOpen v_empty v_ways_chosen v_polynomial_monomials v_root_k o_ways_chosen o_root_k x1 x2 x3 x4 x5 : Int32} {v_values v_ways_wayOf v_ways_wiresOf v_ways_phases v_polynomial_numbers v_ways_tallies o_ways_wayOf o_ways_wiresOf o_ways_phases o_ways_tallies : Nat → Int32} {v_root_a v_root_b v_root_c v_root_d o_root_a o_root_b o_root_c o_root_d : Int64} (C : zC p s m args meth c b_Ps_findAmplitude 6 R_Ps D vwCl [(cI, .int), (cL, .long)] (zA [h_this, h_this_values, h_this_ways, h_this_ways_wayOf, h_this_ways_wiresOf, h_this_ways_phases, h_this_polynomial, h_this_polynomial_numbers, h_this_ways_tallies, h_this_root] s.heap.size)) (hr : meth.sig.returnType = none) {z : (Int32 × Int32) ⊕ (Int32)} (hf : f_Ps_findAmplitude_l6 x1 x2 x3 v_wireCount v_rootsBelow v_values v_ways_chosen v_ways_wayOf v_ways_wiresOf v_ways_phases v_polynomial_numbers v_ways_tallies v_root_a v_root_b v_root_c v_root_d v_root_k x4 x5 = some z) (hK : zcase (fun q => ZV p l e rm_Ps_findAmplitude s m args below meth c 6 D (none) [(h_this, .inr (4, [.ref h_this_values, .ref h_this_polynomial, .ref h_this_doneRules, .ref h_this_ways, .ref h_this_root, .int v_wireCount, .int v_bitsCame, .int v_bitsThere, .int v_inputBits, .int v_rootsBelow, .int v_begunOpen, .int v_empty])), (h_this_values, .inl (cI, 6, .inl v_values)), (h_this_ways, .inr (3, [.ref h_this_ways_phases, .ref h_this_ways_wayOf, .ref h_this_ways_wiresOf, .ref h_this_ways_tallies, .int o_ways_chosen])), (h_this_ways_wayOf, .inl (cI, 24, .inl o_ways_wayOf)), (h_this_ways_wiresOf, .inl (cI, 12, .inl o_ways_wiresOf)), (h_this_ways_phases, .inl (cI, 4096, .inl o_ways_phases)), (h_this_polynomial, .inr (1, [.ref h_this_polynomial_numbers, .int v_polynomial_monomials])), (h_this_polynomial_numbers, .inl (cI, 2325, .inl v_polynomial_numbers)), (h_this_ways_tallies, .inl (cI, 8, .inl o_ways_tallies)), (h_this_root, .inr (2, [.long o_root_a, .long o_root_b, .long o_root_c, .long o_root_d, .int o_root_k]))] [h_this, h_this_values, h_this_ways, h_this_ways_wayOf, h_this_ways_wiresOf, h_this_ways_phases, h_this_polynomial, h_this_polynomial_numbers, h_this_ways_tallies, h_this_root] [(h_this, .inr (4, [.ref h_this_values, .ref h_this_polynomial, .ref h_this_doneRules, .ref h_this_ways, .ref h_this_root, .int v_wireCount, .int v_bitsCame, .int v_bitsThere, .int v_inputBits, .int v_rootsBelow, .int v_begunOpen, .int v_empty])), (h_this_values, .inl (cI, 6, .inl v_values)), (h_this_ways, .inr (3, [.ref h_this_ways_phases, .ref h_this_ways_wayOf, .ref h_this_ways_wiresOf, .ref h_this_ways_tallies, .int v_ways_chosen])), (h_this_ways_wayOf, .inl (cI, 24, .inl v_ways_wayOf)), (h_this_ways_wiresOf, .inl (cI, 12, .inl v_ways_wiresOf)), (h_this_ways_phases, .inl (cI, 4096, .inl v_ways_phases)), (h_this_polynomial, .inr (1, [.ref h_this_polynomial_numbers, .int v_polynomial_monomials])), (h_this_polynomial_numbers, .inl (cI, 2325, .inl v_polynomial_numbers)), (h_this_ways_tallies, .inl (cI, 8, .inl v_ways_tallies)), (h_this_root, .inr (2, [.long v_root_a, .long v_root_b, .long v_root_c, .long v_root_d, .int v_root_k]))] 6 [(0, .ref h_this), (1, .int x1), (2, .int x2), (3, .int x3), (4, .int q.1), (5, .int q.2)] []) (fun q => ZV p l e rm_Ps_findAmplitude s m args below meth c 6 D (none) [(h_this, .inr (4, [.ref h_this_values, .ref h_this_polynomial, .ref h_this_doneRules, .ref h_this_ways, .ref h_this_root, .int v_wireCount, .int v_bitsCame, .int v_bitsThere, .int v_inputBits, .int v_rootsBelow, .int v_begunOpen, .int v_empty])), (h_this_values, .inl (cI, 6, .inl v_values)), (h_this_ways, .inr (3, [.ref h_this_ways_phases, .ref h_this_ways_wayOf, .ref h_this_ways_wiresOf, .ref h_this_ways_tallies, .int o_ways_chosen])), (h_this_ways_wayOf, .inl (cI, 24, .inl o_ways_wayOf)), (h_this_ways_wiresOf, .inl (cI, 12, .inl o_ways_wiresOf)), (h_this_ways_phases, .inl (cI, 4096, .inl o_ways_phases)), (h_this_polynomial, .inr (1, [.ref h_this_polynomial_numbers, .int v_polynomial_monomials])), (h_this_polynomial_numbers, .inl (cI, 2325, .inl v_polynomial_numbers)), (h_this_ways_tallies, .inl (cI, 8, .inl o_ways_tallies)), (h_this_root, .inr (2, [.long o_root_a, .long o_root_b, .long o_root_c, .long o_root_d, .int o_root_k]))] [h_this, h_this_values, h_this_ways, h_this_ways_wayOf, h_this_ways_wiresOf, h_this_ways_phases, h_this_polynomial, h_this_polynomial_numbers, h_this_ways_tallies, h_this_root] [(h_this, .inr (4, [.ref h_this_values, .ref h_this_polynomial, .ref h_this_doneRules, .ref h_this_ways, .ref h_this_root, .int v_wireCount, .int v_bitsCame, .int v_bitsThere, .int v_inputBits, .int v_rootsBelow, .int v_begunOpen, .int v_empty])), (h_this_values, .inl (cI, 6, .inl v_values)), (h_this_ways, .inr (3, [.ref h_this_ways_phases, .ref h_this_ways_wayOf, .ref h_this_ways_wiresOf, .ref h_this_ways_tallies, .int v_ways_chosen])), (h_this_ways_wayOf, .inl (cI, 24, .inl v_ways_wayOf)), (h_this_ways_wiresOf, .inl (cI, 12, .inl v_ways_wiresOf)), (h_this_ways_phases, .inl (cI, 4096, .inl v_ways_phases)), (h_this_polynomial, .inr (1, [.ref h_this_polynomial_numbers, .int v_polynomial_monomials])), (h_this_polynomial_numbers, .inl (cI, 2325, .inl v_polynomial_numbers)), (h_this_ways_tallies, .inl (cI, 8, .inl v_ways_tallies)), (h_this_root, .inr (2, [.long v_root_a, .long v_root_b, .long v_root_c, .long v_root_d, .int v_root_k]))] 53 [(0, .ref h_this), (1, .int x1), (2, .int x2), (3, .int x3), (4, .int q)] []) z) : ZV p l e rm_Ps_findAmplitude s m args below meth c 6 D (none) [(h_this, .inr (4, [.ref h_this_values, .ref h_this_polynomial, .ref h_this_doneRules, .ref h_this_ways, .ref h_this_root, .int v_wireCount, .int v_bitsCame, .int v_bitsThere, .int v_inputBits, .int v_rootsBelow, .int v_begunOpen, .int v_empty])), (h_this_values, .inl (cI, 6, .inl v_values)), (h_this_ways, .inr (3, [.ref h_this_ways_phases, .ref h_this_ways_wayOf, .ref h_this_ways_wiresOf, .ref h_this_ways_tallies, .int o_ways_chosen])), (h_this_ways_wayOf, .inl (cI, 24, .inl o_ways_wayOf)), (h_this_ways_wiresOf, .inl (cI, 12, .inl o_ways_wiresOf)), (h_this_ways_phases, .inl (cI, 4096, .inl o_ways_phases)), (h_this_polynomial, .inr (1, [.ref h_this_polynomial_numbers, .int v_polynomial_monomials])), (h_this_polynomial_numbers, .inl (cI, 2325, .inl v_polynomial_numbers)), (h_this_ways_tallies, .inl (cI, 8, .inl o_ways_tallies)), (h_this_root, .inr (2, [.long o_root_a, .long o_root_b, .long o_root_c, .long o_root_d, .int o_root_k]))] [h_this, h_this_values, h_this_ways, h_this_ways_wayOf, h_this_ways_wiresOf, h_this_ways_phases, h_this_polynomial, h_this_polynomial_numbers, h_this_ways_tallies, h_this_root] [(h_this, .inr (4, [.ref h_this_values, .ref h_this_polynomial, .ref h_this_doneRules, .ref h_this_ways, .ref h_this_root, .int v_wireCount, .int v_bitsCame, .int v_bitsThere, .int v_inputBits, .int v_rootsBelow, .int v_begunOpen, .int v_empty])), (h_this_values, .inl (cI, 6, .inl v_values)), (h_this_ways, .inr (3, [.ref h_this_ways_phases, .ref h_this_ways_wayOf, .ref h_this_ways_wiresOf, .ref h_this_ways_tallies, .int v_ways_chosen])), (h_this_ways_wayOf, .inl (cI, 24, .inl v_ways_wayOf)), (h_this_ways_wiresOf, .inl (cI, 12, .inl v_ways_wiresOf)), (h_this_ways_phases, .inl (cI, 4096, .inl v_ways_phases)), (h_this_polynomial, .inr (1, [.ref h_this_polynomial_numbers, .int v_polynomial_monomials])), (h_this_polynomial_numbers, .inl (cI, 2325, .inl v_polynomial_numbers)), (h_this_ways_tallies, .inl (cI, 8, .inl v_ways_tallies)), (h_this_root, .inr (2, [.long v_root_a, .long v_root_b, .long v_root_c, .long v_root_d, .int v_root_k]))] 6 [(0, .ref h_this), (1, .int x1), (2, .int x2), (3, .int x3), (4, .int x4), (5, .int x5)] [] := by
  unfold f_Ps_findAmplitude_l6 at hf
  refine z_iload C d_Ps_findAmplitude_6 5 rfl ?_
  refine z_aload_n C d_Ps_findAmplitude_8 rfl 0 rfl ?_
  refine z_get C iw_Ps 0 rfl rfl 5 (by decide) zw_165 rfl d_Ps_findAmplitude_9 ?_
  refine z_icmp_ge (tgt := 53) C d_Ps_findAmplitude_12 (by decide) (fun c_1 => ?_) (fun c_1 => ?_)
  · have hf := zif_pos c_1 hf
    refine z_lv [0, 1, 2, 3, 4] rfl ?_
    cases hf
    exact hK
  · have hf := zif_neg c_1 hf
    refine z_iload C d_Ps_findAmplitude_15 5 rfl ?_
    refine z_bipush (v := 6) C d_Ps_findAmplitude_17 (by decide) ?_
    refine z_icmp_ge (tgt := 53) C d_Ps_findAmplitude_19 (by decide) (fun c_2 => ?_) (fun c_2 => ?_)
    · have hf := zif_pos c_2 hf
      refine z_lv [0, 1, 2, 3, 4] rfl ?_
      cases hf
      exact hK
    · have hf := zif_neg c_2 hf
      refine z_iload C d_Ps_findAmplitude_22 4 rfl ?_
      refine z_aload_n C d_Ps_findAmplitude_24 rfl 0 rfl ?_
      refine z_get C iw_Ps 0 rfl rfl 0 (by decide) zw_160 rfl d_Ps_findAmplitude_25 ?_
      refine z_iload C d_Ps_findAmplitude_28 5 rfl ?_
      obtain ⟨g_3, hf⟩ := zguard hf
      refine z_iald C 1 0 rfl rfl g_3 d_Ps_findAmplitude_30 ?_
      refine z_iload_n C d_Ps_findAmplitude_31 rfl 2 rfl ?_
      refine z_ldc (v := 16777216) C zw_207 d_Ps_findAmplitude_32 ?_
      refine z_ior C d_Ps_findAmplitude_34 ?_
      refine z_iand C d_Ps_findAmplitude_35 ?_
      refine z_callS (As := [.int ((v_values x5.toNatClampNeg) &&& (x2 ||| (16777216 : Int32)))]) (rest := [.int x4]) (ws' := [(h_this, .inr (4, [.ref h_this_values, .ref h_this_polynomial, .ref h_this_doneRules, .ref h_this_ways, .ref h_this_root, .int v_wireCount, .int v_bitsCame, .int v_bitsThere, .int v_inputBits, .int v_rootsBelow, .int v_begunOpen, .int v_empty])), (h_this_values, .inl (cI, 6, .inl v_values)), (h_this_ways, .inr (3, [.ref h_this_ways_phases, .ref h_this_ways_wayOf, .ref h_this_ways_wiresOf, .ref h_this_ways_tallies, .int v_ways_chosen])), (h_this_ways_wayOf, .inl (cI, 24, .inl v_ways_wayOf)), (h_this_ways_wiresOf, .inl (cI, 12, .inl v_ways_wiresOf)), (h_this_ways_phases, .inl (cI, 4096, .inl v_ways_phases)), (h_this_polynomial, .inr (1, [.ref h_this_polynomial_numbers, .int v_polynomial_monomials])), (h_this_polynomial_numbers, .inl (cI, 2325, .inl v_polynomial_numbers)), (h_this_ways_tallies, .inl (cI, 8, .inl v_ways_tallies)), (h_this_root, .inr (2, [.long v_root_a, .long v_root_b, .long v_root_c, .long v_root_d, .int v_root_k]))]) C (c_Jint_bitCount rfl) mi_Jint_bitCount zw_319 (by decide) [] (by decide) rfl rfl rfl rfl rfl (by decide) ⟨Nat.zero_le _, Nat.zero_le _⟩ d_Ps_findAmplitude_36 ?_
      refine z_iconst (v := 1) C d_Ps_findAmplitude_39 (by decide) ?_
      refine z_iand C d_Ps_findAmplitude_40 ?_
      refine z_iload C d_Ps_findAmplitude_41 5 rfl ?_
      refine z_ishl C d_Ps_findAmplitude_43 ?_
      refine z_ior C d_Ps_findAmplitude_44 ?_
      refine z_topi (fun y_5 ey_5 => ?_)
      have hf := zlet_at ey_5 hf
      refine z_istore (lv' := [(4, .int y_5), (0, .ref h_this), (1, .int x1), (2, .int x2), (3, .int x3), (5, .int x5)]) C d_Ps_findAmplitude_45 (by decide) rfl ?_
      obtain ⟨y_6, ey_6⟩ : ∃ y : Int32, y = x5 + 1 := ⟨_, rfl⟩
      have hf := zlet_at ey_6 hf
      refine z_iinc (v := y_6) (lv' := [(5, .int y_6), (4, .int y_5), (0, .ref h_this), (1, .int x1), (2, .int x2), (3, .int x3)]) C d_Ps_findAmplitude_47 (k := 5) rfl (by rw [ey_6]; rfl) (by decide) rfl ?_
      refine z_goto (tgt := 6) C d_Ps_findAmplitude_50 (by decide) ?_
      refine z_lv [2, 3, 4, 5, 1, 0] rfl ?_
      cases hf
      exact hK
theorem k_Ps_findAmplitude_l6_run {p : Program} {l : Launch} {e : Env} {s : State} {m : MethodId} {args : Array Value} {below : List Frame} {meth : Method} {c : Code} {D : va_G} {cI cL : ClassId} {h_this h_this_values h_this_polynomial h_this_doneRules h_this_ways h_this_root h_this_ways_phases h_this_ways_wayOf h_this_ways_wiresOf h_this_ways_tallies h_this_polynomial_numbers : Nat} {v_wireCount v_bitsCame v_bitsThere v_inputBits v_rootsBelow v_begunOpen v_empty v_ways_chosen v_polynomial_monomials v_root_k o_ways_chosen o_root_k x1 x2 x3 x4 x5 : Int32} {v_values v_ways_wayOf v_ways_wiresOf v_ways_phases v_polynomial_numbers v_ways_tallies o_ways_wayOf o_ways_wiresOf o_ways_phases o_ways_tallies : Nat → Int32} {v_root_a v_root_b v_root_c v_root_d o_root_a o_root_b o_root_c o_root_d : Int64} (C : zC p s m args meth c b_Ps_findAmplitude 6 R_Ps D vwCl [(cI, .int), (cL, .long)] (zA [h_this, h_this_values, h_this_ways, h_this_ways_wayOf, h_this_ways_wiresOf, h_this_ways_phases, h_this_polynomial, h_this_polynomial_numbers, h_this_ways_tallies, h_this_root] s.heap.size)) (hr : meth.sig.returnType = none) {o0 : Int32} (hf : zloop (fun q => f_Ps_findAmplitude_l6 x1 x2 x3 v_wireCount v_rootsBelow v_values v_ways_chosen v_ways_wayOf v_ways_wiresOf v_ways_phases v_polynomial_numbers v_ways_tallies v_root_a v_root_b v_root_c v_root_d v_root_k q.1 q.2) zF (x4, x5) = some o0) (hK : ZV p l e rm_Ps_findAmplitude s m args below meth c 6 D (none) [(h_this, .inr (4, [.ref h_this_values, .ref h_this_polynomial, .ref h_this_doneRules, .ref h_this_ways, .ref h_this_root, .int v_wireCount, .int v_bitsCame, .int v_bitsThere, .int v_inputBits, .int v_rootsBelow, .int v_begunOpen, .int v_empty])), (h_this_values, .inl (cI, 6, .inl v_values)), (h_this_ways, .inr (3, [.ref h_this_ways_phases, .ref h_this_ways_wayOf, .ref h_this_ways_wiresOf, .ref h_this_ways_tallies, .int o_ways_chosen])), (h_this_ways_wayOf, .inl (cI, 24, .inl o_ways_wayOf)), (h_this_ways_wiresOf, .inl (cI, 12, .inl o_ways_wiresOf)), (h_this_ways_phases, .inl (cI, 4096, .inl o_ways_phases)), (h_this_polynomial, .inr (1, [.ref h_this_polynomial_numbers, .int v_polynomial_monomials])), (h_this_polynomial_numbers, .inl (cI, 2325, .inl v_polynomial_numbers)), (h_this_ways_tallies, .inl (cI, 8, .inl o_ways_tallies)), (h_this_root, .inr (2, [.long o_root_a, .long o_root_b, .long o_root_c, .long o_root_d, .int o_root_k]))] [h_this, h_this_values, h_this_ways, h_this_ways_wayOf, h_this_ways_wiresOf, h_this_ways_phases, h_this_polynomial, h_this_polynomial_numbers, h_this_ways_tallies, h_this_root] [(h_this, .inr (4, [.ref h_this_values, .ref h_this_polynomial, .ref h_this_doneRules, .ref h_this_ways, .ref h_this_root, .int v_wireCount, .int v_bitsCame, .int v_bitsThere, .int v_inputBits, .int v_rootsBelow, .int v_begunOpen, .int v_empty])), (h_this_values, .inl (cI, 6, .inl v_values)), (h_this_ways, .inr (3, [.ref h_this_ways_phases, .ref h_this_ways_wayOf, .ref h_this_ways_wiresOf, .ref h_this_ways_tallies, .int v_ways_chosen])), (h_this_ways_wayOf, .inl (cI, 24, .inl v_ways_wayOf)), (h_this_ways_wiresOf, .inl (cI, 12, .inl v_ways_wiresOf)), (h_this_ways_phases, .inl (cI, 4096, .inl v_ways_phases)), (h_this_polynomial, .inr (1, [.ref h_this_polynomial_numbers, .int v_polynomial_monomials])), (h_this_polynomial_numbers, .inl (cI, 2325, .inl v_polynomial_numbers)), (h_this_ways_tallies, .inl (cI, 8, .inl v_ways_tallies)), (h_this_root, .inr (2, [.long v_root_a, .long v_root_b, .long v_root_c, .long v_root_d, .int v_root_k]))] 53 [(0, .ref h_this), (1, .int x1), (2, .int x2), (3, .int x3), (4, .int o0)] []) : ZV p l e rm_Ps_findAmplitude s m args below meth c 6 D (none) [(h_this, .inr (4, [.ref h_this_values, .ref h_this_polynomial, .ref h_this_doneRules, .ref h_this_ways, .ref h_this_root, .int v_wireCount, .int v_bitsCame, .int v_bitsThere, .int v_inputBits, .int v_rootsBelow, .int v_begunOpen, .int v_empty])), (h_this_values, .inl (cI, 6, .inl v_values)), (h_this_ways, .inr (3, [.ref h_this_ways_phases, .ref h_this_ways_wayOf, .ref h_this_ways_wiresOf, .ref h_this_ways_tallies, .int o_ways_chosen])), (h_this_ways_wayOf, .inl (cI, 24, .inl o_ways_wayOf)), (h_this_ways_wiresOf, .inl (cI, 12, .inl o_ways_wiresOf)), (h_this_ways_phases, .inl (cI, 4096, .inl o_ways_phases)), (h_this_polynomial, .inr (1, [.ref h_this_polynomial_numbers, .int v_polynomial_monomials])), (h_this_polynomial_numbers, .inl (cI, 2325, .inl v_polynomial_numbers)), (h_this_ways_tallies, .inl (cI, 8, .inl o_ways_tallies)), (h_this_root, .inr (2, [.long o_root_a, .long o_root_b, .long o_root_c, .long o_root_d, .int o_root_k]))] [h_this, h_this_values, h_this_ways, h_this_ways_wayOf, h_this_ways_wiresOf, h_this_ways_phases, h_this_polynomial, h_this_polynomial_numbers, h_this_ways_tallies, h_this_root] [(h_this, .inr (4, [.ref h_this_values, .ref h_this_polynomial, .ref h_this_doneRules, .ref h_this_ways, .ref h_this_root, .int v_wireCount, .int v_bitsCame, .int v_bitsThere, .int v_inputBits, .int v_rootsBelow, .int v_begunOpen, .int v_empty])), (h_this_values, .inl (cI, 6, .inl v_values)), (h_this_ways, .inr (3, [.ref h_this_ways_phases, .ref h_this_ways_wayOf, .ref h_this_ways_wiresOf, .ref h_this_ways_tallies, .int v_ways_chosen])), (h_this_ways_wayOf, .inl (cI, 24, .inl v_ways_wayOf)), (h_this_ways_wiresOf, .inl (cI, 12, .inl v_ways_wiresOf)), (h_this_ways_phases, .inl (cI, 4096, .inl v_ways_phases)), (h_this_polynomial, .inr (1, [.ref h_this_polynomial_numbers, .int v_polynomial_monomials])), (h_this_polynomial_numbers, .inl (cI, 2325, .inl v_polynomial_numbers)), (h_this_ways_tallies, .inl (cI, 8, .inl v_ways_tallies)), (h_this_root, .inr (2, [.long v_root_a, .long v_root_b, .long v_root_c, .long v_root_d, .int v_root_k]))] 6 [(0, .ref h_this), (1, .int x1), (2, .int x2), (3, .int x3), (4, .int x4), (5, .int x5)] [] :=
  zloop_run (P := fun q => ZV p l e rm_Ps_findAmplitude s m args below meth c 6 D (none) [(h_this, .inr (4, [.ref h_this_values, .ref h_this_polynomial, .ref h_this_doneRules, .ref h_this_ways, .ref h_this_root, .int v_wireCount, .int v_bitsCame, .int v_bitsThere, .int v_inputBits, .int v_rootsBelow, .int v_begunOpen, .int v_empty])), (h_this_values, .inl (cI, 6, .inl v_values)), (h_this_ways, .inr (3, [.ref h_this_ways_phases, .ref h_this_ways_wayOf, .ref h_this_ways_wiresOf, .ref h_this_ways_tallies, .int o_ways_chosen])), (h_this_ways_wayOf, .inl (cI, 24, .inl o_ways_wayOf)), (h_this_ways_wiresOf, .inl (cI, 12, .inl o_ways_wiresOf)), (h_this_ways_phases, .inl (cI, 4096, .inl o_ways_phases)), (h_this_polynomial, .inr (1, [.ref h_this_polynomial_numbers, .int v_polynomial_monomials])), (h_this_polynomial_numbers, .inl (cI, 2325, .inl v_polynomial_numbers)), (h_this_ways_tallies, .inl (cI, 8, .inl o_ways_tallies)), (h_this_root, .inr (2, [.long o_root_a, .long o_root_b, .long o_root_c, .long o_root_d, .int o_root_k]))] [h_this, h_this_values, h_this_ways, h_this_ways_wayOf, h_this_ways_wiresOf, h_this_ways_phases, h_this_polynomial, h_this_polynomial_numbers, h_this_ways_tallies, h_this_root] [(h_this, .inr (4, [.ref h_this_values, .ref h_this_polynomial, .ref h_this_doneRules, .ref h_this_ways, .ref h_this_root, .int v_wireCount, .int v_bitsCame, .int v_bitsThere, .int v_inputBits, .int v_rootsBelow, .int v_begunOpen, .int v_empty])), (h_this_values, .inl (cI, 6, .inl v_values)), (h_this_ways, .inr (3, [.ref h_this_ways_phases, .ref h_this_ways_wayOf, .ref h_this_ways_wiresOf, .ref h_this_ways_tallies, .int v_ways_chosen])), (h_this_ways_wayOf, .inl (cI, 24, .inl v_ways_wayOf)), (h_this_ways_wiresOf, .inl (cI, 12, .inl v_ways_wiresOf)), (h_this_ways_phases, .inl (cI, 4096, .inl v_ways_phases)), (h_this_polynomial, .inr (1, [.ref h_this_polynomial_numbers, .int v_polynomial_monomials])), (h_this_polynomial_numbers, .inl (cI, 2325, .inl v_polynomial_numbers)), (h_this_ways_tallies, .inl (cI, 8, .inl v_ways_tallies)), (h_this_root, .inr (2, [.long v_root_a, .long v_root_b, .long v_root_c, .long v_root_d, .int v_root_k]))] 6 [(0, .ref h_this), (1, .int x1), (2, .int x2), (3, .int x3), (4, .int q.1), (5, .int q.2)] []) (K := (fun q => ZV p l e rm_Ps_findAmplitude s m args below meth c 6 D (none) [(h_this, .inr (4, [.ref h_this_values, .ref h_this_polynomial, .ref h_this_doneRules, .ref h_this_ways, .ref h_this_root, .int v_wireCount, .int v_bitsCame, .int v_bitsThere, .int v_inputBits, .int v_rootsBelow, .int v_begunOpen, .int v_empty])), (h_this_values, .inl (cI, 6, .inl v_values)), (h_this_ways, .inr (3, [.ref h_this_ways_phases, .ref h_this_ways_wayOf, .ref h_this_ways_wiresOf, .ref h_this_ways_tallies, .int o_ways_chosen])), (h_this_ways_wayOf, .inl (cI, 24, .inl o_ways_wayOf)), (h_this_ways_wiresOf, .inl (cI, 12, .inl o_ways_wiresOf)), (h_this_ways_phases, .inl (cI, 4096, .inl o_ways_phases)), (h_this_polynomial, .inr (1, [.ref h_this_polynomial_numbers, .int v_polynomial_monomials])), (h_this_polynomial_numbers, .inl (cI, 2325, .inl v_polynomial_numbers)), (h_this_ways_tallies, .inl (cI, 8, .inl o_ways_tallies)), (h_this_root, .inr (2, [.long o_root_a, .long o_root_b, .long o_root_c, .long o_root_d, .int o_root_k]))] [h_this, h_this_values, h_this_ways, h_this_ways_wayOf, h_this_ways_wiresOf, h_this_ways_phases, h_this_polynomial, h_this_polynomial_numbers, h_this_ways_tallies, h_this_root] [(h_this, .inr (4, [.ref h_this_values, .ref h_this_polynomial, .ref h_this_doneRules, .ref h_this_ways, .ref h_this_root, .int v_wireCount, .int v_bitsCame, .int v_bitsThere, .int v_inputBits, .int v_rootsBelow, .int v_begunOpen, .int v_empty])), (h_this_values, .inl (cI, 6, .inl v_values)), (h_this_ways, .inr (3, [.ref h_this_ways_phases, .ref h_this_ways_wayOf, .ref h_this_ways_wiresOf, .ref h_this_ways_tallies, .int v_ways_chosen])), (h_this_ways_wayOf, .inl (cI, 24, .inl v_ways_wayOf)), (h_this_ways_wiresOf, .inl (cI, 12, .inl v_ways_wiresOf)), (h_this_ways_phases, .inl (cI, 4096, .inl v_ways_phases)), (h_this_polynomial, .inr (1, [.ref h_this_polynomial_numbers, .int v_polynomial_monomials])), (h_this_polynomial_numbers, .inl (cI, 2325, .inl v_polynomial_numbers)), (h_this_ways_tallies, .inl (cI, 8, .inl v_ways_tallies)), (h_this_root, .inr (2, [.long v_root_a, .long v_root_b, .long v_root_c, .long v_root_d, .int v_root_k]))] 53 [(0, .ref h_this), (1, .int x1), (2, .int x2), (3, .int x3), (4, .int q)] [])) (fun q z hz hK => k_Ps_findAmplitude_l6 C hr hz hK) zF _ (o0) hf hK
/-- PathSums.findAmplitude(III)V -/
def f_Ps_findAmplitude (x1 : Int32) (x2 : Int32) (x3 : Int32) (v_wireCount : Int32) (v_rootsBelow : Int32) (v_values : Nat → Int32) (v_ways_chosen : Int32) (v_ways_wayOf : Nat → Int32) (v_ways_wiresOf : Nat → Int32) (v_ways_phases : Nat → Int32) (v_polynomial_numbers : Nat → Int32) (v_ways_tallies : Nat → Int32) (v_root_a : Int64) (v_root_b : Int64) (v_root_c : Int64) (v_root_d : Int64) (v_root_k : Int32) : Option (Int32 × (Nat → Int32) × (Nat → Int32) × (Nat → Int32) × (Nat → Int32) × Int64 × Int64 × Int64 × Int64 × Int32) :=
  zb1 (zloop (fun q => f_Ps_findAmplitude_l6 x1 x2 x3 v_wireCount v_rootsBelow v_values v_ways_chosen v_ways_wayOf v_ways_wiresOf v_ways_phases v_polynomial_numbers v_ways_tallies v_root_a v_root_b v_root_c v_root_d v_root_k q.1 q.2) zF ((0 : Int32), (0 : Int32))) fun y_1 =>
  zb3 (f_Wa_choose x1 v_ways_chosen v_ways_wayOf v_values v_ways_wiresOf) fun q_4 q_5 q_6 =>
  zb1 (f_Wa_findPhases (x1 ||| x2) q_4 v_ways_phases v_polynomial_numbers q_5) fun q_8 =>
  zb1 (f_Wa_tally y_1 x3 q_4 v_ways_tallies q_6 q_8) fun q_10 =>
  zb5 (f_Ro_take v_rootsBelow v_root_a v_root_b v_root_c v_root_d v_root_k q_10) fun q_12 q_13 q_14 q_15 q_16 =>
  some (q_4, q_5, q_6, q_8, q_10, q_12, q_13, q_14, q_15, q_16)
set_option maxRecDepth 100000 in
set_option maxHeartbeats 4000000 in
theorem k_Ps_findAmplitude {p : Program} {l : Launch} {e : Env} {s : State} {m : MethodId} {args : Array Value} {below : List Frame} {meth : Method} {c : Code} {D : va_G} {cI cL : ClassId} {h_this h_this_values h_this_polynomial h_this_doneRules h_this_ways h_this_root h_this_ways_phases h_this_ways_wayOf h_this_ways_wiresOf h_this_ways_tallies h_this_polynomial_numbers : Nat} {v_wireCount v_bitsCame v_bitsThere v_inputBits v_rootsBelow v_begunOpen v_empty v_ways_chosen v_polynomial_monomials v_root_k o_ways_chosen o_root_k x1 x2 x3 : Int32} {v_values v_ways_wayOf v_ways_wiresOf v_ways_phases v_polynomial_numbers v_ways_tallies o_ways_wayOf o_ways_wiresOf o_ways_phases o_ways_tallies : Nat → Int32} {v_root_a v_root_b v_root_c v_root_d o_root_a o_root_b o_root_c o_root_d : Int64} (C : zC p s m args meth c b_Ps_findAmplitude 6 R_Ps D vwCl [(cI, .int), (cL, .long)] (zA [h_this, h_this_values, h_this_ways, h_this_ways_wayOf, h_this_ways_wiresOf, h_this_ways_phases, h_this_polynomial, h_this_polynomial_numbers, h_this_ways_tallies, h_this_root] s.heap.size)) (hr : meth.sig.returnType = none) (hf : f_Ps_findAmplitude x1 x2 x3 v_wireCount v_rootsBelow v_values v_ways_chosen v_ways_wayOf v_ways_wiresOf v_ways_phases v_polynomial_numbers v_ways_tallies v_root_a v_root_b v_root_c v_root_d v_root_k = some (o_ways_chosen, o_ways_wayOf, o_ways_wiresOf, o_ways_phases, o_ways_tallies, o_root_a, o_root_b, o_root_c, o_root_d, o_root_k)) : ZV p l e rm_Ps_findAmplitude s m args below meth c 6 D (none) [(h_this, .inr (4, [.ref h_this_values, .ref h_this_polynomial, .ref h_this_doneRules, .ref h_this_ways, .ref h_this_root, .int v_wireCount, .int v_bitsCame, .int v_bitsThere, .int v_inputBits, .int v_rootsBelow, .int v_begunOpen, .int v_empty])), (h_this_values, .inl (cI, 6, .inl v_values)), (h_this_ways, .inr (3, [.ref h_this_ways_phases, .ref h_this_ways_wayOf, .ref h_this_ways_wiresOf, .ref h_this_ways_tallies, .int o_ways_chosen])), (h_this_ways_wayOf, .inl (cI, 24, .inl o_ways_wayOf)), (h_this_ways_wiresOf, .inl (cI, 12, .inl o_ways_wiresOf)), (h_this_ways_phases, .inl (cI, 4096, .inl o_ways_phases)), (h_this_polynomial, .inr (1, [.ref h_this_polynomial_numbers, .int v_polynomial_monomials])), (h_this_polynomial_numbers, .inl (cI, 2325, .inl v_polynomial_numbers)), (h_this_ways_tallies, .inl (cI, 8, .inl o_ways_tallies)), (h_this_root, .inr (2, [.long o_root_a, .long o_root_b, .long o_root_c, .long o_root_d, .int o_root_k]))] [h_this, h_this_values, h_this_ways, h_this_ways_wayOf, h_this_ways_wiresOf, h_this_ways_phases, h_this_polynomial, h_this_polynomial_numbers, h_this_ways_tallies, h_this_root] [(h_this, .inr (4, [.ref h_this_values, .ref h_this_polynomial, .ref h_this_doneRules, .ref h_this_ways, .ref h_this_root, .int v_wireCount, .int v_bitsCame, .int v_bitsThere, .int v_inputBits, .int v_rootsBelow, .int v_begunOpen, .int v_empty])), (h_this_values, .inl (cI, 6, .inl v_values)), (h_this_ways, .inr (3, [.ref h_this_ways_phases, .ref h_this_ways_wayOf, .ref h_this_ways_wiresOf, .ref h_this_ways_tallies, .int v_ways_chosen])), (h_this_ways_wayOf, .inl (cI, 24, .inl v_ways_wayOf)), (h_this_ways_wiresOf, .inl (cI, 12, .inl v_ways_wiresOf)), (h_this_ways_phases, .inl (cI, 4096, .inl v_ways_phases)), (h_this_polynomial, .inr (1, [.ref h_this_polynomial_numbers, .int v_polynomial_monomials])), (h_this_polynomial_numbers, .inl (cI, 2325, .inl v_polynomial_numbers)), (h_this_ways_tallies, .inl (cI, 8, .inl v_ways_tallies)), (h_this_root, .inr (2, [.long v_root_a, .long v_root_b, .long v_root_c, .long v_root_d, .int v_root_k]))] 0 [(0, .ref h_this), (1, .int x1), (2, .int x2), (3, .int x3)] [] := by
  unfold f_Ps_findAmplitude at hf
  refine z_iconst (v := 0) C d_Ps_findAmplitude_0 (by decide) ?_
  refine z_istore (lv' := [(4, .int (0 : Int32)), (0, .ref h_this), (1, .int x1), (2, .int x2), (3, .int x3)]) C d_Ps_findAmplitude_1 (by decide) rfl ?_
  refine z_iconst (v := 0) C d_Ps_findAmplitude_3 (by decide) ?_
  refine z_istore (lv' := [(5, .int (0 : Int32)), (4, .int (0 : Int32)), (0, .ref h_this), (1, .int x1), (2, .int x2), (3, .int x3)]) C d_Ps_findAmplitude_4 (by decide) rfl ?_
  refine z_lv [2, 3, 4, 5, 1, 0] rfl ?_
  obtain ⟨y_1, h_2, hf⟩ := zb1_elim hf
  refine k_Ps_findAmplitude_l6_run C hr h_2 ?_
  refine z_aload_n C d_Ps_findAmplitude_53 rfl 0 rfl ?_
  refine z_get C iw_Ps 0 rfl rfl 3 (by decide) zw_163 rfl d_Ps_findAmplitude_54 ?_
  refine z_iload_n C d_Ps_findAmplitude_57 rfl 1 rfl ?_
  refine z_aload_n C d_Ps_findAmplitude_58 rfl 0 rfl ?_
  refine z_get C iw_Ps 0 rfl rfl 0 (by decide) zw_160 rfl d_Ps_findAmplitude_59 ?_
  obtain ⟨q_4, q_5, q_6, h_3, hf⟩ := zb3_elim hf
  refine z_callV (As := [.int x1, .ref h_this_values]) (rest := []) (ws' := [(h_this, .inr (4, [.ref h_this_values, .ref h_this_polynomial, .ref h_this_doneRules, .ref h_this_ways, .ref h_this_root, .int v_wireCount, .int v_bitsCame, .int v_bitsThere, .int v_inputBits, .int v_rootsBelow, .int v_begunOpen, .int v_empty])), (h_this_values, .inl (cI, 6, .inl v_values)), (h_this_ways, .inr (3, [.ref h_this_ways_phases, .ref h_this_ways_wayOf, .ref h_this_ways_wiresOf, .ref h_this_ways_tallies, .int q_4])), (h_this_ways_wayOf, .inl (cI, 24, .inl q_5)), (h_this_ways_wiresOf, .inl (cI, 12, .inl q_6)), (h_this_ways_phases, .inl (cI, 4096, .inl v_ways_phases)), (h_this_polynomial, .inr (1, [.ref h_this_polynomial_numbers, .int v_polynomial_monomials])), (h_this_polynomial_numbers, .inl (cI, 2325, .inl v_polynomial_numbers)), (h_this_ways_tallies, .inl (cI, 8, .inl v_ways_tallies)), (h_this_root, .inr (2, [.long v_root_a, .long v_root_b, .long v_root_c, .long v_root_d, .int v_root_k]))]) C (c_Wa_choose h_3) mi_Wa_choose zw_433 (by decide) 0 rfl rfl [2, 3, 1, 4] (by decide) rfl rfl rfl rfl rfl (by decide) ⟨Nat.zero_le _, Nat.zero_le _⟩ d_Ps_findAmplitude_62 ?_
  refine z_aload_n C d_Ps_findAmplitude_65 rfl 0 rfl ?_
  refine z_get C iw_Ps 0 rfl rfl 3 (by decide) zw_163 rfl d_Ps_findAmplitude_66 ?_
  refine z_aload_n C d_Ps_findAmplitude_69 rfl 0 rfl ?_
  refine z_get C iw_Ps 0 rfl rfl 1 (by decide) zw_161 rfl d_Ps_findAmplitude_70 ?_
  refine z_iload_n C d_Ps_findAmplitude_73 rfl 1 rfl ?_
  refine z_iload_n C d_Ps_findAmplitude_74 rfl 2 rfl ?_
  refine z_ior C d_Ps_findAmplitude_75 ?_
  obtain ⟨q_8, h_7, hf⟩ := zb1_elim hf
  refine z_callV (As := [.ref h_this_polynomial, .int (x1 ||| x2)]) (rest := []) (ws' := [(h_this, .inr (4, [.ref h_this_values, .ref h_this_polynomial, .ref h_this_doneRules, .ref h_this_ways, .ref h_this_root, .int v_wireCount, .int v_bitsCame, .int v_bitsThere, .int v_inputBits, .int v_rootsBelow, .int v_begunOpen, .int v_empty])), (h_this_values, .inl (cI, 6, .inl v_values)), (h_this_ways, .inr (3, [.ref h_this_ways_phases, .ref h_this_ways_wayOf, .ref h_this_ways_wiresOf, .ref h_this_ways_tallies, .int q_4])), (h_this_ways_wayOf, .inl (cI, 24, .inl q_5)), (h_this_ways_wiresOf, .inl (cI, 12, .inl q_6)), (h_this_ways_phases, .inl (cI, 4096, .inl q_8)), (h_this_polynomial, .inr (1, [.ref h_this_polynomial_numbers, .int v_polynomial_monomials])), (h_this_polynomial_numbers, .inl (cI, 2325, .inl v_polynomial_numbers)), (h_this_ways_tallies, .inl (cI, 8, .inl v_ways_tallies)), (h_this_root, .inr (2, [.long v_root_a, .long v_root_b, .long v_root_c, .long v_root_d, .int v_root_k]))]) C (c_Wa_findPhases h_7) mi_Wa_findPhases zw_441 (by decide) 0 rfl rfl [2, 5, 6, 7, 3] (by decide) rfl rfl rfl rfl rfl (by decide) ⟨Nat.zero_le _, Nat.zero_le _⟩ d_Ps_findAmplitude_76 ?_
  refine z_aload_n C d_Ps_findAmplitude_79 rfl 0 rfl ?_
  refine z_get C iw_Ps 0 rfl rfl 3 (by decide) zw_163 rfl d_Ps_findAmplitude_80 ?_
  refine z_iload C d_Ps_findAmplitude_83 4 rfl ?_
  refine z_iload_n C d_Ps_findAmplitude_85 rfl 3 rfl ?_
  obtain ⟨q_10, h_9, hf⟩ := zb1_elim hf
  refine z_callV (As := [.int y_1, .int x3]) (rest := []) (ws' := [(h_this, .inr (4, [.ref h_this_values, .ref h_this_polynomial, .ref h_this_doneRules, .ref h_this_ways, .ref h_this_root, .int v_wireCount, .int v_bitsCame, .int v_bitsThere, .int v_inputBits, .int v_rootsBelow, .int v_begunOpen, .int v_empty])), (h_this_values, .inl (cI, 6, .inl v_values)), (h_this_ways, .inr (3, [.ref h_this_ways_phases, .ref h_this_ways_wayOf, .ref h_this_ways_wiresOf, .ref h_this_ways_tallies, .int q_4])), (h_this_ways_wayOf, .inl (cI, 24, .inl q_5)), (h_this_ways_wiresOf, .inl (cI, 12, .inl q_6)), (h_this_ways_phases, .inl (cI, 4096, .inl q_8)), (h_this_polynomial, .inr (1, [.ref h_this_polynomial_numbers, .int v_polynomial_monomials])), (h_this_polynomial_numbers, .inl (cI, 2325, .inl v_polynomial_numbers)), (h_this_ways_tallies, .inl (cI, 8, .inl q_10)), (h_this_root, .inr (2, [.long v_root_a, .long v_root_b, .long v_root_c, .long v_root_d, .int v_root_k]))]) C (c_Wa_tally h_9) mi_Wa_tally zw_459 (by decide) 0 rfl rfl [2, 8, 4, 5] (by decide) rfl rfl rfl rfl rfl (by decide) ⟨Nat.zero_le _, Nat.zero_le _⟩ d_Ps_findAmplitude_86 ?_
  refine z_aload_n C d_Ps_findAmplitude_89 rfl 0 rfl ?_
  refine z_get C iw_Ps 0 rfl rfl 4 (by decide) zw_164 rfl d_Ps_findAmplitude_90 ?_
  refine z_aload_n C d_Ps_findAmplitude_93 rfl 0 rfl ?_
  refine z_get C iw_Ps 0 rfl rfl 3 (by decide) zw_163 rfl d_Ps_findAmplitude_94 ?_
  refine z_getN C iw_Wa 2 rfl rfl 3 (by decide) (znest C 5 rfl) rfl d_Ps_findAmplitude_97 ?_
  refine z_aload_n C d_Ps_findAmplitude_100 rfl 0 rfl ?_
  refine z_get C iw_Ps 0 rfl rfl 9 (by decide) zw_169 rfl d_Ps_findAmplitude_101 ?_
  obtain ⟨q_12, q_13, q_14, q_15, q_16, h_11, hf⟩ := zb5_elim hf
  refine z_callV (As := [.ref h_this_ways_tallies, .int v_rootsBelow]) (rest := []) (ws' := [(h_this, .inr (4, [.ref h_this_values, .ref h_this_polynomial, .ref h_this_doneRules, .ref h_this_ways, .ref h_this_root, .int v_wireCount, .int v_bitsCame, .int v_bitsThere, .int v_inputBits, .int v_rootsBelow, .int v_begunOpen, .int v_empty])), (h_this_values, .inl (cI, 6, .inl v_values)), (h_this_ways, .inr (3, [.ref h_this_ways_phases, .ref h_this_ways_wayOf, .ref h_this_ways_wiresOf, .ref h_this_ways_tallies, .int q_4])), (h_this_ways_wayOf, .inl (cI, 24, .inl q_5)), (h_this_ways_wiresOf, .inl (cI, 12, .inl q_6)), (h_this_ways_phases, .inl (cI, 4096, .inl q_8)), (h_this_polynomial, .inr (1, [.ref h_this_polynomial_numbers, .int v_polynomial_monomials])), (h_this_polynomial_numbers, .inl (cI, 2325, .inl v_polynomial_numbers)), (h_this_ways_tallies, .inl (cI, 8, .inl q_10)), (h_this_root, .inr (2, [.long q_12, .long q_13, .long q_14, .long q_15, .int q_16]))]) C (c_Ro_take h_11) mi_Ro_take zw_464 (by decide) 0 rfl rfl [9, 8] (by decide) rfl rfl rfl rfl rfl (by decide) ⟨Nat.zero_le _, Nat.zero_le _⟩ d_Ps_findAmplitude_104 ?_
  cases hf
  exact z_vret C hr d_Ps_findAmplitude_107
theorem c_Ps_findAmplitude {l : Launch} {D : va_G} {cI cL : ClassId} {h_this h_this_values h_this_polynomial h_this_doneRules h_this_ways h_this_root h_this_ways_phases h_this_ways_wayOf h_this_ways_wiresOf h_this_ways_tallies h_this_polynomial_numbers : Nat} {v_wireCount v_bitsCame v_bitsThere v_inputBits v_rootsBelow v_begunOpen v_empty v_ways_chosen v_polynomial_monomials v_root_k o_ways_chosen o_root_k x1 x2 x3 : Int32} {v_values v_ways_wayOf v_ways_wiresOf v_ways_phases v_polynomial_numbers v_ways_tallies o_ways_wayOf o_ways_wiresOf o_ways_phases o_ways_tallies : Nat → Int32} {v_root_a v_root_b v_root_c v_root_d o_root_a o_root_b o_root_c o_root_d : Int64} (hf : f_Ps_findAmplitude x1 x2 x3 v_wireCount v_rootsBelow v_values v_ways_chosen v_ways_wayOf v_ways_wiresOf v_ways_phases v_polynomial_numbers v_ways_tallies v_root_a v_root_b v_root_c v_root_d v_root_k = some (o_ways_chosen, o_ways_wayOf, o_ways_wiresOf, o_ways_phases, o_ways_tallies, o_root_a, o_root_b, o_root_c, o_root_d, o_root_k)) : zM l y_Ps_findAmplitude (Cond.code y_Ps_findAmplitude b_Ps_findAmplitude 6 none :: zT) rm_Ps_findAmplitude D vwCl [(cI, .int), (cL, .long)] [.ref h_this, .int x1, .int x2, .int x3] [(h_this, .inr (4, [.ref h_this_values, .ref h_this_polynomial, .ref h_this_doneRules, .ref h_this_ways, .ref h_this_root, .int v_wireCount, .int v_bitsCame, .int v_bitsThere, .int v_inputBits, .int v_rootsBelow, .int v_begunOpen, .int v_empty])), (h_this_values, .inl (cI, 6, .inl v_values)), (h_this_ways, .inr (3, [.ref h_this_ways_phases, .ref h_this_ways_wayOf, .ref h_this_ways_wiresOf, .ref h_this_ways_tallies, .int v_ways_chosen])), (h_this_ways_wayOf, .inl (cI, 24, .inl v_ways_wayOf)), (h_this_ways_wiresOf, .inl (cI, 12, .inl v_ways_wiresOf)), (h_this_ways_phases, .inl (cI, 4096, .inl v_ways_phases)), (h_this_polynomial, .inr (1, [.ref h_this_polynomial_numbers, .int v_polynomial_monomials])), (h_this_polynomial_numbers, .inl (cI, 2325, .inl v_polynomial_numbers)), (h_this_ways_tallies, .inl (cI, 8, .inl v_ways_tallies)), (h_this_root, .inr (2, [.long v_root_a, .long v_root_b, .long v_root_c, .long v_root_d, .int v_root_k]))] [(h_this, .inr (4, [.ref h_this_values, .ref h_this_polynomial, .ref h_this_doneRules, .ref h_this_ways, .ref h_this_root, .int v_wireCount, .int v_bitsCame, .int v_bitsThere, .int v_inputBits, .int v_rootsBelow, .int v_begunOpen, .int v_empty])), (h_this_values, .inl (cI, 6, .inl v_values)), (h_this_ways, .inr (3, [.ref h_this_ways_phases, .ref h_this_ways_wayOf, .ref h_this_ways_wiresOf, .ref h_this_ways_tallies, .int o_ways_chosen])), (h_this_ways_wayOf, .inl (cI, 24, .inl o_ways_wayOf)), (h_this_ways_wiresOf, .inl (cI, 12, .inl o_ways_wiresOf)), (h_this_ways_phases, .inl (cI, 4096, .inl o_ways_phases)), (h_this_polynomial, .inr (1, [.ref h_this_polynomial_numbers, .int v_polynomial_monomials])), (h_this_polynomial_numbers, .inl (cI, 2325, .inl v_polynomial_numbers)), (h_this_ways_tallies, .inl (cI, 8, .inl o_ways_tallies)), (h_this_root, .inr (2, [.long o_root_a, .long o_root_b, .long o_root_c, .long o_root_d, .int o_root_k]))] (none) :=
  zM.intro (by decide) rfl (fun _ h => List.mem_cons_of_mem _ h) (Nat.le_of_ble_eq_true rfl) (fun _ _ _ _ _ _ _ C hr _ => k_Ps_findAmplitude C hr hf)
def rm_Ps_gate : Room := { frames := 6, cells := 0, slots := 0, locals := 146 }
/-- PathSums.gate(IIII)Z -/
def f_Ps_gate (x1 : Int32) (x2 : Int32) (x3 : Int32) (x4 : Int32) (v_wireCount : Int32) (v_bitsCame : Int32) (v_bitsThere : Int32) (v_rootsBelow : Int32) (v_empty : Int32) (v_values : Nat → Int32) (v_polynomial_monomials : Int32) (v_polynomial_numbers : Nat → Int32) : Option (Int32 × Int32 × Int32 × Int32 × (Nat → Int32) × Int32 × (Nat → Int32)) :=
  if v_empty = 0 then (
    if (f_Ps_fits x1 x2 x3 x4 v_wireCount v_bitsCame) = 0 then (
      some ((0 : Int32), v_bitsCame, v_bitsThere, v_rootsBelow, v_values, v_polynomial_monomials, v_polynomial_numbers))
    else (
      if x1 = 0 then (
        if x2 < 0 ∨ 6 ≤ x2.toNatClampNeg then none else
        if x2 < 0 ∨ 6 ≤ x2.toNatClampNeg then none else
        zlet (upd v_values x2.toNatClampNeg ((v_values x2.toNatClampNeg) ^^^ (16777216 : Int32))) fun u_7 =>
        some ((1 : Int32), v_bitsCame, v_bitsThere, v_rootsBelow, u_7, v_polynomial_monomials, v_polynomial_numbers))
      else (
        if x1 = (1 : Int32) then (
          if x2 < 0 ∨ 6 ≤ x2.toNatClampNeg then none else
          if x3 < 0 ∨ 6 ≤ x3.toNatClampNeg then none else
          if x2 < 0 ∨ 6 ≤ x2.toNatClampNeg then none else
          zlet (upd v_values x2.toNatClampNeg ((v_values x2.toNatClampNeg) ^^^ (v_values x3.toNatClampNeg))) fun u_12 =>
          some ((1 : Int32), v_bitsCame, v_bitsThere, v_rootsBelow, u_12, v_polynomial_monomials, v_polynomial_numbers))
        else (
          if x1 = (2 : Int32) then (
            if x2 < 0 ∨ 6 ≤ x2.toNatClampNeg then none else
            zlet (v_values x2.toNatClampNeg) fun y_15 =>
            if x3 < 0 ∨ 6 ≤ x3.toNatClampNeg then none else
            if x2 < 0 ∨ 6 ≤ x2.toNatClampNeg then none else
            zlet (upd v_values x2.toNatClampNeg (v_values x3.toNatClampNeg)) fun u_18 =>
            if x3 < 0 ∨ 6 ≤ x3.toNatClampNeg then none else
            zlet (upd u_18 x3.toNatClampNeg y_15) fun u_20 =>
            some ((1 : Int32), v_bitsCame, v_bitsThere, v_rootsBelow, u_20, v_polynomial_monomials, v_polynomial_numbers))
          else (
            if (7 : Int32) < x1 then (
              if x1 = (8 : Int32) then (
                if x2 < 0 ∨ 6 ≤ x2.toNatClampNeg then none else
                if x3 < 0 ∨ 6 ≤ x3.toNatClampNeg then none else
                zb2 (f_Po_addFourTimes (v_values x2.toNatClampNeg) (v_values x3.toNatClampNeg) (16777216 : Int32) v_polynomial_monomials v_polynomial_numbers) fun q_26 q_27 =>
                some ((1 : Int32), v_bitsCame, v_bitsThere, v_rootsBelow, v_values, q_26, q_27))
              else (
                if x1 = (9 : Int32) then (
                  if x2 < 0 ∨ 6 ≤ x2.toNatClampNeg then none else
                  if x3 < 0 ∨ 6 ≤ x3.toNatClampNeg then none else
                  if x4 < 0 ∨ 6 ≤ x4.toNatClampNeg then none else
                  zb2 (f_Po_addFourTimes (v_values x2.toNatClampNeg) (v_values x3.toNatClampNeg) (v_values x4.toNatClampNeg) v_polynomial_monomials v_polynomial_numbers) fun q_33 q_34 =>
                  some ((1 : Int32), v_bitsCame, v_bitsThere, v_rootsBelow, v_values, q_33, q_34))
                else (
                  zb6 (f_Ps_bringBit x1 x2 v_bitsCame v_bitsThere v_rootsBelow v_values v_polynomial_monomials v_polynomial_numbers) fun q_36 q_37 q_38 q_39 q_40 q_41 =>
                  some ((1 : Int32), q_36, q_37, q_38, q_39, q_40, q_41))))
            else (
              if (x1 - (3 : Int32)) < 0 ∨ 5 ≤ (x1 - (3 : Int32)).toNatClampNeg then none else
              if x2 < 0 ∨ 6 ≤ x2.toNatClampNeg then none else
              zb2 (f_Po_addXor (tb_TURNS (x1 - (3 : Int32)).toNatClampNeg) (v_values x2.toNatClampNeg) (0 : Int32) v_polynomial_monomials v_polynomial_numbers) fun q_45 q_46 =>
              some ((1 : Int32), v_bitsCame, v_bitsThere, v_rootsBelow, v_values, q_45, q_46)))))))
  else (
    some ((0 : Int32), v_bitsCame, v_bitsThere, v_rootsBelow, v_values, v_polynomial_monomials, v_polynomial_numbers))
set_option maxRecDepth 100000 in
set_option maxHeartbeats 4000000 in
theorem k_Ps_gate {p : Program} {l : Launch} {e : Env} {s : State} {m : MethodId} {args : Array Value} {below : List Frame} {meth : Method} {c : Code} {D : va_G} {cI cL : ClassId} {h_this h_this_values h_this_polynomial h_this_doneRules h_this_ways h_this_root h_this_polynomial_numbers : Nat} {v_wireCount v_bitsCame v_bitsThere v_inputBits v_rootsBelow v_begunOpen v_empty v_polynomial_monomials rr o_bitsCame o_bitsThere o_rootsBelow o_polynomial_monomials x1 x2 x3 x4 : Int32} {v_values v_polynomial_numbers o_values o_polynomial_numbers : Nat → Int32} (C : zC p s m args meth c b_Ps_gate 6 R_Ps D vwCl [(cI, .int), (cL, .long)] (zA [h_this, h_this_values, h_this_polynomial, h_this_polynomial_numbers] s.heap.size)) (hr : meth.sig.returnType = some .boolean) (hf : f_Ps_gate x1 x2 x3 x4 v_wireCount v_bitsCame v_bitsThere v_rootsBelow v_empty v_values v_polynomial_monomials v_polynomial_numbers = some (rr, o_bitsCame, o_bitsThere, o_rootsBelow, o_values, o_polynomial_monomials, o_polynomial_numbers)) : ZV p l e rm_Ps_gate s m args below meth c 6 D (some (.int rr)) [(h_this, .inr (4, [.ref h_this_values, .ref h_this_polynomial, .ref h_this_doneRules, .ref h_this_ways, .ref h_this_root, .int v_wireCount, .int o_bitsCame, .int o_bitsThere, .int v_inputBits, .int o_rootsBelow, .int v_begunOpen, .int v_empty])), (h_this_values, .inl (cI, 6, .inl o_values)), (h_this_polynomial, .inr (1, [.ref h_this_polynomial_numbers, .int o_polynomial_monomials])), (h_this_polynomial_numbers, .inl (cI, 2325, .inl o_polynomial_numbers))] [h_this, h_this_values, h_this_polynomial, h_this_polynomial_numbers] [(h_this, .inr (4, [.ref h_this_values, .ref h_this_polynomial, .ref h_this_doneRules, .ref h_this_ways, .ref h_this_root, .int v_wireCount, .int v_bitsCame, .int v_bitsThere, .int v_inputBits, .int v_rootsBelow, .int v_begunOpen, .int v_empty])), (h_this_values, .inl (cI, 6, .inl v_values)), (h_this_polynomial, .inr (1, [.ref h_this_polynomial_numbers, .int v_polynomial_monomials])), (h_this_polynomial_numbers, .inl (cI, 2325, .inl v_polynomial_numbers))] 0 [(0, .ref h_this), (1, .int x1), (2, .int x2), (3, .int x3), (4, .int x4)] [] := by
  unfold f_Ps_gate at hf
  refine z_aload_n C d_Ps_gate_0 rfl 0 rfl ?_
  refine z_get C iw_Ps 0 rfl rfl 11 (by decide) zw_171 rfl d_Ps_gate_1 ?_
  refine z_if_ne (tgt := 19) C d_Ps_gate_4 (by decide) (fun c_1 => ?_) (fun c_1 => ?_)
  · have hf := zif_neg c_1 hf
    refine z_iconst (v := 0) C d_Ps_gate_19 (by decide) ?_
    cases hf
    exact z_zret C hr rfl d_Ps_gate_20
  · have hf := zif_pos c_1 hf
    refine z_aload_n C d_Ps_gate_7 rfl 0 rfl ?_
    refine z_iload_n C d_Ps_gate_8 rfl 1 rfl ?_
    refine z_iload_n C d_Ps_gate_9 rfl 2 rfl ?_
    refine z_iload_n C d_Ps_gate_10 rfl 3 rfl ?_
    refine z_iload C d_Ps_gate_11 4 rfl ?_
    refine z_callV (As := [.int x1, .int x2, .int x3, .int x4]) (rest := []) (ws' := [(h_this, .inr (4, [.ref h_this_values, .ref h_this_polynomial, .ref h_this_doneRules, .ref h_this_ways, .ref h_this_root, .int v_wireCount, .int v_bitsCame, .int v_bitsThere, .int v_inputBits, .int v_rootsBelow, .int v_begunOpen, .int v_empty])), (h_this_values, .inl (cI, 6, .inl v_values)), (h_this_polynomial, .inr (1, [.ref h_this_polynomial_numbers, .int v_polynomial_monomials])), (h_this_polynomial_numbers, .inl (cI, 2325, .inl v_polynomial_numbers))]) C (c_Ps_fits rfl) mi_Ps_fits zw_216 (by decide) 0 rfl rfl [0] (by decide) rfl rfl rfl rfl rfl (by decide) ⟨Nat.zero_le _, Nat.zero_le _⟩ d_Ps_gate_13 ?_
    refine z_if_ne (tgt := 21) C d_Ps_gate_16 (by decide) (fun c_3 => ?_) (fun c_3 => ?_)
    · have hf := zif_neg c_3 hf
      refine z_iload_n C d_Ps_gate_21 rfl 1 rfl ?_
      refine z_if_ne (tgt := 39) C d_Ps_gate_22 (by decide) (fun c_4 => ?_) (fun c_4 => ?_)
      · have hf := zif_neg c_4 hf
        refine z_iload_n C d_Ps_gate_39 rfl 1 rfl ?_
        refine z_iconst (v := 1) C d_Ps_gate_40 (by decide) ?_
        refine z_icmp_ne (tgt := 62) C d_Ps_gate_41 (by decide) (fun c_8 => ?_) (fun c_8 => ?_)
        · have hf := zif_neg c_8 hf
          refine z_iload_n C d_Ps_gate_62 rfl 1 rfl ?_
          refine z_iconst (v := 2) C d_Ps_gate_63 (by decide) ?_
          refine z_icmp_ne (tgt := 98) C d_Ps_gate_64 (by decide) (fun c_13 => ?_) (fun c_13 => ?_)
          · have hf := zif_neg c_13 hf
            refine z_iload_n C d_Ps_gate_98 rfl 1 rfl ?_
            refine z_bipush (v := 7) C d_Ps_gate_99 (by decide) ?_
            refine z_icmp_gt (tgt := 128) C d_Ps_gate_101 (by decide) (fun c_21 => ?_) (fun c_21 => ?_)
            · have hf := zif_pos c_21 hf
              refine z_iload_n C d_Ps_gate_128 rfl 1 rfl ?_
              refine z_bipush (v := 8) C d_Ps_gate_129 (by decide) ?_
              refine z_icmp_ne (tgt := 158) C d_Ps_gate_131 (by decide) (fun c_22 => ?_) (fun c_22 => ?_)
              · have hf := zif_neg c_22 hf
                refine z_iload_n C d_Ps_gate_158 rfl 1 rfl ?_
                refine z_bipush (v := 9) C d_Ps_gate_159 (by decide) ?_
                refine z_icmp_ne (tgt := 193) C d_Ps_gate_161 (by decide) (fun c_28 => ?_) (fun c_28 => ?_)
                · have hf := zif_neg c_28 hf
                  refine z_aload_n C d_Ps_gate_193 rfl 0 rfl ?_
                  refine z_iload_n C d_Ps_gate_194 rfl 1 rfl ?_
                  refine z_iload_n C d_Ps_gate_195 rfl 2 rfl ?_
                  obtain ⟨q_36, q_37, q_38, q_39, q_40, q_41, h_35, hf⟩ := zb6_elim hf
                  refine z_callV (As := [.int x1, .int x2]) (rest := []) (ws' := [(h_this, .inr (4, [.ref h_this_values, .ref h_this_polynomial, .ref h_this_doneRules, .ref h_this_ways, .ref h_this_root, .int v_wireCount, .int q_36, .int q_37, .int v_inputBits, .int q_38, .int v_begunOpen, .int v_empty])), (h_this_values, .inl (cI, 6, .inl q_39)), (h_this_polynomial, .inr (1, [.ref h_this_polynomial_numbers, .int q_40])), (h_this_polynomial_numbers, .inl (cI, 2325, .inl q_41))]) C (c_Ps_bringBit h_35) mi_Ps_bringBit zw_257 (by decide) 0 rfl rfl [0, 1, 2, 3] (by decide) rfl rfl rfl rfl rfl (by decide) ⟨Nat.zero_le _, Nat.zero_le _⟩ d_Ps_gate_196 ?_
                  refine z_iconst (v := 1) C d_Ps_gate_199 (by decide) ?_
                  cases hf
                  exact z_zret C hr rfl d_Ps_gate_200
                · have hf := zif_pos c_28 hf
                  refine z_aload_n C d_Ps_gate_164 rfl 0 rfl ?_
                  refine z_get C iw_Ps 0 rfl rfl 1 (by decide) zw_161 rfl d_Ps_gate_165 ?_
                  refine z_aload_n C d_Ps_gate_168 rfl 0 rfl ?_
                  refine z_get C iw_Ps 0 rfl rfl 0 (by decide) zw_160 rfl d_Ps_gate_169 ?_
                  refine z_iload_n C d_Ps_gate_172 rfl 2 rfl ?_
                  obtain ⟨g_29, hf⟩ := zguard hf
                  refine z_iald C 1 0 rfl rfl g_29 d_Ps_gate_173 ?_
                  refine z_aload_n C d_Ps_gate_174 rfl 0 rfl ?_
                  refine z_get C iw_Ps 0 rfl rfl 0 (by decide) zw_160 rfl d_Ps_gate_175 ?_
                  refine z_iload_n C d_Ps_gate_178 rfl 3 rfl ?_
                  obtain ⟨g_30, hf⟩ := zguard hf
                  refine z_iald C 1 0 rfl rfl g_30 d_Ps_gate_179 ?_
                  refine z_aload_n C d_Ps_gate_180 rfl 0 rfl ?_
                  refine z_get C iw_Ps 0 rfl rfl 0 (by decide) zw_160 rfl d_Ps_gate_181 ?_
                  refine z_iload C d_Ps_gate_184 4 rfl ?_
                  obtain ⟨g_31, hf⟩ := zguard hf
                  refine z_iald C 1 0 rfl rfl g_31 d_Ps_gate_186 ?_
                  obtain ⟨q_33, q_34, h_32, hf⟩ := zb2_elim hf
                  refine z_callV (As := [.int (v_values x2.toNatClampNeg), .int (v_values x3.toNatClampNeg), .int (v_values x4.toNatClampNeg)]) (rest := []) (ws' := [(h_this, .inr (4, [.ref h_this_values, .ref h_this_polynomial, .ref h_this_doneRules, .ref h_this_ways, .ref h_this_root, .int v_wireCount, .int v_bitsCame, .int v_bitsThere, .int v_inputBits, .int v_rootsBelow, .int v_begunOpen, .int v_empty])), (h_this_values, .inl (cI, 6, .inl v_values)), (h_this_polynomial, .inr (1, [.ref h_this_polynomial_numbers, .int q_33])), (h_this_polynomial_numbers, .inl (cI, 2325, .inl q_34))]) C (c_Po_addFourTimes h_32) mi_Po_addFourTimes zw_253 (by decide) 0 rfl rfl [2, 3] (by decide) rfl rfl rfl rfl rfl (by decide) ⟨Nat.zero_le _, Nat.zero_le _⟩ d_Ps_gate_187 ?_
                  refine z_goto (tgt := 199) C d_Ps_gate_190 (by decide) ?_
                  refine z_iconst (v := 1) C d_Ps_gate_199 (by decide) ?_
                  cases hf
                  exact z_zret C hr rfl d_Ps_gate_200
              · have hf := zif_pos c_22 hf
                refine z_aload_n C d_Ps_gate_134 rfl 0 rfl ?_
                refine z_get C iw_Ps 0 rfl rfl 1 (by decide) zw_161 rfl d_Ps_gate_135 ?_
                refine z_aload_n C d_Ps_gate_138 rfl 0 rfl ?_
                refine z_get C iw_Ps 0 rfl rfl 0 (by decide) zw_160 rfl d_Ps_gate_139 ?_
                refine z_iload_n C d_Ps_gate_142 rfl 2 rfl ?_
                obtain ⟨g_23, hf⟩ := zguard hf
                refine z_iald C 1 0 rfl rfl g_23 d_Ps_gate_143 ?_
                refine z_aload_n C d_Ps_gate_144 rfl 0 rfl ?_
                refine z_get C iw_Ps 0 rfl rfl 0 (by decide) zw_160 rfl d_Ps_gate_145 ?_
                refine z_iload_n C d_Ps_gate_148 rfl 3 rfl ?_
                obtain ⟨g_24, hf⟩ := zguard hf
                refine z_iald C 1 0 rfl rfl g_24 d_Ps_gate_149 ?_
                refine z_ldc (v := 16777216) C zw_207 d_Ps_gate_150 ?_
                obtain ⟨q_26, q_27, h_25, hf⟩ := zb2_elim hf
                refine z_callV (As := [.int (v_values x2.toNatClampNeg), .int (v_values x3.toNatClampNeg), .int (16777216 : Int32)]) (rest := []) (ws' := [(h_this, .inr (4, [.ref h_this_values, .ref h_this_polynomial, .ref h_this_doneRules, .ref h_this_ways, .ref h_this_root, .int v_wireCount, .int v_bitsCame, .int v_bitsThere, .int v_inputBits, .int v_rootsBelow, .int v_begunOpen, .int v_empty])), (h_this_values, .inl (cI, 6, .inl v_values)), (h_this_polynomial, .inr (1, [.ref h_this_polynomial_numbers, .int q_26])), (h_this_polynomial_numbers, .inl (cI, 2325, .inl q_27))]) C (c_Po_addFourTimes h_25) mi_Po_addFourTimes zw_253 (by decide) 0 rfl rfl [2, 3] (by decide) rfl rfl rfl rfl rfl (by decide) ⟨Nat.zero_le _, Nat.zero_le _⟩ d_Ps_gate_152 ?_
                refine z_goto (tgt := 199) C d_Ps_gate_155 (by decide) ?_
                refine z_iconst (v := 1) C d_Ps_gate_199 (by decide) ?_
                cases hf
                exact z_zret C hr rfl d_Ps_gate_200
            · have hf := zif_neg c_21 hf
              refine z_aload_n C d_Ps_gate_104 rfl 0 rfl ?_
              refine z_get C iw_Ps 0 rfl rfl 1 (by decide) zw_161 rfl d_Ps_gate_105 ?_
              obtain ⟨tTURNS, hTURNS1, hTURNS2⟩ := zturns C
              refine z_gets C hTURNS1 zw_224 d_Ps_gate_108 ?_
              refine z_iload_n C d_Ps_gate_111 rfl 1 rfl ?_
              refine z_iconst (v := 3) C d_Ps_gate_112 (by decide) ?_
              refine z_isub C d_Ps_gate_113 ?_
              obtain ⟨g_42, hf⟩ := zguard hf
              refine z_ti C hTURNS2 g_42 rfl d_Ps_gate_114 ?_
              refine z_aload_n C d_Ps_gate_115 rfl 0 rfl ?_
              refine z_get C iw_Ps 0 rfl rfl 0 (by decide) zw_160 rfl d_Ps_gate_116 ?_
              refine z_iload_n C d_Ps_gate_119 rfl 2 rfl ?_
              obtain ⟨g_43, hf⟩ := zguard hf
              refine z_iald C 1 0 rfl rfl g_43 d_Ps_gate_120 ?_
              refine z_iconst (v := 0) C d_Ps_gate_121 (by decide) ?_
              obtain ⟨q_45, q_46, h_44, hf⟩ := zb2_elim hf
              refine z_callV (As := [.int (tb_TURNS (x1 - (3 : Int32)).toNatClampNeg), .int (v_values x2.toNatClampNeg), .int (0 : Int32)]) (rest := []) (ws' := [(h_this, .inr (4, [.ref h_this_values, .ref h_this_polynomial, .ref h_this_doneRules, .ref h_this_ways, .ref h_this_root, .int v_wireCount, .int v_bitsCame, .int v_bitsThere, .int v_inputBits, .int v_rootsBelow, .int v_begunOpen, .int v_empty])), (h_this_values, .inl (cI, 6, .inl v_values)), (h_this_polynomial, .inr (1, [.ref h_this_polynomial_numbers, .int q_45])), (h_this_polynomial_numbers, .inl (cI, 2325, .inl q_46))]) C (c_Po_addXor h_44) mi_Po_addXor zw_226 (by decide) 0 rfl rfl [2, 3] (by decide) rfl rfl rfl rfl rfl (by decide) ⟨Nat.zero_le _, Nat.zero_le _⟩ d_Ps_gate_122 ?_
              refine z_goto (tgt := 199) C d_Ps_gate_125 (by decide) ?_
              refine z_iconst (v := 1) C d_Ps_gate_199 (by decide) ?_
              cases hf
              exact z_zret C hr rfl d_Ps_gate_200
          · have hf := zif_pos c_13 hf
            refine z_aload_n C d_Ps_gate_67 rfl 0 rfl ?_
            refine z_get C iw_Ps 0 rfl rfl 0 (by decide) zw_160 rfl d_Ps_gate_68 ?_
            refine z_iload_n C d_Ps_gate_71 rfl 2 rfl ?_
            obtain ⟨g_14, hf⟩ := zguard hf
            refine z_iald C 1 0 rfl rfl g_14 d_Ps_gate_72 ?_
            refine z_topi (fun y_15 ey_15 => ?_)
            have hf := zlet_at ey_15 hf
            refine z_istore (lv' := [(5, .int y_15), (0, .ref h_this), (1, .int x1), (2, .int x2), (3, .int x3), (4, .int x4)]) C d_Ps_gate_73 (by decide) rfl ?_
            refine z_aload_n C d_Ps_gate_75 rfl 1 rfl ?_
            refine z_get C iw_Ps 0 rfl rfl 0 (by decide) zw_160 rfl d_Ps_gate_76 ?_
            refine z_iload_n C d_Ps_gate_79 rfl 3 rfl ?_
            refine z_aload_n C d_Ps_gate_80 rfl 1 rfl ?_
            refine z_get C iw_Ps 0 rfl rfl 0 (by decide) zw_160 rfl d_Ps_gate_81 ?_
            refine z_iload_n C d_Ps_gate_84 rfl 4 rfl ?_
            obtain ⟨g_16, hf⟩ := zguard hf
            refine z_iald C 1 0 rfl rfl g_16 d_Ps_gate_85 ?_
            obtain ⟨g_17, hf⟩ := zguard hf
            obtain ⟨u_18, eu_18⟩ : ∃ u : Nat → Int32, u = upd v_values x2.toNatClampNeg (v_values x3.toNatClampNeg) := ⟨_, rfl⟩
            have hf := zlet_at eu_18 hf
            refine z_iast (ws' := [(h_this, .inr (4, [.ref h_this_values, .ref h_this_polynomial, .ref h_this_doneRules, .ref h_this_ways, .ref h_this_root, .int v_wireCount, .int v_bitsCame, .int v_bitsThere, .int v_inputBits, .int v_rootsBelow, .int v_begunOpen, .int v_empty])), (h_this_values, .inl (cI, 6, .inl u_18)), (h_this_polynomial, .inr (1, [.ref h_this_polynomial_numbers, .int v_polynomial_monomials])), (h_this_polynomial_numbers, .inl (cI, 2325, .inl v_polynomial_numbers))]) C 1 0 rfl rfl g_17 d_Ps_gate_86 (by rw [eu_18]; rfl) ?_
            refine z_aload_n C d_Ps_gate_87 rfl 1 rfl ?_
            refine z_get C iw_Ps 0 rfl rfl 0 (by decide) zw_160 rfl d_Ps_gate_88 ?_
            refine z_iload_n C d_Ps_gate_91 rfl 4 rfl ?_
            refine z_iload C d_Ps_gate_92 0 rfl ?_
            obtain ⟨g_19, hf⟩ := zguard hf
            obtain ⟨u_20, eu_20⟩ : ∃ u : Nat → Int32, u = upd u_18 x3.toNatClampNeg y_15 := ⟨_, rfl⟩
            have hf := zlet_at eu_20 hf
            refine z_iast (ws' := [(h_this, .inr (4, [.ref h_this_values, .ref h_this_polynomial, .ref h_this_doneRules, .ref h_this_ways, .ref h_this_root, .int v_wireCount, .int v_bitsCame, .int v_bitsThere, .int v_inputBits, .int v_rootsBelow, .int v_begunOpen, .int v_empty])), (h_this_values, .inl (cI, 6, .inl u_20)), (h_this_polynomial, .inr (1, [.ref h_this_polynomial_numbers, .int v_polynomial_monomials])), (h_this_polynomial_numbers, .inl (cI, 2325, .inl v_polynomial_numbers))]) C 1 0 rfl rfl g_19 d_Ps_gate_94 (by rw [eu_20]; rfl) ?_
            refine z_goto (tgt := 199) C d_Ps_gate_95 (by decide) ?_
            refine z_iconst (v := 1) C d_Ps_gate_199 (by decide) ?_
            cases hf
            exact z_zret C hr rfl d_Ps_gate_200
        · have hf := zif_pos c_8 hf
          refine z_aload_n C d_Ps_gate_44 rfl 0 rfl ?_
          refine z_get C iw_Ps 0 rfl rfl 0 (by decide) zw_160 rfl d_Ps_gate_45 ?_
          refine z_iload_n C d_Ps_gate_48 rfl 2 rfl ?_
          refine z_dup2_11 C d_Ps_gate_49 rfl rfl ?_
          obtain ⟨g_9, hf⟩ := zguard hf
          refine z_iald C 1 0 rfl rfl g_9 d_Ps_gate_50 ?_
          refine z_aload_n C d_Ps_gate_51 rfl 0 rfl ?_
          refine z_get C iw_Ps 0 rfl rfl 0 (by decide) zw_160 rfl d_Ps_gate_52 ?_
          refine z_iload_n C d_Ps_gate_55 rfl 3 rfl ?_
          obtain ⟨g_10, hf⟩ := zguard hf
          refine z_iald C 1 0 rfl rfl g_10 d_Ps_gate_56 ?_
          refine z_ixor C d_Ps_gate_57 ?_
          obtain ⟨g_11, hf⟩ := zguard hf
          obtain ⟨u_12, eu_12⟩ : ∃ u : Nat → Int32, u = upd v_values x2.toNatClampNeg ((v_values x2.toNatClampNeg) ^^^ (v_values x3.toNatClampNeg)) := ⟨_, rfl⟩
          have hf := zlet_at eu_12 hf
          refine z_iast (ws' := [(h_this, .inr (4, [.ref h_this_values, .ref h_this_polynomial, .ref h_this_doneRules, .ref h_this_ways, .ref h_this_root, .int v_wireCount, .int v_bitsCame, .int v_bitsThere, .int v_inputBits, .int v_rootsBelow, .int v_begunOpen, .int v_empty])), (h_this_values, .inl (cI, 6, .inl u_12)), (h_this_polynomial, .inr (1, [.ref h_this_polynomial_numbers, .int v_polynomial_monomials])), (h_this_polynomial_numbers, .inl (cI, 2325, .inl v_polynomial_numbers))]) C 1 0 rfl rfl g_11 d_Ps_gate_58 (by rw [eu_12]; rfl) ?_
          refine z_goto (tgt := 199) C d_Ps_gate_59 (by decide) ?_
          refine z_iconst (v := 1) C d_Ps_gate_199 (by decide) ?_
          cases hf
          exact z_zret C hr rfl d_Ps_gate_200
      · have hf := zif_pos c_4 hf
        refine z_aload_n C d_Ps_gate_25 rfl 0 rfl ?_
        refine z_get C iw_Ps 0 rfl rfl 0 (by decide) zw_160 rfl d_Ps_gate_26 ?_
        refine z_iload_n C d_Ps_gate_29 rfl 2 rfl ?_
        refine z_dup2_11 C d_Ps_gate_30 rfl rfl ?_
        obtain ⟨g_5, hf⟩ := zguard hf
        refine z_iald C 1 0 rfl rfl g_5 d_Ps_gate_31 ?_
        refine z_ldc (v := 16777216) C zw_207 d_Ps_gate_32 ?_
        refine z_ixor C d_Ps_gate_34 ?_
        obtain ⟨g_6, hf⟩ := zguard hf
        obtain ⟨u_7, eu_7⟩ : ∃ u : Nat → Int32, u = upd v_values x2.toNatClampNeg ((v_values x2.toNatClampNeg) ^^^ (16777216 : Int32)) := ⟨_, rfl⟩
        have hf := zlet_at eu_7 hf
        refine z_iast (ws' := [(h_this, .inr (4, [.ref h_this_values, .ref h_this_polynomial, .ref h_this_doneRules, .ref h_this_ways, .ref h_this_root, .int v_wireCount, .int v_bitsCame, .int v_bitsThere, .int v_inputBits, .int v_rootsBelow, .int v_begunOpen, .int v_empty])), (h_this_values, .inl (cI, 6, .inl u_7)), (h_this_polynomial, .inr (1, [.ref h_this_polynomial_numbers, .int v_polynomial_monomials])), (h_this_polynomial_numbers, .inl (cI, 2325, .inl v_polynomial_numbers))]) C 1 0 rfl rfl g_6 d_Ps_gate_35 (by rw [eu_7]; rfl) ?_
        refine z_goto (tgt := 199) C d_Ps_gate_36 (by decide) ?_
        refine z_iconst (v := 1) C d_Ps_gate_199 (by decide) ?_
        cases hf
        exact z_zret C hr rfl d_Ps_gate_200
    · have hf := zif_pos c_3 hf
      refine z_iconst (v := 0) C d_Ps_gate_19 (by decide) ?_
      cases hf
      exact z_zret C hr rfl d_Ps_gate_20
theorem c_Ps_gate {l : Launch} {D : va_G} {cI cL : ClassId} {h_this h_this_values h_this_polynomial h_this_doneRules h_this_ways h_this_root h_this_polynomial_numbers : Nat} {v_wireCount v_bitsCame v_bitsThere v_inputBits v_rootsBelow v_begunOpen v_empty v_polynomial_monomials rr o_bitsCame o_bitsThere o_rootsBelow o_polynomial_monomials x1 x2 x3 x4 : Int32} {v_values v_polynomial_numbers o_values o_polynomial_numbers : Nat → Int32} (hf : f_Ps_gate x1 x2 x3 x4 v_wireCount v_bitsCame v_bitsThere v_rootsBelow v_empty v_values v_polynomial_monomials v_polynomial_numbers = some (rr, o_bitsCame, o_bitsThere, o_rootsBelow, o_values, o_polynomial_monomials, o_polynomial_numbers)) : zM l y_Ps_gate (Cond.code y_Ps_gate b_Ps_gate 6 (some .boolean) :: zT) rm_Ps_gate D vwCl [(cI, .int), (cL, .long)] [.ref h_this, .int x1, .int x2, .int x3, .int x4] [(h_this, .inr (4, [.ref h_this_values, .ref h_this_polynomial, .ref h_this_doneRules, .ref h_this_ways, .ref h_this_root, .int v_wireCount, .int v_bitsCame, .int v_bitsThere, .int v_inputBits, .int v_rootsBelow, .int v_begunOpen, .int v_empty])), (h_this_values, .inl (cI, 6, .inl v_values)), (h_this_polynomial, .inr (1, [.ref h_this_polynomial_numbers, .int v_polynomial_monomials])), (h_this_polynomial_numbers, .inl (cI, 2325, .inl v_polynomial_numbers))] [(h_this, .inr (4, [.ref h_this_values, .ref h_this_polynomial, .ref h_this_doneRules, .ref h_this_ways, .ref h_this_root, .int v_wireCount, .int o_bitsCame, .int o_bitsThere, .int v_inputBits, .int o_rootsBelow, .int v_begunOpen, .int v_empty])), (h_this_values, .inl (cI, 6, .inl o_values)), (h_this_polynomial, .inr (1, [.ref h_this_polynomial_numbers, .int o_polynomial_monomials])), (h_this_polynomial_numbers, .inl (cI, 2325, .inl o_polynomial_numbers))] (some (.int rr)) :=
  zM.intro (by decide) rfl (fun _ h => List.mem_cons_of_mem _ h) (Nat.le_of_ble_eq_true rfl) (fun _ _ _ _ _ _ _ C hr _ => k_Ps_gate C hr hf)
def rm_Ps_reduce : Room := { frames := 8, cells := 0, slots := 0, locals := 198 }
def f_Ps_reduce_l7 (v_inputBits : Int32) (x1 : Int32) (x2 : Int32) (v_bitsThere : Int32) (v_rootsBelow : Int32) (v_empty : Int32) (v_values : Nat → Int32) (v_polynomial_monomials : Int32) (v_polynomial_numbers : Nat → Int32) (v_doneRules_count : Int32) (v_doneRules_kinds : Nat → Int32) (v_doneRules_ys : Nat → Int32) (v_doneRules_zs : Nat → Int32) : Option ((Int32 × Int32 × Int32 × Int32 × Int32 × (Nat → Int32) × Int32 × (Nat → Int32) × Int32 × (Nat → Int32) × (Nat → Int32) × (Nat → Int32)) ⊕ (Int32 × Int32 × Int32 × Int32 × (Nat → Int32) × Int32 × (Nat → Int32) × Int32 × (Nat → Int32) × (Nat → Int32) × (Nat → Int32))) :=
  if x2 = (-1 : Int32) then (
    some (.inr (x1, v_bitsThere, v_rootsBelow, v_empty, v_values, v_polynomial_monomials, v_polynomial_numbers, v_doneRules_count, v_doneRules_kinds, v_doneRules_ys, v_doneRules_zs)))
  else (
    if (24 : Int32) ≤ x1 then (
      some (.inr (x1, v_bitsThere, v_rootsBelow, v_empty, v_values, v_polynomial_monomials, v_polynomial_numbers, v_doneRules_count, v_doneRules_kinds, v_doneRules_ys, v_doneRules_zs)))
    else (
      zb1 (f_Ps_ruleFor x2 v_inputBits v_polynomial_numbers) fun r_4 =>
      zb10 (f_Ps_doRule r_4 x2 v_bitsThere v_inputBits v_rootsBelow v_empty v_polynomial_monomials v_polynomial_numbers v_doneRules_count v_doneRules_kinds v_doneRules_ys v_doneRules_zs v_values) fun q_6 q_7 q_8 q_9 q_10 q_11 q_12 q_13 q_14 q_15 =>
      zlet (x1 + 1) fun y_16 =>
      zb1 (f_Ps_leastBitWithRule q_6 v_inputBits q_15 q_10) fun r_18 =>
      some (.inl (y_16, r_18, q_6, q_7, q_8, q_15, q_9, q_10, q_11, q_12, q_13, q_14))))
set_option maxRecDepth 100000 in
set_option maxHeartbeats 4000000 in
theorem k_Ps_reduce_l7 {p : Program} {l : Launch} {e : Env} {s : State} {m : MethodId} {args : Array Value} {below : List Frame} {meth : Method} {c : Code} {D : va_G} {cI cL : ClassId} {h_this h_this_values h_this_polynomial h_this_doneRules h_this_ways h_this_root h_this_polynomial_numbers h_this_doneRules_kinds h_this_doneRules_ys h_this_doneRules_zs : Nat} {v_wireCount v_bitsCame v_bitsThere v_inputBits v_rootsBelow v_begunOpen v_empty v_polynomial_monomials v_doneRules_count rr o_bitsThere o_rootsBelow o_empty o_polynomial_monomials o_doneRules_count x1 x2 : Int32} {v_values v_polynomial_numbers v_doneRules_kinds v_doneRules_ys v_doneRules_zs o_values o_polynomial_numbers o_doneRules_kinds o_doneRules_ys o_doneRules_zs : Nat → Int32} (C : zC p s m args meth c b_Ps_reduce 3 R_Ps D vwCl [(cI, .int), (cL, .long)] (zA [h_this, h_this_values, h_this_polynomial, h_this_polynomial_numbers, h_this_doneRules, h_this_doneRules_kinds, h_this_doneRules_ys, h_this_doneRules_zs] s.heap.size)) (hr : meth.sig.returnType = some .int) {z : (Int32 × Int32 × Int32 × Int32 × Int32 × (Nat → Int32) × Int32 × (Nat → Int32) × Int32 × (Nat → Int32) × (Nat → Int32) × (Nat → Int32)) ⊕ (Int32 × Int32 × Int32 × Int32 × (Nat → Int32) × Int32 × (Nat → Int32) × Int32 × (Nat → Int32) × (Nat → Int32) × (Nat → Int32))} (hf : f_Ps_reduce_l7 v_inputBits x1 x2 v_bitsThere v_rootsBelow v_empty v_values v_polynomial_monomials v_polynomial_numbers v_doneRules_count v_doneRules_kinds v_doneRules_ys v_doneRules_zs = some z) (hK : zcase (fun q => ZV p l e rm_Ps_reduce s m args below meth c 3 D (some (.int rr)) [(h_this, .inr (4, [.ref h_this_values, .ref h_this_polynomial, .ref h_this_doneRules, .ref h_this_ways, .ref h_this_root, .int v_wireCount, .int v_bitsCame, .int o_bitsThere, .int v_inputBits, .int o_rootsBelow, .int v_begunOpen, .int o_empty])), (h_this_values, .inl (cI, 6, .inl o_values)), (h_this_polynomial, .inr (1, [.ref h_this_polynomial_numbers, .int o_polynomial_monomials])), (h_this_polynomial_numbers, .inl (cI, 2325, .inl o_polynomial_numbers)), (h_this_doneRules, .inr (0, [.ref h_this_doneRules_kinds, .ref h_this_doneRules_ys, .ref h_this_doneRules_zs, .int o_doneRules_count])), (h_this_doneRules_kinds, .inl (cI, 24, .inl o_doneRules_kinds)), (h_this_doneRules_ys, .inl (cI, 24, .inl o_doneRules_ys)), (h_this_doneRules_zs, .inl (cI, 24, .inl o_doneRules_zs))] [h_this, h_this_values, h_this_polynomial, h_this_polynomial_numbers, h_this_doneRules, h_this_doneRules_kinds, h_this_doneRules_ys, h_this_doneRules_zs] [(h_this, .inr (4, [.ref h_this_values, .ref h_this_polynomial, .ref h_this_doneRules, .ref h_this_ways, .ref h_this_root, .int v_wireCount, .int v_bitsCame, .int q.2.2.1, .int v_inputBits, .int q.2.2.2.1, .int v_begunOpen, .int q.2.2.2.2.1])), (h_this_values, .inl (cI, 6, .inl q.2.2.2.2.2.1)), (h_this_polynomial, .inr (1, [.ref h_this_polynomial_numbers, .int q.2.2.2.2.2.2.1])), (h_this_polynomial_numbers, .inl (cI, 2325, .inl q.2.2.2.2.2.2.2.1)), (h_this_doneRules, .inr (0, [.ref h_this_doneRules_kinds, .ref h_this_doneRules_ys, .ref h_this_doneRules_zs, .int q.2.2.2.2.2.2.2.2.1])), (h_this_doneRules_kinds, .inl (cI, 24, .inl q.2.2.2.2.2.2.2.2.2.1)), (h_this_doneRules_ys, .inl (cI, 24, .inl q.2.2.2.2.2.2.2.2.2.2.1)), (h_this_doneRules_zs, .inl (cI, 24, .inl q.2.2.2.2.2.2.2.2.2.2.2))] 7 [(0, .ref h_this), (1, .int q.1), (2, .int q.2.1)] []) (fun q => ZV p l e rm_Ps_reduce s m args below meth c 3 D (some (.int rr)) [(h_this, .inr (4, [.ref h_this_values, .ref h_this_polynomial, .ref h_this_doneRules, .ref h_this_ways, .ref h_this_root, .int v_wireCount, .int v_bitsCame, .int o_bitsThere, .int v_inputBits, .int o_rootsBelow, .int v_begunOpen, .int o_empty])), (h_this_values, .inl (cI, 6, .inl o_values)), (h_this_polynomial, .inr (1, [.ref h_this_polynomial_numbers, .int o_polynomial_monomials])), (h_this_polynomial_numbers, .inl (cI, 2325, .inl o_polynomial_numbers)), (h_this_doneRules, .inr (0, [.ref h_this_doneRules_kinds, .ref h_this_doneRules_ys, .ref h_this_doneRules_zs, .int o_doneRules_count])), (h_this_doneRules_kinds, .inl (cI, 24, .inl o_doneRules_kinds)), (h_this_doneRules_ys, .inl (cI, 24, .inl o_doneRules_ys)), (h_this_doneRules_zs, .inl (cI, 24, .inl o_doneRules_zs))] [h_this, h_this_values, h_this_polynomial, h_this_polynomial_numbers, h_this_doneRules, h_this_doneRules_kinds, h_this_doneRules_ys, h_this_doneRules_zs] [(h_this, .inr (4, [.ref h_this_values, .ref h_this_polynomial, .ref h_this_doneRules, .ref h_this_ways, .ref h_this_root, .int v_wireCount, .int v_bitsCame, .int q.2.1, .int v_inputBits, .int q.2.2.1, .int v_begunOpen, .int q.2.2.2.1])), (h_this_values, .inl (cI, 6, .inl q.2.2.2.2.1)), (h_this_polynomial, .inr (1, [.ref h_this_polynomial_numbers, .int q.2.2.2.2.2.1])), (h_this_polynomial_numbers, .inl (cI, 2325, .inl q.2.2.2.2.2.2.1)), (h_this_doneRules, .inr (0, [.ref h_this_doneRules_kinds, .ref h_this_doneRules_ys, .ref h_this_doneRules_zs, .int q.2.2.2.2.2.2.2.1])), (h_this_doneRules_kinds, .inl (cI, 24, .inl q.2.2.2.2.2.2.2.2.1)), (h_this_doneRules_ys, .inl (cI, 24, .inl q.2.2.2.2.2.2.2.2.2.1)), (h_this_doneRules_zs, .inl (cI, 24, .inl q.2.2.2.2.2.2.2.2.2.2))] 39 [(1, .int q.1)] []) z) : ZV p l e rm_Ps_reduce s m args below meth c 3 D (some (.int rr)) [(h_this, .inr (4, [.ref h_this_values, .ref h_this_polynomial, .ref h_this_doneRules, .ref h_this_ways, .ref h_this_root, .int v_wireCount, .int v_bitsCame, .int o_bitsThere, .int v_inputBits, .int o_rootsBelow, .int v_begunOpen, .int o_empty])), (h_this_values, .inl (cI, 6, .inl o_values)), (h_this_polynomial, .inr (1, [.ref h_this_polynomial_numbers, .int o_polynomial_monomials])), (h_this_polynomial_numbers, .inl (cI, 2325, .inl o_polynomial_numbers)), (h_this_doneRules, .inr (0, [.ref h_this_doneRules_kinds, .ref h_this_doneRules_ys, .ref h_this_doneRules_zs, .int o_doneRules_count])), (h_this_doneRules_kinds, .inl (cI, 24, .inl o_doneRules_kinds)), (h_this_doneRules_ys, .inl (cI, 24, .inl o_doneRules_ys)), (h_this_doneRules_zs, .inl (cI, 24, .inl o_doneRules_zs))] [h_this, h_this_values, h_this_polynomial, h_this_polynomial_numbers, h_this_doneRules, h_this_doneRules_kinds, h_this_doneRules_ys, h_this_doneRules_zs] [(h_this, .inr (4, [.ref h_this_values, .ref h_this_polynomial, .ref h_this_doneRules, .ref h_this_ways, .ref h_this_root, .int v_wireCount, .int v_bitsCame, .int v_bitsThere, .int v_inputBits, .int v_rootsBelow, .int v_begunOpen, .int v_empty])), (h_this_values, .inl (cI, 6, .inl v_values)), (h_this_polynomial, .inr (1, [.ref h_this_polynomial_numbers, .int v_polynomial_monomials])), (h_this_polynomial_numbers, .inl (cI, 2325, .inl v_polynomial_numbers)), (h_this_doneRules, .inr (0, [.ref h_this_doneRules_kinds, .ref h_this_doneRules_ys, .ref h_this_doneRules_zs, .int v_doneRules_count])), (h_this_doneRules_kinds, .inl (cI, 24, .inl v_doneRules_kinds)), (h_this_doneRules_ys, .inl (cI, 24, .inl v_doneRules_ys)), (h_this_doneRules_zs, .inl (cI, 24, .inl v_doneRules_zs))] 7 [(0, .ref h_this), (1, .int x1), (2, .int x2)] [] := by
  unfold f_Ps_reduce_l7 at hf
  refine z_iload_n C d_Ps_reduce_7 rfl 2 rfl ?_
  refine z_iconst (v := -1) C d_Ps_reduce_8 (by decide) ?_
  refine z_icmp_eq (tgt := 39) C d_Ps_reduce_9 (by decide) (fun c_1 => ?_) (fun c_1 => ?_)
  · have hf := zif_pos c_1 hf
    refine z_lv [1] rfl ?_
    cases hf
    exact hK
  · have hf := zif_neg c_1 hf
    refine z_iload_n C d_Ps_reduce_12 rfl 1 rfl ?_
    refine z_bipush (v := 24) C d_Ps_reduce_13 (by decide) ?_
    refine z_icmp_ge (tgt := 39) C d_Ps_reduce_15 (by decide) (fun c_2 => ?_) (fun c_2 => ?_)
    · have hf := zif_pos c_2 hf
      refine z_lv [1] rfl ?_
      cases hf
      exact hK
    · have hf := zif_neg c_2 hf
      refine z_aload_n C d_Ps_reduce_18 rfl 0 rfl ?_
      refine z_aload_n C d_Ps_reduce_19 rfl 0 rfl ?_
      refine z_iload_n C d_Ps_reduce_20 rfl 2 rfl ?_
      obtain ⟨r_4, h_3, hf⟩ := zb1_elim hf
      refine z_callV (As := [.int x2]) (rest := [.ref h_this]) (ws' := [(h_this, .inr (4, [.ref h_this_values, .ref h_this_polynomial, .ref h_this_doneRules, .ref h_this_ways, .ref h_this_root, .int v_wireCount, .int v_bitsCame, .int v_bitsThere, .int v_inputBits, .int v_rootsBelow, .int v_begunOpen, .int v_empty])), (h_this_values, .inl (cI, 6, .inl v_values)), (h_this_polynomial, .inr (1, [.ref h_this_polynomial_numbers, .int v_polynomial_monomials])), (h_this_polynomial_numbers, .inl (cI, 2325, .inl v_polynomial_numbers)), (h_this_doneRules, .inr (0, [.ref h_this_doneRules_kinds, .ref h_this_doneRules_ys, .ref h_this_doneRules_zs, .int v_doneRules_count])), (h_this_doneRules_kinds, .inl (cI, 24, .inl v_doneRules_kinds)), (h_this_doneRules_ys, .inl (cI, 24, .inl v_doneRules_ys)), (h_this_doneRules_zs, .inl (cI, 24, .inl v_doneRules_zs))]) C (c_Ps_ruleFor h_3) mi_Ps_ruleFor zw_270 (by decide) 0 rfl rfl [0, 2, 3] (by decide) rfl rfl rfl rfl rfl (by decide) ⟨Nat.zero_le _, Nat.zero_le _⟩ d_Ps_reduce_21 ?_
      refine z_iload_n C d_Ps_reduce_24 rfl 2 rfl ?_
      obtain ⟨q_6, q_7, q_8, q_9, q_10, q_11, q_12, q_13, q_14, q_15, h_5, hf⟩ := zb10_elim hf
      refine z_callV (As := [.int r_4, .int x2]) (rest := []) (ws' := [(h_this, .inr (4, [.ref h_this_values, .ref h_this_polynomial, .ref h_this_doneRules, .ref h_this_ways, .ref h_this_root, .int v_wireCount, .int v_bitsCame, .int q_6, .int v_inputBits, .int q_7, .int v_begunOpen, .int q_8])), (h_this_values, .inl (cI, 6, .inl q_15)), (h_this_polynomial, .inr (1, [.ref h_this_polynomial_numbers, .int q_9])), (h_this_polynomial_numbers, .inl (cI, 2325, .inl q_10)), (h_this_doneRules, .inr (0, [.ref h_this_doneRules_kinds, .ref h_this_doneRules_ys, .ref h_this_doneRules_zs, .int q_11])), (h_this_doneRules_kinds, .inl (cI, 24, .inl q_12)), (h_this_doneRules_ys, .inl (cI, 24, .inl q_13)), (h_this_doneRules_zs, .inl (cI, 24, .inl q_14))]) C (c_Ps_doRule h_5) mi_Ps_doRule zw_283 (by decide) 0 rfl rfl [0, 2, 3, 4, 5, 6, 7, 1] (by decide) rfl rfl rfl rfl rfl (by decide) ⟨Nat.zero_le _, Nat.zero_le _⟩ d_Ps_reduce_25 ?_
      obtain ⟨y_16, ey_16⟩ : ∃ y : Int32, y = x1 + 1 := ⟨_, rfl⟩
      have hf := zlet_at ey_16 hf
      refine z_iinc (v := y_16) (lv' := [(1, .int y_16), (0, .ref h_this), (2, .int x2)]) C d_Ps_reduce_28 (k := 1) rfl (by rw [ey_16]; rfl) (by decide) rfl ?_
      refine z_aload_n C d_Ps_reduce_31 rfl 1 rfl ?_
      obtain ⟨r_18, h_17, hf⟩ := zb1_elim hf
      refine z_callV (As := []) (rest := []) (ws' := [(h_this, .inr (4, [.ref h_this_values, .ref h_this_polynomial, .ref h_this_doneRules, .ref h_this_ways, .ref h_this_root, .int v_wireCount, .int v_bitsCame, .int q_6, .int v_inputBits, .int q_7, .int v_begunOpen, .int q_8])), (h_this_values, .inl (cI, 6, .inl q_15)), (h_this_polynomial, .inr (1, [.ref h_this_polynomial_numbers, .int q_9])), (h_this_polynomial_numbers, .inl (cI, 2325, .inl q_10)), (h_this_doneRules, .inr (0, [.ref h_this_doneRules_kinds, .ref h_this_doneRules_ys, .ref h_this_doneRules_zs, .int q_11])), (h_this_doneRules_kinds, .inl (cI, 24, .inl q_12)), (h_this_doneRules_ys, .inl (cI, 24, .inl q_13)), (h_this_doneRules_zs, .inl (cI, 24, .inl q_14))]) C (c_Ps_leastBitWithRule h_17) mi_Ps_leastBitWithRule zw_266 (by decide) 0 rfl rfl [0, 1, 2, 3] (by decide) rfl rfl rfl rfl rfl (by decide) ⟨Nat.zero_le _, Nat.zero_le _⟩ d_Ps_reduce_32 ?_
      refine z_istore_n (lv' := [(2, .int r_18), (1, .int y_16), (0, .ref h_this)]) C d_Ps_reduce_35 rfl (by decide) rfl ?_
      refine z_goto (tgt := 7) C d_Ps_reduce_36 (by decide) ?_
      refine z_lv [2, 1, 0] rfl ?_
      cases hf
      exact hK
theorem k_Ps_reduce_l7_run {p : Program} {l : Launch} {e : Env} {s : State} {m : MethodId} {args : Array Value} {below : List Frame} {meth : Method} {c : Code} {D : va_G} {cI cL : ClassId} {h_this h_this_values h_this_polynomial h_this_doneRules h_this_ways h_this_root h_this_polynomial_numbers h_this_doneRules_kinds h_this_doneRules_ys h_this_doneRules_zs : Nat} {v_wireCount v_bitsCame v_bitsThere v_inputBits v_rootsBelow v_begunOpen v_empty v_polynomial_monomials v_doneRules_count rr o_bitsThere o_rootsBelow o_empty o_polynomial_monomials o_doneRules_count x1 x2 : Int32} {v_values v_polynomial_numbers v_doneRules_kinds v_doneRules_ys v_doneRules_zs o_values o_polynomial_numbers o_doneRules_kinds o_doneRules_ys o_doneRules_zs : Nat → Int32} (C : zC p s m args meth c b_Ps_reduce 3 R_Ps D vwCl [(cI, .int), (cL, .long)] (zA [h_this, h_this_values, h_this_polynomial, h_this_polynomial_numbers, h_this_doneRules, h_this_doneRules_kinds, h_this_doneRules_ys, h_this_doneRules_zs] s.heap.size)) (hr : meth.sig.returnType = some .int) {o0 : Int32} {o1 : Int32} {o2 : Int32} {o3 : Int32} {o4 : Nat → Int32} {o5 : Int32} {o6 : Nat → Int32} {o7 : Int32} {o8 : Nat → Int32} {o9 : Nat → Int32} {o10 : Nat → Int32} (hf : zloop (fun q => f_Ps_reduce_l7 v_inputBits q.1 q.2.1 q.2.2.1 q.2.2.2.1 q.2.2.2.2.1 q.2.2.2.2.2.1 q.2.2.2.2.2.2.1 q.2.2.2.2.2.2.2.1 q.2.2.2.2.2.2.2.2.1 q.2.2.2.2.2.2.2.2.2.1 q.2.2.2.2.2.2.2.2.2.2.1 q.2.2.2.2.2.2.2.2.2.2.2) zF (x1, x2, v_bitsThere, v_rootsBelow, v_empty, v_values, v_polynomial_monomials, v_polynomial_numbers, v_doneRules_count, v_doneRules_kinds, v_doneRules_ys, v_doneRules_zs) = some (o0, o1, o2, o3, o4, o5, o6, o7, o8, o9, o10)) (hK : ZV p l e rm_Ps_reduce s m args below meth c 3 D (some (.int rr)) [(h_this, .inr (4, [.ref h_this_values, .ref h_this_polynomial, .ref h_this_doneRules, .ref h_this_ways, .ref h_this_root, .int v_wireCount, .int v_bitsCame, .int o_bitsThere, .int v_inputBits, .int o_rootsBelow, .int v_begunOpen, .int o_empty])), (h_this_values, .inl (cI, 6, .inl o_values)), (h_this_polynomial, .inr (1, [.ref h_this_polynomial_numbers, .int o_polynomial_monomials])), (h_this_polynomial_numbers, .inl (cI, 2325, .inl o_polynomial_numbers)), (h_this_doneRules, .inr (0, [.ref h_this_doneRules_kinds, .ref h_this_doneRules_ys, .ref h_this_doneRules_zs, .int o_doneRules_count])), (h_this_doneRules_kinds, .inl (cI, 24, .inl o_doneRules_kinds)), (h_this_doneRules_ys, .inl (cI, 24, .inl o_doneRules_ys)), (h_this_doneRules_zs, .inl (cI, 24, .inl o_doneRules_zs))] [h_this, h_this_values, h_this_polynomial, h_this_polynomial_numbers, h_this_doneRules, h_this_doneRules_kinds, h_this_doneRules_ys, h_this_doneRules_zs] [(h_this, .inr (4, [.ref h_this_values, .ref h_this_polynomial, .ref h_this_doneRules, .ref h_this_ways, .ref h_this_root, .int v_wireCount, .int v_bitsCame, .int o1, .int v_inputBits, .int o2, .int v_begunOpen, .int o3])), (h_this_values, .inl (cI, 6, .inl o4)), (h_this_polynomial, .inr (1, [.ref h_this_polynomial_numbers, .int o5])), (h_this_polynomial_numbers, .inl (cI, 2325, .inl o6)), (h_this_doneRules, .inr (0, [.ref h_this_doneRules_kinds, .ref h_this_doneRules_ys, .ref h_this_doneRules_zs, .int o7])), (h_this_doneRules_kinds, .inl (cI, 24, .inl o8)), (h_this_doneRules_ys, .inl (cI, 24, .inl o9)), (h_this_doneRules_zs, .inl (cI, 24, .inl o10))] 39 [(1, .int o0)] []) : ZV p l e rm_Ps_reduce s m args below meth c 3 D (some (.int rr)) [(h_this, .inr (4, [.ref h_this_values, .ref h_this_polynomial, .ref h_this_doneRules, .ref h_this_ways, .ref h_this_root, .int v_wireCount, .int v_bitsCame, .int o_bitsThere, .int v_inputBits, .int o_rootsBelow, .int v_begunOpen, .int o_empty])), (h_this_values, .inl (cI, 6, .inl o_values)), (h_this_polynomial, .inr (1, [.ref h_this_polynomial_numbers, .int o_polynomial_monomials])), (h_this_polynomial_numbers, .inl (cI, 2325, .inl o_polynomial_numbers)), (h_this_doneRules, .inr (0, [.ref h_this_doneRules_kinds, .ref h_this_doneRules_ys, .ref h_this_doneRules_zs, .int o_doneRules_count])), (h_this_doneRules_kinds, .inl (cI, 24, .inl o_doneRules_kinds)), (h_this_doneRules_ys, .inl (cI, 24, .inl o_doneRules_ys)), (h_this_doneRules_zs, .inl (cI, 24, .inl o_doneRules_zs))] [h_this, h_this_values, h_this_polynomial, h_this_polynomial_numbers, h_this_doneRules, h_this_doneRules_kinds, h_this_doneRules_ys, h_this_doneRules_zs] [(h_this, .inr (4, [.ref h_this_values, .ref h_this_polynomial, .ref h_this_doneRules, .ref h_this_ways, .ref h_this_root, .int v_wireCount, .int v_bitsCame, .int v_bitsThere, .int v_inputBits, .int v_rootsBelow, .int v_begunOpen, .int v_empty])), (h_this_values, .inl (cI, 6, .inl v_values)), (h_this_polynomial, .inr (1, [.ref h_this_polynomial_numbers, .int v_polynomial_monomials])), (h_this_polynomial_numbers, .inl (cI, 2325, .inl v_polynomial_numbers)), (h_this_doneRules, .inr (0, [.ref h_this_doneRules_kinds, .ref h_this_doneRules_ys, .ref h_this_doneRules_zs, .int v_doneRules_count])), (h_this_doneRules_kinds, .inl (cI, 24, .inl v_doneRules_kinds)), (h_this_doneRules_ys, .inl (cI, 24, .inl v_doneRules_ys)), (h_this_doneRules_zs, .inl (cI, 24, .inl v_doneRules_zs))] 7 [(0, .ref h_this), (1, .int x1), (2, .int x2)] [] :=
  zloop_run (P := fun q => ZV p l e rm_Ps_reduce s m args below meth c 3 D (some (.int rr)) [(h_this, .inr (4, [.ref h_this_values, .ref h_this_polynomial, .ref h_this_doneRules, .ref h_this_ways, .ref h_this_root, .int v_wireCount, .int v_bitsCame, .int o_bitsThere, .int v_inputBits, .int o_rootsBelow, .int v_begunOpen, .int o_empty])), (h_this_values, .inl (cI, 6, .inl o_values)), (h_this_polynomial, .inr (1, [.ref h_this_polynomial_numbers, .int o_polynomial_monomials])), (h_this_polynomial_numbers, .inl (cI, 2325, .inl o_polynomial_numbers)), (h_this_doneRules, .inr (0, [.ref h_this_doneRules_kinds, .ref h_this_doneRules_ys, .ref h_this_doneRules_zs, .int o_doneRules_count])), (h_this_doneRules_kinds, .inl (cI, 24, .inl o_doneRules_kinds)), (h_this_doneRules_ys, .inl (cI, 24, .inl o_doneRules_ys)), (h_this_doneRules_zs, .inl (cI, 24, .inl o_doneRules_zs))] [h_this, h_this_values, h_this_polynomial, h_this_polynomial_numbers, h_this_doneRules, h_this_doneRules_kinds, h_this_doneRules_ys, h_this_doneRules_zs] [(h_this, .inr (4, [.ref h_this_values, .ref h_this_polynomial, .ref h_this_doneRules, .ref h_this_ways, .ref h_this_root, .int v_wireCount, .int v_bitsCame, .int q.2.2.1, .int v_inputBits, .int q.2.2.2.1, .int v_begunOpen, .int q.2.2.2.2.1])), (h_this_values, .inl (cI, 6, .inl q.2.2.2.2.2.1)), (h_this_polynomial, .inr (1, [.ref h_this_polynomial_numbers, .int q.2.2.2.2.2.2.1])), (h_this_polynomial_numbers, .inl (cI, 2325, .inl q.2.2.2.2.2.2.2.1)), (h_this_doneRules, .inr (0, [.ref h_this_doneRules_kinds, .ref h_this_doneRules_ys, .ref h_this_doneRules_zs, .int q.2.2.2.2.2.2.2.2.1])), (h_this_doneRules_kinds, .inl (cI, 24, .inl q.2.2.2.2.2.2.2.2.2.1)), (h_this_doneRules_ys, .inl (cI, 24, .inl q.2.2.2.2.2.2.2.2.2.2.1)), (h_this_doneRules_zs, .inl (cI, 24, .inl q.2.2.2.2.2.2.2.2.2.2.2))] 7 [(0, .ref h_this), (1, .int q.1), (2, .int q.2.1)] []) (K := (fun q => ZV p l e rm_Ps_reduce s m args below meth c 3 D (some (.int rr)) [(h_this, .inr (4, [.ref h_this_values, .ref h_this_polynomial, .ref h_this_doneRules, .ref h_this_ways, .ref h_this_root, .int v_wireCount, .int v_bitsCame, .int o_bitsThere, .int v_inputBits, .int o_rootsBelow, .int v_begunOpen, .int o_empty])), (h_this_values, .inl (cI, 6, .inl o_values)), (h_this_polynomial, .inr (1, [.ref h_this_polynomial_numbers, .int o_polynomial_monomials])), (h_this_polynomial_numbers, .inl (cI, 2325, .inl o_polynomial_numbers)), (h_this_doneRules, .inr (0, [.ref h_this_doneRules_kinds, .ref h_this_doneRules_ys, .ref h_this_doneRules_zs, .int o_doneRules_count])), (h_this_doneRules_kinds, .inl (cI, 24, .inl o_doneRules_kinds)), (h_this_doneRules_ys, .inl (cI, 24, .inl o_doneRules_ys)), (h_this_doneRules_zs, .inl (cI, 24, .inl o_doneRules_zs))] [h_this, h_this_values, h_this_polynomial, h_this_polynomial_numbers, h_this_doneRules, h_this_doneRules_kinds, h_this_doneRules_ys, h_this_doneRules_zs] [(h_this, .inr (4, [.ref h_this_values, .ref h_this_polynomial, .ref h_this_doneRules, .ref h_this_ways, .ref h_this_root, .int v_wireCount, .int v_bitsCame, .int q.2.1, .int v_inputBits, .int q.2.2.1, .int v_begunOpen, .int q.2.2.2.1])), (h_this_values, .inl (cI, 6, .inl q.2.2.2.2.1)), (h_this_polynomial, .inr (1, [.ref h_this_polynomial_numbers, .int q.2.2.2.2.2.1])), (h_this_polynomial_numbers, .inl (cI, 2325, .inl q.2.2.2.2.2.2.1)), (h_this_doneRules, .inr (0, [.ref h_this_doneRules_kinds, .ref h_this_doneRules_ys, .ref h_this_doneRules_zs, .int q.2.2.2.2.2.2.2.1])), (h_this_doneRules_kinds, .inl (cI, 24, .inl q.2.2.2.2.2.2.2.2.1)), (h_this_doneRules_ys, .inl (cI, 24, .inl q.2.2.2.2.2.2.2.2.2.1)), (h_this_doneRules_zs, .inl (cI, 24, .inl q.2.2.2.2.2.2.2.2.2.2))] 39 [(1, .int q.1)] [])) (fun q z hz hK => k_Ps_reduce_l7 C hr hz hK) zF _ ((o0, o1, o2, o3, o4, o5, o6, o7, o8, o9, o10)) hf hK
/-- PathSums.reduce()I -/
def f_Ps_reduce (v_bitsThere : Int32) (v_inputBits : Int32) (v_rootsBelow : Int32) (v_empty : Int32) (v_values : Nat → Int32) (v_polynomial_monomials : Int32) (v_polynomial_numbers : Nat → Int32) (v_doneRules_count : Int32) (v_doneRules_kinds : Nat → Int32) (v_doneRules_ys : Nat → Int32) (v_doneRules_zs : Nat → Int32) : Option (Int32 × Int32 × Int32 × Int32 × (Nat → Int32) × Int32 × (Nat → Int32) × Int32 × (Nat → Int32) × (Nat → Int32) × (Nat → Int32)) :=
  zb1 (f_Ps_leastBitWithRule v_bitsThere v_inputBits v_values v_polynomial_numbers) fun r_2 =>
  zb11 (zloop (fun q => f_Ps_reduce_l7 v_inputBits q.1 q.2.1 q.2.2.1 q.2.2.2.1 q.2.2.2.2.1 q.2.2.2.2.2.1 q.2.2.2.2.2.2.1 q.2.2.2.2.2.2.2.1 q.2.2.2.2.2.2.2.2.1 q.2.2.2.2.2.2.2.2.2.1 q.2.2.2.2.2.2.2.2.2.2.1 q.2.2.2.2.2.2.2.2.2.2.2) zF ((0 : Int32), r_2, v_bitsThere, v_rootsBelow, v_empty, v_values, v_polynomial_monomials, v_polynomial_numbers, v_doneRules_count, v_doneRules_kinds, v_doneRules_ys, v_doneRules_zs)) fun y_3 q_4 q_5 q_6 q_7 q_8 q_9 q_10 q_11 q_12 q_13 =>
  some (y_3, q_4, q_5, q_6, q_7, q_8, q_9, q_10, q_11, q_12, q_13)
set_option maxRecDepth 100000 in
set_option maxHeartbeats 4000000 in
theorem k_Ps_reduce {p : Program} {l : Launch} {e : Env} {s : State} {m : MethodId} {args : Array Value} {below : List Frame} {meth : Method} {c : Code} {D : va_G} {cI cL : ClassId} {h_this h_this_values h_this_polynomial h_this_doneRules h_this_ways h_this_root h_this_polynomial_numbers h_this_doneRules_kinds h_this_doneRules_ys h_this_doneRules_zs : Nat} {v_wireCount v_bitsCame v_bitsThere v_inputBits v_rootsBelow v_begunOpen v_empty v_polynomial_monomials v_doneRules_count rr o_bitsThere o_rootsBelow o_empty o_polynomial_monomials o_doneRules_count : Int32} {v_values v_polynomial_numbers v_doneRules_kinds v_doneRules_ys v_doneRules_zs o_values o_polynomial_numbers o_doneRules_kinds o_doneRules_ys o_doneRules_zs : Nat → Int32} (C : zC p s m args meth c b_Ps_reduce 3 R_Ps D vwCl [(cI, .int), (cL, .long)] (zA [h_this, h_this_values, h_this_polynomial, h_this_polynomial_numbers, h_this_doneRules, h_this_doneRules_kinds, h_this_doneRules_ys, h_this_doneRules_zs] s.heap.size)) (hr : meth.sig.returnType = some .int) (hf : f_Ps_reduce v_bitsThere v_inputBits v_rootsBelow v_empty v_values v_polynomial_monomials v_polynomial_numbers v_doneRules_count v_doneRules_kinds v_doneRules_ys v_doneRules_zs = some (rr, o_bitsThere, o_rootsBelow, o_empty, o_values, o_polynomial_monomials, o_polynomial_numbers, o_doneRules_count, o_doneRules_kinds, o_doneRules_ys, o_doneRules_zs)) : ZV p l e rm_Ps_reduce s m args below meth c 3 D (some (.int rr)) [(h_this, .inr (4, [.ref h_this_values, .ref h_this_polynomial, .ref h_this_doneRules, .ref h_this_ways, .ref h_this_root, .int v_wireCount, .int v_bitsCame, .int o_bitsThere, .int v_inputBits, .int o_rootsBelow, .int v_begunOpen, .int o_empty])), (h_this_values, .inl (cI, 6, .inl o_values)), (h_this_polynomial, .inr (1, [.ref h_this_polynomial_numbers, .int o_polynomial_monomials])), (h_this_polynomial_numbers, .inl (cI, 2325, .inl o_polynomial_numbers)), (h_this_doneRules, .inr (0, [.ref h_this_doneRules_kinds, .ref h_this_doneRules_ys, .ref h_this_doneRules_zs, .int o_doneRules_count])), (h_this_doneRules_kinds, .inl (cI, 24, .inl o_doneRules_kinds)), (h_this_doneRules_ys, .inl (cI, 24, .inl o_doneRules_ys)), (h_this_doneRules_zs, .inl (cI, 24, .inl o_doneRules_zs))] [h_this, h_this_values, h_this_polynomial, h_this_polynomial_numbers, h_this_doneRules, h_this_doneRules_kinds, h_this_doneRules_ys, h_this_doneRules_zs] [(h_this, .inr (4, [.ref h_this_values, .ref h_this_polynomial, .ref h_this_doneRules, .ref h_this_ways, .ref h_this_root, .int v_wireCount, .int v_bitsCame, .int v_bitsThere, .int v_inputBits, .int v_rootsBelow, .int v_begunOpen, .int v_empty])), (h_this_values, .inl (cI, 6, .inl v_values)), (h_this_polynomial, .inr (1, [.ref h_this_polynomial_numbers, .int v_polynomial_monomials])), (h_this_polynomial_numbers, .inl (cI, 2325, .inl v_polynomial_numbers)), (h_this_doneRules, .inr (0, [.ref h_this_doneRules_kinds, .ref h_this_doneRules_ys, .ref h_this_doneRules_zs, .int v_doneRules_count])), (h_this_doneRules_kinds, .inl (cI, 24, .inl v_doneRules_kinds)), (h_this_doneRules_ys, .inl (cI, 24, .inl v_doneRules_ys)), (h_this_doneRules_zs, .inl (cI, 24, .inl v_doneRules_zs))] 0 [(0, .ref h_this)] [] := by
  unfold f_Ps_reduce at hf
  refine z_iconst (v := 0) C d_Ps_reduce_0 (by decide) ?_
  refine z_istore_n (lv' := [(1, .int (0 : Int32)), (0, .ref h_this)]) C d_Ps_reduce_1 rfl (by decide) rfl ?_
  refine z_aload_n C d_Ps_reduce_2 rfl 1 rfl ?_
  obtain ⟨r_2, h_1, hf⟩ := zb1_elim hf
  refine z_callV (As := []) (rest := []) (ws' := [(h_this, .inr (4, [.ref h_this_values, .ref h_this_polynomial, .ref h_this_doneRules, .ref h_this_ways, .ref h_this_root, .int v_wireCount, .int v_bitsCame, .int v_bitsThere, .int v_inputBits, .int v_rootsBelow, .int v_begunOpen, .int v_empty])), (h_this_values, .inl (cI, 6, .inl v_values)), (h_this_polynomial, .inr (1, [.ref h_this_polynomial_numbers, .int v_polynomial_monomials])), (h_this_polynomial_numbers, .inl (cI, 2325, .inl v_polynomial_numbers)), (h_this_doneRules, .inr (0, [.ref h_this_doneRules_kinds, .ref h_this_doneRules_ys, .ref h_this_doneRules_zs, .int v_doneRules_count])), (h_this_doneRules_kinds, .inl (cI, 24, .inl v_doneRules_kinds)), (h_this_doneRules_ys, .inl (cI, 24, .inl v_doneRules_ys)), (h_this_doneRules_zs, .inl (cI, 24, .inl v_doneRules_zs))]) C (c_Ps_leastBitWithRule h_1) mi_Ps_leastBitWithRule zw_266 (by decide) 0 rfl rfl [0, 1, 2, 3] (by decide) rfl rfl rfl rfl rfl (by decide) ⟨Nat.zero_le _, Nat.zero_le _⟩ d_Ps_reduce_3 ?_
  refine z_istore_n (lv' := [(2, .int r_2), (1, .int (0 : Int32)), (0, .ref h_this)]) C d_Ps_reduce_6 rfl (by decide) rfl ?_
  refine z_lv [2, 1, 0] rfl ?_
  obtain ⟨y_3, q_4, q_5, q_6, q_7, q_8, q_9, q_10, q_11, q_12, q_13, h_14, hf⟩ := zb11_elim hf
  refine k_Ps_reduce_l7_run C hr h_14 ?_
  refine z_iload_n C d_Ps_reduce_39 rfl 0 rfl ?_
  cases hf
  exact z_iret C hr d_Ps_reduce_40
theorem c_Ps_reduce {l : Launch} {D : va_G} {cI cL : ClassId} {h_this h_this_values h_this_polynomial h_this_doneRules h_this_ways h_this_root h_this_polynomial_numbers h_this_doneRules_kinds h_this_doneRules_ys h_this_doneRules_zs : Nat} {v_wireCount v_bitsCame v_bitsThere v_inputBits v_rootsBelow v_begunOpen v_empty v_polynomial_monomials v_doneRules_count rr o_bitsThere o_rootsBelow o_empty o_polynomial_monomials o_doneRules_count : Int32} {v_values v_polynomial_numbers v_doneRules_kinds v_doneRules_ys v_doneRules_zs o_values o_polynomial_numbers o_doneRules_kinds o_doneRules_ys o_doneRules_zs : Nat → Int32} (hf : f_Ps_reduce v_bitsThere v_inputBits v_rootsBelow v_empty v_values v_polynomial_monomials v_polynomial_numbers v_doneRules_count v_doneRules_kinds v_doneRules_ys v_doneRules_zs = some (rr, o_bitsThere, o_rootsBelow, o_empty, o_values, o_polynomial_monomials, o_polynomial_numbers, o_doneRules_count, o_doneRules_kinds, o_doneRules_ys, o_doneRules_zs)) : zM l y_Ps_reduce (Cond.code y_Ps_reduce b_Ps_reduce 3 (some .int) :: zT) rm_Ps_reduce D vwCl [(cI, .int), (cL, .long)] [.ref h_this] [(h_this, .inr (4, [.ref h_this_values, .ref h_this_polynomial, .ref h_this_doneRules, .ref h_this_ways, .ref h_this_root, .int v_wireCount, .int v_bitsCame, .int v_bitsThere, .int v_inputBits, .int v_rootsBelow, .int v_begunOpen, .int v_empty])), (h_this_values, .inl (cI, 6, .inl v_values)), (h_this_polynomial, .inr (1, [.ref h_this_polynomial_numbers, .int v_polynomial_monomials])), (h_this_polynomial_numbers, .inl (cI, 2325, .inl v_polynomial_numbers)), (h_this_doneRules, .inr (0, [.ref h_this_doneRules_kinds, .ref h_this_doneRules_ys, .ref h_this_doneRules_zs, .int v_doneRules_count])), (h_this_doneRules_kinds, .inl (cI, 24, .inl v_doneRules_kinds)), (h_this_doneRules_ys, .inl (cI, 24, .inl v_doneRules_ys)), (h_this_doneRules_zs, .inl (cI, 24, .inl v_doneRules_zs))] [(h_this, .inr (4, [.ref h_this_values, .ref h_this_polynomial, .ref h_this_doneRules, .ref h_this_ways, .ref h_this_root, .int v_wireCount, .int v_bitsCame, .int o_bitsThere, .int v_inputBits, .int o_rootsBelow, .int v_begunOpen, .int o_empty])), (h_this_values, .inl (cI, 6, .inl o_values)), (h_this_polynomial, .inr (1, [.ref h_this_polynomial_numbers, .int o_polynomial_monomials])), (h_this_polynomial_numbers, .inl (cI, 2325, .inl o_polynomial_numbers)), (h_this_doneRules, .inr (0, [.ref h_this_doneRules_kinds, .ref h_this_doneRules_ys, .ref h_this_doneRules_zs, .int o_doneRules_count])), (h_this_doneRules_kinds, .inl (cI, 24, .inl o_doneRules_kinds)), (h_this_doneRules_ys, .inl (cI, 24, .inl o_doneRules_ys)), (h_this_doneRules_zs, .inl (cI, 24, .inl o_doneRules_zs))] (some (.int rr)) :=
  zM.intro (by decide) rfl (fun _ h => List.mem_cons_of_mem _ h) (Nat.le_of_ble_eq_true rfl) (fun _ _ _ _ _ _ _ C hr _ => k_Ps_reduce C hr hf)
def rm_Ps_rule : Room := { frames := 1, cells := 0, slots := 0, locals := 22 }
/-- PathSums.rule(II)I -/
def f_Ps_rule (x1 : Int32) (x2 : Int32) (v_doneRules_count : Int32) (v_doneRules_kinds : Nat → Int32) (v_doneRules_ys : Nat → Int32) (v_doneRules_zs : Nat → Int32) : Option (Int32) :=
  zb1 (f_Dr_look x1 x2 v_doneRules_count v_doneRules_kinds v_doneRules_ys v_doneRules_zs) fun r_2 =>
  some (r_2)
set_option maxRecDepth 100000 in
set_option maxHeartbeats 4000000 in
theorem k_Ps_rule {p : Program} {l : Launch} {e : Env} {s : State} {m : MethodId} {args : Array Value} {below : List Frame} {meth : Method} {c : Code} {D : va_G} {cI cL : ClassId} {h_this h_this_values h_this_polynomial h_this_doneRules h_this_ways h_this_root h_this_doneRules_kinds h_this_doneRules_ys h_this_doneRules_zs : Nat} {v_wireCount v_bitsCame v_bitsThere v_inputBits v_rootsBelow v_begunOpen v_empty v_doneRules_count rr x1 x2 : Int32} {v_doneRules_kinds v_doneRules_ys v_doneRules_zs : Nat → Int32} (C : zC p s m args meth c b_Ps_rule 3 R_Ps D vwCl [(cI, .int), (cL, .long)] (zA [h_this, h_this_doneRules, h_this_doneRules_kinds, h_this_doneRules_ys, h_this_doneRules_zs] s.heap.size)) (hr : meth.sig.returnType = some .int) (hf : f_Ps_rule x1 x2 v_doneRules_count v_doneRules_kinds v_doneRules_ys v_doneRules_zs = some rr) : ZV p l e rm_Ps_rule s m args below meth c 3 D (some (.int rr)) [(h_this, .inr (4, [.ref h_this_values, .ref h_this_polynomial, .ref h_this_doneRules, .ref h_this_ways, .ref h_this_root, .int v_wireCount, .int v_bitsCame, .int v_bitsThere, .int v_inputBits, .int v_rootsBelow, .int v_begunOpen, .int v_empty])), (h_this_doneRules, .inr (0, [.ref h_this_doneRules_kinds, .ref h_this_doneRules_ys, .ref h_this_doneRules_zs, .int v_doneRules_count])), (h_this_doneRules_kinds, .inl (cI, 24, .inl v_doneRules_kinds)), (h_this_doneRules_ys, .inl (cI, 24, .inl v_doneRules_ys)), (h_this_doneRules_zs, .inl (cI, 24, .inl v_doneRules_zs))] [h_this, h_this_doneRules, h_this_doneRules_kinds, h_this_doneRules_ys, h_this_doneRules_zs] [(h_this, .inr (4, [.ref h_this_values, .ref h_this_polynomial, .ref h_this_doneRules, .ref h_this_ways, .ref h_this_root, .int v_wireCount, .int v_bitsCame, .int v_bitsThere, .int v_inputBits, .int v_rootsBelow, .int v_begunOpen, .int v_empty])), (h_this_doneRules, .inr (0, [.ref h_this_doneRules_kinds, .ref h_this_doneRules_ys, .ref h_this_doneRules_zs, .int v_doneRules_count])), (h_this_doneRules_kinds, .inl (cI, 24, .inl v_doneRules_kinds)), (h_this_doneRules_ys, .inl (cI, 24, .inl v_doneRules_ys)), (h_this_doneRules_zs, .inl (cI, 24, .inl v_doneRules_zs))] 0 [(0, .ref h_this), (1, .int x1), (2, .int x2)] [] := by
  unfold f_Ps_rule at hf
  refine z_aload_n C d_Ps_rule_0 rfl 0 rfl ?_
  refine z_get C iw_Ps 0 rfl rfl 2 (by decide) zw_162 rfl d_Ps_rule_1 ?_
  refine z_iload_n C d_Ps_rule_4 rfl 1 rfl ?_
  refine z_iload_n C d_Ps_rule_5 rfl 2 rfl ?_
  obtain ⟨r_2, h_1, hf⟩ := zb1_elim hf
  refine z_callV (As := [.int x1, .int x2]) (rest := []) (ws' := [(h_this, .inr (4, [.ref h_this_values, .ref h_this_polynomial, .ref h_this_doneRules, .ref h_this_ways, .ref h_this_root, .int v_wireCount, .int v_bitsCame, .int v_bitsThere, .int v_inputBits, .int v_rootsBelow, .int v_begunOpen, .int v_empty])), (h_this_doneRules, .inr (0, [.ref h_this_doneRules_kinds, .ref h_this_doneRules_ys, .ref h_this_doneRules_zs, .int v_doneRules_count])), (h_this_doneRules_kinds, .inl (cI, 24, .inl v_doneRules_kinds)), (h_this_doneRules_ys, .inl (cI, 24, .inl v_doneRules_ys)), (h_this_doneRules_zs, .inl (cI, 24, .inl v_doneRules_zs))]) C (c_Dr_look h_1) mi_Dr_look zw_311 (by decide) 0 rfl rfl [1, 2, 3, 4] (by decide) rfl rfl rfl rfl rfl (by decide) ⟨Nat.zero_le _, Nat.zero_le _⟩ d_Ps_rule_6 ?_
  cases hf
  exact z_iret C hr d_Ps_rule_9
theorem c_Ps_rule {l : Launch} {D : va_G} {cI cL : ClassId} {h_this h_this_values h_this_polynomial h_this_doneRules h_this_ways h_this_root h_this_doneRules_kinds h_this_doneRules_ys h_this_doneRules_zs : Nat} {v_wireCount v_bitsCame v_bitsThere v_inputBits v_rootsBelow v_begunOpen v_empty v_doneRules_count rr x1 x2 : Int32} {v_doneRules_kinds v_doneRules_ys v_doneRules_zs : Nat → Int32} (hf : f_Ps_rule x1 x2 v_doneRules_count v_doneRules_kinds v_doneRules_ys v_doneRules_zs = some rr) : zM l y_Ps_rule (Cond.code y_Ps_rule b_Ps_rule 3 (some .int) :: zT) rm_Ps_rule D vwCl [(cI, .int), (cL, .long)] [.ref h_this, .int x1, .int x2] [(h_this, .inr (4, [.ref h_this_values, .ref h_this_polynomial, .ref h_this_doneRules, .ref h_this_ways, .ref h_this_root, .int v_wireCount, .int v_bitsCame, .int v_bitsThere, .int v_inputBits, .int v_rootsBelow, .int v_begunOpen, .int v_empty])), (h_this_doneRules, .inr (0, [.ref h_this_doneRules_kinds, .ref h_this_doneRules_ys, .ref h_this_doneRules_zs, .int v_doneRules_count])), (h_this_doneRules_kinds, .inl (cI, 24, .inl v_doneRules_kinds)), (h_this_doneRules_ys, .inl (cI, 24, .inl v_doneRules_ys)), (h_this_doneRules_zs, .inl (cI, 24, .inl v_doneRules_zs))] [(h_this, .inr (4, [.ref h_this_values, .ref h_this_polynomial, .ref h_this_doneRules, .ref h_this_ways, .ref h_this_root, .int v_wireCount, .int v_bitsCame, .int v_bitsThere, .int v_inputBits, .int v_rootsBelow, .int v_begunOpen, .int v_empty])), (h_this_doneRules, .inr (0, [.ref h_this_doneRules_kinds, .ref h_this_doneRules_ys, .ref h_this_doneRules_zs, .int v_doneRules_count])), (h_this_doneRules_kinds, .inl (cI, 24, .inl v_doneRules_kinds)), (h_this_doneRules_ys, .inl (cI, 24, .inl v_doneRules_ys)), (h_this_doneRules_zs, .inl (cI, 24, .inl v_doneRules_zs))] (some (.int rr)) :=
  zM.intro (by decide) rfl (fun _ h => List.mem_cons_of_mem _ h) (Nat.le_of_ble_eq_true rfl) (fun _ _ _ _ _ _ _ C hr _ => k_Ps_rule C hr hf)
def rm_Ps_term : Room := { frames := 3, cells := 0, slots := 0, locals := 69 }
/-- PathSums.term(I)I -/
def f_Ps_term (x1 : Int32) (v_bitsCame : Int32) (v_polynomial_numbers : Nat → Int32) : Option (Int32) :=
  if (zushr x1 v_bitsCame) = 0 then (
    if (f_Jint_bitCount x1) ≤ (3 : Int32) then (
      zb1 (f_Po_numberOf x1 v_polynomial_numbers) fun r_5 =>
      some (r_5))
    else (
      some (-1 : Int32)))
  else (
    some (-1 : Int32))
set_option maxRecDepth 100000 in
set_option maxHeartbeats 4000000 in
theorem k_Ps_term {p : Program} {l : Launch} {e : Env} {s : State} {m : MethodId} {args : Array Value} {below : List Frame} {meth : Method} {c : Code} {D : va_G} {cI cL : ClassId} {h_this h_this_values h_this_polynomial h_this_doneRules h_this_ways h_this_root h_this_polynomial_numbers : Nat} {v_wireCount v_bitsCame v_bitsThere v_inputBits v_rootsBelow v_begunOpen v_empty v_polynomial_monomials rr x1 : Int32} {v_polynomial_numbers : Nat → Int32} (C : zC p s m args meth c b_Ps_term 2 R_Ps D vwCl [(cI, .int), (cL, .long)] (zA [h_this, h_this_polynomial, h_this_polynomial_numbers] s.heap.size)) (hr : meth.sig.returnType = some .int) (hf : f_Ps_term x1 v_bitsCame v_polynomial_numbers = some rr) : ZV p l e rm_Ps_term s m args below meth c 2 D (some (.int rr)) [(h_this, .inr (4, [.ref h_this_values, .ref h_this_polynomial, .ref h_this_doneRules, .ref h_this_ways, .ref h_this_root, .int v_wireCount, .int v_bitsCame, .int v_bitsThere, .int v_inputBits, .int v_rootsBelow, .int v_begunOpen, .int v_empty])), (h_this_polynomial, .inr (1, [.ref h_this_polynomial_numbers, .int v_polynomial_monomials])), (h_this_polynomial_numbers, .inl (cI, 2325, .inl v_polynomial_numbers))] [h_this, h_this_polynomial, h_this_polynomial_numbers] [(h_this, .inr (4, [.ref h_this_values, .ref h_this_polynomial, .ref h_this_doneRules, .ref h_this_ways, .ref h_this_root, .int v_wireCount, .int v_bitsCame, .int v_bitsThere, .int v_inputBits, .int v_rootsBelow, .int v_begunOpen, .int v_empty])), (h_this_polynomial, .inr (1, [.ref h_this_polynomial_numbers, .int v_polynomial_monomials])), (h_this_polynomial_numbers, .inl (cI, 2325, .inl v_polynomial_numbers))] 0 [(0, .ref h_this), (1, .int x1)] [] := by
  unfold f_Ps_term at hf
  refine z_iload_n C d_Ps_term_0 rfl 1 rfl ?_
  refine z_aload_n C d_Ps_term_1 rfl 0 rfl ?_
  refine z_get C iw_Ps 0 rfl rfl 6 (by decide) zw_166 rfl d_Ps_term_2 ?_
  refine z_iushr C d_Ps_term_5 ?_
  refine z_if_ne (tgt := 17) C d_Ps_term_6 (by decide) (fun c_1 => ?_) (fun c_1 => ?_)
  · have hf := zif_neg c_1 hf
    refine z_iconst (v := -1) C d_Ps_term_17 (by decide) ?_
    cases hf
    exact z_iret C hr d_Ps_term_18
  · have hf := zif_pos c_1 hf
    refine z_iload_n C d_Ps_term_9 rfl 1 rfl ?_
    refine z_callS (As := [.int x1]) (rest := []) (ws' := [(h_this, .inr (4, [.ref h_this_values, .ref h_this_polynomial, .ref h_this_doneRules, .ref h_this_ways, .ref h_this_root, .int v_wireCount, .int v_bitsCame, .int v_bitsThere, .int v_inputBits, .int v_rootsBelow, .int v_begunOpen, .int v_empty])), (h_this_polynomial, .inr (1, [.ref h_this_polynomial_numbers, .int v_polynomial_monomials])), (h_this_polynomial_numbers, .inl (cI, 2325, .inl v_polynomial_numbers))]) C (c_Jint_bitCount rfl) mi_Jint_bitCount zw_319 (by decide) [] (by decide) rfl rfl rfl rfl rfl (by decide) ⟨Nat.zero_le _, Nat.zero_le _⟩ d_Ps_term_10 ?_
    refine z_iconst (v := 3) C d_Ps_term_13 (by decide) ?_
    refine z_icmp_le (tgt := 19) C d_Ps_term_14 (by decide) (fun c_3 => ?_) (fun c_3 => ?_)
    · have hf := zif_pos c_3 hf
      refine z_aload_n C d_Ps_term_19 rfl 0 rfl ?_
      refine z_get C iw_Ps 0 rfl rfl 1 (by decide) zw_161 rfl d_Ps_term_20 ?_
      refine z_iload_n C d_Ps_term_23 rfl 1 rfl ?_
      obtain ⟨r_5, h_4, hf⟩ := zb1_elim hf
      refine z_callV (As := [.int x1]) (rest := []) (ws' := [(h_this, .inr (4, [.ref h_this_values, .ref h_this_polynomial, .ref h_this_doneRules, .ref h_this_ways, .ref h_this_root, .int v_wireCount, .int v_bitsCame, .int v_bitsThere, .int v_inputBits, .int v_rootsBelow, .int v_begunOpen, .int v_empty])), (h_this_polynomial, .inr (1, [.ref h_this_polynomial_numbers, .int v_polynomial_monomials])), (h_this_polynomial_numbers, .inl (cI, 2325, .inl v_polynomial_numbers))]) C (c_Po_numberOf h_4) mi_Po_numberOf zw_274 (by decide) 0 rfl rfl [1, 2] (by decide) rfl rfl rfl rfl rfl (by decide) ⟨Nat.zero_le _, Nat.zero_le _⟩ d_Ps_term_24 ?_
      cases hf
      exact z_iret C hr d_Ps_term_27
    · have hf := zif_neg c_3 hf
      refine z_iconst (v := -1) C d_Ps_term_17 (by decide) ?_
      cases hf
      exact z_iret C hr d_Ps_term_18
theorem c_Ps_term {l : Launch} {D : va_G} {cI cL : ClassId} {h_this h_this_values h_this_polynomial h_this_doneRules h_this_ways h_this_root h_this_polynomial_numbers : Nat} {v_wireCount v_bitsCame v_bitsThere v_inputBits v_rootsBelow v_begunOpen v_empty v_polynomial_monomials rr x1 : Int32} {v_polynomial_numbers : Nat → Int32} (hf : f_Ps_term x1 v_bitsCame v_polynomial_numbers = some rr) : zM l y_Ps_term (Cond.code y_Ps_term b_Ps_term 2 (some .int) :: zT) rm_Ps_term D vwCl [(cI, .int), (cL, .long)] [.ref h_this, .int x1] [(h_this, .inr (4, [.ref h_this_values, .ref h_this_polynomial, .ref h_this_doneRules, .ref h_this_ways, .ref h_this_root, .int v_wireCount, .int v_bitsCame, .int v_bitsThere, .int v_inputBits, .int v_rootsBelow, .int v_begunOpen, .int v_empty])), (h_this_polynomial, .inr (1, [.ref h_this_polynomial_numbers, .int v_polynomial_monomials])), (h_this_polynomial_numbers, .inl (cI, 2325, .inl v_polynomial_numbers))] [(h_this, .inr (4, [.ref h_this_values, .ref h_this_polynomial, .ref h_this_doneRules, .ref h_this_ways, .ref h_this_root, .int v_wireCount, .int v_bitsCame, .int v_bitsThere, .int v_inputBits, .int v_rootsBelow, .int v_begunOpen, .int v_empty])), (h_this_polynomial, .inr (1, [.ref h_this_polynomial_numbers, .int v_polynomial_monomials])), (h_this_polynomial_numbers, .inl (cI, 2325, .inl v_polynomial_numbers))] (some (.int rr)) :=
  zM.intro (by decide) rfl (fun _ h => List.mem_cons_of_mem _ h) (Nat.le_of_ble_eq_true rfl) (fun _ _ _ _ _ _ _ C hr _ => k_Ps_term C hr hf)
def rm_Ps_wire : Room := { frames := 1, cells := 0, slots := 0, locals := 21 }
/-- PathSums.wire(II)I -/
def f_Ps_wire (x1 : Int32) (x2 : Int32) (v_wireCount : Int32) (v_values : Nat → Int32) : Option (Int32) :=
  if (f_Ps_isWire x1 v_wireCount) = 0 then (
    some (-1 : Int32))
  else (
    if x2 = 0 then (
      if x1 < 0 ∨ 6 ≤ x1.toNatClampNeg then none else
      some (v_values x1.toNatClampNeg) &&& (16777215 : Int32))
    else (
    if x2 = 1 then (
      if x1 < 0 ∨ 6 ≤ x1.toNatClampNeg then none else
      if (f_Ps_has (v_values x1.toNatClampNeg) (24 : Int32)) = 0 then (
        some (0 : Int32))
      else (
        some (1 : Int32)))
    else (
    some (-1 : Int32))))
set_option maxRecDepth 100000 in
set_option maxHeartbeats 4000000 in
theorem k_Ps_wire {p : Program} {l : Launch} {e : Env} {s : State} {m : MethodId} {args : Array Value} {below : List Frame} {meth : Method} {c : Code} {D : va_G} {cI cL : ClassId} {h_this h_this_values h_this_polynomial h_this_doneRules h_this_ways h_this_root : Nat} {v_wireCount v_bitsCame v_bitsThere v_inputBits v_rootsBelow v_begunOpen v_empty rr x1 x2 : Int32} {v_values : Nat → Int32} (C : zC p s m args meth c b_Ps_wire 3 R_Ps D vwCl [(cI, .int), (cL, .long)] (zA [h_this, h_this_values] s.heap.size)) (hr : meth.sig.returnType = some .int) (hf : f_Ps_wire x1 x2 v_wireCount v_values = some rr) : ZV p l e rm_Ps_wire s m args below meth c 3 D (some (.int rr)) [(h_this, .inr (4, [.ref h_this_values, .ref h_this_polynomial, .ref h_this_doneRules, .ref h_this_ways, .ref h_this_root, .int v_wireCount, .int v_bitsCame, .int v_bitsThere, .int v_inputBits, .int v_rootsBelow, .int v_begunOpen, .int v_empty])), (h_this_values, .inl (cI, 6, .inl v_values))] [h_this, h_this_values] [(h_this, .inr (4, [.ref h_this_values, .ref h_this_polynomial, .ref h_this_doneRules, .ref h_this_ways, .ref h_this_root, .int v_wireCount, .int v_bitsCame, .int v_bitsThere, .int v_inputBits, .int v_rootsBelow, .int v_begunOpen, .int v_empty])), (h_this_values, .inl (cI, 6, .inl v_values))] 0 [(0, .ref h_this), (1, .int x1), (2, .int x2)] [] := by
  unfold f_Ps_wire at hf
  refine z_aload_n C d_Ps_wire_0 rfl 0 rfl ?_
  refine z_iload_n C d_Ps_wire_1 rfl 1 rfl ?_
  refine z_callV (As := [.int x1]) (rest := []) (ws' := [(h_this, .inr (4, [.ref h_this_values, .ref h_this_polynomial, .ref h_this_doneRules, .ref h_this_ways, .ref h_this_root, .int v_wireCount, .int v_bitsCame, .int v_bitsThere, .int v_inputBits, .int v_rootsBelow, .int v_begunOpen, .int v_empty])), (h_this_values, .inl (cI, 6, .inl v_values))]) C (c_Ps_isWire rfl) mi_Ps_isWire zw_220 (by decide) 0 rfl rfl [0] (by decide) rfl rfl rfl rfl rfl (by decide) ⟨Nat.zero_le _, Nat.zero_le _⟩ d_Ps_wire_2 ?_
  refine z_if_ne (tgt := 10) C d_Ps_wire_5 (by decide) (fun c_2 => ?_) (fun c_2 => ?_)
  · have hf := zif_neg c_2 hf
    refine z_iload_n C d_Ps_wire_10 rfl 2 rfl ?_
    by_cases c_3 : x2 = 0
    · have hf := zif_pos c_3 hf
      refine z_lookup (tgt := 36) C d_Ps_wire_11 (by decide) (by rw [c_3]; rfl) (by decide) ?_
      refine z_aload_n C d_Ps_wire_36 rfl 0 rfl ?_
      refine z_get C iw_Ps 0 rfl rfl 0 (by decide) zw_160 rfl d_Ps_wire_37 ?_
      refine z_iload_n C d_Ps_wire_40 rfl 1 rfl ?_
      obtain ⟨g_4, hf⟩ := zguard hf
      refine z_iald C 1 0 rfl rfl g_4 d_Ps_wire_41 ?_
      refine z_ldc (v := 16777215) C zw_324 d_Ps_wire_42 ?_
      refine z_iand C d_Ps_wire_44 ?_
      cases hf
      exact z_iret C hr d_Ps_wire_45
    · have hf := zif_neg c_3 hf
      by_cases c_5 : x2 = 1
      · have hf := zif_pos c_5 hf
        refine z_lookup (tgt := 46) C d_Ps_wire_11 (by decide) (by rw [c_5]; rfl) (by decide) ?_
        refine z_aload_n C d_Ps_wire_46 rfl 0 rfl ?_
        refine z_get C iw_Ps 0 rfl rfl 0 (by decide) zw_160 rfl d_Ps_wire_47 ?_
        refine z_iload_n C d_Ps_wire_50 rfl 1 rfl ?_
        obtain ⟨g_6, hf⟩ := zguard hf
        refine z_iald C 1 0 rfl rfl g_6 d_Ps_wire_51 ?_
        refine z_bipush (v := 24) C d_Ps_wire_52 (by decide) ?_
        refine z_callS (As := [.int (v_values x1.toNatClampNeg), .int (24 : Int32)]) (rest := []) (ws' := [(h_this, .inr (4, [.ref h_this_values, .ref h_this_polynomial, .ref h_this_doneRules, .ref h_this_ways, .ref h_this_root, .int v_wireCount, .int v_bitsCame, .int v_bitsThere, .int v_inputBits, .int v_rootsBelow, .int v_begunOpen, .int v_empty])), (h_this_values, .inl (cI, 6, .inl v_values))]) C (c_Ps_has rfl) mi_Ps_has zw_204 (by decide) [] (by decide) rfl rfl rfl rfl rfl (by decide) ⟨Nat.zero_le _, Nat.zero_le _⟩ d_Ps_wire_54 ?_
        refine z_if_eq (tgt := 64) C d_Ps_wire_57 (by decide) (fun c_8 => ?_) (fun c_8 => ?_)
        · have hf := zif_pos c_8 hf
          refine z_iconst (v := 0) C d_Ps_wire_64 (by decide) ?_
          cases hf
          exact z_iret C hr d_Ps_wire_65
        · have hf := zif_neg c_8 hf
          refine z_iconst (v := 1) C d_Ps_wire_60 (by decide) ?_
          refine z_goto (tgt := 65) C d_Ps_wire_61 (by decide) ?_
          cases hf
          exact z_iret C hr d_Ps_wire_65
      · have hf := zif_neg c_5 hf
        have nc_3 : ¬ x2.toInt = 0 := zne c_3
        have nc_5 : ¬ x2.toInt = 1 := zne c_5
        refine z_lookup (tgt := 66) C d_Ps_wire_11 (by decide) (by simp [Op.lookupswitch.offset, nc_3, nc_5]; rfl) (by decide) ?_
        refine z_iconst (v := -1) C d_Ps_wire_66 (by decide) ?_
        cases hf
        exact z_iret C hr d_Ps_wire_67
  · have hf := zif_pos c_2 hf
    refine z_iconst (v := -1) C d_Ps_wire_8 (by decide) ?_
    cases hf
    exact z_iret C hr d_Ps_wire_9
theorem c_Ps_wire {l : Launch} {D : va_G} {cI cL : ClassId} {h_this h_this_values h_this_polynomial h_this_doneRules h_this_ways h_this_root : Nat} {v_wireCount v_bitsCame v_bitsThere v_inputBits v_rootsBelow v_begunOpen v_empty rr x1 x2 : Int32} {v_values : Nat → Int32} (hf : f_Ps_wire x1 x2 v_wireCount v_values = some rr) : zM l y_Ps_wire (Cond.code y_Ps_wire b_Ps_wire 3 (some .int) :: zT) rm_Ps_wire D vwCl [(cI, .int), (cL, .long)] [.ref h_this, .int x1, .int x2] [(h_this, .inr (4, [.ref h_this_values, .ref h_this_polynomial, .ref h_this_doneRules, .ref h_this_ways, .ref h_this_root, .int v_wireCount, .int v_bitsCame, .int v_bitsThere, .int v_inputBits, .int v_rootsBelow, .int v_begunOpen, .int v_empty])), (h_this_values, .inl (cI, 6, .inl v_values))] [(h_this, .inr (4, [.ref h_this_values, .ref h_this_polynomial, .ref h_this_doneRules, .ref h_this_ways, .ref h_this_root, .int v_wireCount, .int v_bitsCame, .int v_bitsThere, .int v_inputBits, .int v_rootsBelow, .int v_begunOpen, .int v_empty])), (h_this_values, .inl (cI, 6, .inl v_values))] (some (.int rr)) :=
  zM.intro (by decide) rfl (fun _ h => List.mem_cons_of_mem _ h) (Nat.le_of_ble_eq_true rfl) (fun _ _ _ _ _ _ _ C hr _ => k_Ps_wire C hr hf)
def rm_Ps_total : Room := { frames := 0, cells := 0, slots := 0, locals := 0 }
/-- PathSums.total(I)I -/
def f_Ps_total (x1 : Int32) (v_wireCount : Int32) (v_bitsCame : Int32) (v_bitsThere : Int32) (v_begunOpen : Int32) (v_empty : Int32) (v_polynomial_monomials : Int32) (v_doneRules_count : Int32) : Int32 :=
  if x1 = 0 then (
    v_wireCount)
  else (
  if x1 = 1 then (
    v_bitsThere)
  else (
  if x1 = 2 then (
    v_bitsCame)
  else (
  if x1 = 3 then (
    v_polynomial_monomials)
  else (
  if x1 = 4 then (
    v_doneRules_count)
  else (
  if x1 = 5 then (
    if v_empty = 0 then (
      (0 : Int32))
    else (
      (1 : Int32)))
  else (
  if x1 = 6 then (
    if v_begunOpen = 0 then (
      (0 : Int32))
    else (
      (1 : Int32)))
  else (
  (-1 : Int32))))))))
set_option maxRecDepth 100000 in
set_option maxHeartbeats 4000000 in
theorem k_Ps_total {p : Program} {l : Launch} {e : Env} {s : State} {m : MethodId} {args : Array Value} {below : List Frame} {meth : Method} {c : Code} {D : va_G} {cI cL : ClassId} {h_this h_this_values h_this_polynomial h_this_doneRules h_this_ways h_this_root h_this_polynomial_numbers h_this_doneRules_kinds h_this_doneRules_ys h_this_doneRules_zs : Nat} {v_wireCount v_bitsCame v_bitsThere v_inputBits v_rootsBelow v_begunOpen v_empty v_polynomial_monomials v_doneRules_count rr x1 : Int32} (C : zC p s m args meth c b_Ps_total 2 R_Ps D vwCl [(cI, .int), (cL, .long)] (zA [h_this, h_this_polynomial, h_this_doneRules] s.heap.size)) (hr : meth.sig.returnType = some .int) (hf : f_Ps_total x1 v_wireCount v_bitsCame v_bitsThere v_begunOpen v_empty v_polynomial_monomials v_doneRules_count = rr) : ZV p l e rm_Ps_total s m args below meth c 2 D (some (.int rr)) [(h_this, .inr (4, [.ref h_this_values, .ref h_this_polynomial, .ref h_this_doneRules, .ref h_this_ways, .ref h_this_root, .int v_wireCount, .int v_bitsCame, .int v_bitsThere, .int v_inputBits, .int v_rootsBelow, .int v_begunOpen, .int v_empty])), (h_this_polynomial, .inr (1, [.ref h_this_polynomial_numbers, .int v_polynomial_monomials])), (h_this_doneRules, .inr (0, [.ref h_this_doneRules_kinds, .ref h_this_doneRules_ys, .ref h_this_doneRules_zs, .int v_doneRules_count]))] [h_this, h_this_polynomial, h_this_doneRules] [(h_this, .inr (4, [.ref h_this_values, .ref h_this_polynomial, .ref h_this_doneRules, .ref h_this_ways, .ref h_this_root, .int v_wireCount, .int v_bitsCame, .int v_bitsThere, .int v_inputBits, .int v_rootsBelow, .int v_begunOpen, .int v_empty])), (h_this_polynomial, .inr (1, [.ref h_this_polynomial_numbers, .int v_polynomial_monomials])), (h_this_doneRules, .inr (0, [.ref h_this_doneRules_kinds, .ref h_this_doneRules_ys, .ref h_this_doneRules_zs, .int v_doneRules_count]))] 0 [(0, .ref h_this), (1, .int x1)] [] := by
  unfold f_Ps_total at hf
  refine z_iload_n C d_Ps_total_0 rfl 1 rfl ?_
  by_cases c_1 : x1 = 0
  · have hf := zif_pos c_1 hf
    refine z_tableIn (tgt := 44) C d_Ps_total_1 (0) c_1 (by decide) (by decide) rfl (by decide) ?_
    refine z_aload_n C d_Ps_total_44 rfl 0 rfl ?_
    refine z_get C iw_Ps 0 rfl rfl 5 (by decide) zw_165 rfl d_Ps_total_45 ?_
    subst hf
    exact z_iret C hr d_Ps_total_48
  · have hf := zif_neg c_1 hf
    by_cases c_2 : x1 = 1
    · have hf := zif_pos c_2 hf
      refine z_tableIn (tgt := 49) C d_Ps_total_1 (1) c_2 (by decide) (by decide) rfl (by decide) ?_
      refine z_aload_n C d_Ps_total_49 rfl 0 rfl ?_
      refine z_get C iw_Ps 0 rfl rfl 7 (by decide) zw_167 rfl d_Ps_total_50 ?_
      subst hf
      exact z_iret C hr d_Ps_total_53
    · have hf := zif_neg c_2 hf
      by_cases c_3 : x1 = 2
      · have hf := zif_pos c_3 hf
        refine z_tableIn (tgt := 54) C d_Ps_total_1 (2) c_3 (by decide) (by decide) rfl (by decide) ?_
        refine z_aload_n C d_Ps_total_54 rfl 0 rfl ?_
        refine z_get C iw_Ps 0 rfl rfl 6 (by decide) zw_166 rfl d_Ps_total_55 ?_
        subst hf
        exact z_iret C hr d_Ps_total_58
      · have hf := zif_neg c_3 hf
        by_cases c_4 : x1 = 3
        · have hf := zif_pos c_4 hf
          refine z_tableIn (tgt := 59) C d_Ps_total_1 (3) c_4 (by decide) (by decide) rfl (by decide) ?_
          refine z_aload_n C d_Ps_total_59 rfl 0 rfl ?_
          refine z_get C iw_Ps 0 rfl rfl 1 (by decide) zw_161 rfl d_Ps_total_60 ?_
          refine z_getN C iw_Po 1 rfl rfl 1 (by decide) (znest C 1 rfl) rfl d_Ps_total_63 ?_
          subst hf
          exact z_iret C hr d_Ps_total_66
        · have hf := zif_neg c_4 hf
          by_cases c_5 : x1 = 4
          · have hf := zif_pos c_5 hf
            refine z_tableIn (tgt := 67) C d_Ps_total_1 (4) c_5 (by decide) (by decide) rfl (by decide) ?_
            refine z_aload_n C d_Ps_total_67 rfl 0 rfl ?_
            refine z_get C iw_Ps 0 rfl rfl 2 (by decide) zw_162 rfl d_Ps_total_68 ?_
            refine z_getN C iw_Dr 2 rfl rfl 3 (by decide) (znest C 3 rfl) rfl d_Ps_total_71 ?_
            subst hf
            exact z_iret C hr d_Ps_total_74
          · have hf := zif_neg c_5 hf
            by_cases c_6 : x1 = 5
            · have hf := zif_pos c_6 hf
              refine z_tableIn (tgt := 75) C d_Ps_total_1 (5) c_6 (by decide) (by decide) rfl (by decide) ?_
              refine z_aload_n C d_Ps_total_75 rfl 0 rfl ?_
              refine z_get C iw_Ps 0 rfl rfl 11 (by decide) zw_171 rfl d_Ps_total_76 ?_
              refine z_if_eq (tgt := 86) C d_Ps_total_79 (by decide) (fun c_7 => ?_) (fun c_7 => ?_)
              · have hf := zif_pos c_7 hf
                refine z_iconst (v := 0) C d_Ps_total_86 (by decide) ?_
                subst hf
                exact z_iret C hr d_Ps_total_87
              · have hf := zif_neg c_7 hf
                refine z_iconst (v := 1) C d_Ps_total_82 (by decide) ?_
                refine z_goto (tgt := 87) C d_Ps_total_83 (by decide) ?_
                subst hf
                exact z_iret C hr d_Ps_total_87
            · have hf := zif_neg c_6 hf
              by_cases c_8 : x1 = 6
              · have hf := zif_pos c_8 hf
                refine z_tableIn (tgt := 88) C d_Ps_total_1 (6) c_8 (by decide) (by decide) rfl (by decide) ?_
                refine z_aload_n C d_Ps_total_88 rfl 0 rfl ?_
                refine z_get C iw_Ps 0 rfl rfl 10 (by decide) zw_170 rfl d_Ps_total_89 ?_
                refine z_if_eq (tgt := 99) C d_Ps_total_92 (by decide) (fun c_9 => ?_) (fun c_9 => ?_)
                · have hf := zif_pos c_9 hf
                  refine z_iconst (v := 0) C d_Ps_total_99 (by decide) ?_
                  subst hf
                  exact z_iret C hr d_Ps_total_100
                · have hf := zif_neg c_9 hf
                  refine z_iconst (v := 1) C d_Ps_total_95 (by decide) ?_
                  refine z_goto (tgt := 100) C d_Ps_total_96 (by decide) ?_
                  subst hf
                  exact z_iret C hr d_Ps_total_100
              · have hf := zif_neg c_8 hf
                have nc_1 : ¬ x1.toInt = 0 := zne c_1
                have nc_2 : ¬ x1.toInt = 1 := zne c_2
                have nc_3 : ¬ x1.toInt = 2 := zne c_3
                have nc_4 : ¬ x1.toInt = 3 := zne c_4
                have nc_5 : ¬ x1.toInt = 4 := zne c_5
                have nc_6 : ¬ x1.toInt = 5 := zne c_6
                have nc_8 : ¬ x1.toInt = 6 := zne c_8
                refine z_tableOut (tgt := 101) C d_Ps_total_1 (by omega) (by decide) ?_
                refine z_iconst (v := -1) C d_Ps_total_101 (by decide) ?_
                subst hf
                exact z_iret C hr d_Ps_total_102
theorem c_Ps_total {l : Launch} {D : va_G} {cI cL : ClassId} {h_this h_this_values h_this_polynomial h_this_doneRules h_this_ways h_this_root h_this_polynomial_numbers h_this_doneRules_kinds h_this_doneRules_ys h_this_doneRules_zs : Nat} {v_wireCount v_bitsCame v_bitsThere v_inputBits v_rootsBelow v_begunOpen v_empty v_polynomial_monomials v_doneRules_count rr x1 : Int32} (hf : f_Ps_total x1 v_wireCount v_bitsCame v_bitsThere v_begunOpen v_empty v_polynomial_monomials v_doneRules_count = rr) : zM l y_Ps_total (Cond.code y_Ps_total b_Ps_total 2 (some .int) :: zT) rm_Ps_total D vwCl [(cI, .int), (cL, .long)] [.ref h_this, .int x1] [(h_this, .inr (4, [.ref h_this_values, .ref h_this_polynomial, .ref h_this_doneRules, .ref h_this_ways, .ref h_this_root, .int v_wireCount, .int v_bitsCame, .int v_bitsThere, .int v_inputBits, .int v_rootsBelow, .int v_begunOpen, .int v_empty])), (h_this_polynomial, .inr (1, [.ref h_this_polynomial_numbers, .int v_polynomial_monomials])), (h_this_doneRules, .inr (0, [.ref h_this_doneRules_kinds, .ref h_this_doneRules_ys, .ref h_this_doneRules_zs, .int v_doneRules_count]))] [(h_this, .inr (4, [.ref h_this_values, .ref h_this_polynomial, .ref h_this_doneRules, .ref h_this_ways, .ref h_this_root, .int v_wireCount, .int v_bitsCame, .int v_bitsThere, .int v_inputBits, .int v_rootsBelow, .int v_begunOpen, .int v_empty])), (h_this_polynomial, .inr (1, [.ref h_this_polynomial_numbers, .int v_polynomial_monomials])), (h_this_doneRules, .inr (0, [.ref h_this_doneRules_kinds, .ref h_this_doneRules_ys, .ref h_this_doneRules_zs, .int v_doneRules_count]))] (some (.int rr)) :=
  zM.intro (by decide) rfl (fun _ h => List.mem_cons_of_mem _ h) (Nat.le_of_ble_eq_true rfl) (fun _ _ _ _ _ _ _ C hr _ => k_Ps_total C hr hf)
def rm_Ps_halves : Room := { frames := 0, cells := 0, slots := 0, locals := 0 }
/-- PathSums.halves()I -/
def f_Ps_halves (v_rootsBelow : Int32) : Int32 :=
  v_rootsBelow
set_option maxRecDepth 100000 in
set_option maxHeartbeats 4000000 in
theorem k_Ps_halves {p : Program} {l : Launch} {e : Env} {s : State} {m : MethodId} {args : Array Value} {below : List Frame} {meth : Method} {c : Code} {D : va_G} {cI cL : ClassId} {h_this h_this_values h_this_polynomial h_this_doneRules h_this_ways h_this_root : Nat} {v_wireCount v_bitsCame v_bitsThere v_inputBits v_rootsBelow v_begunOpen v_empty rr : Int32} (C : zC p s m args meth c b_Ps_halves 1 R_Ps D vwCl [(cI, .int), (cL, .long)] (zA [h_this] s.heap.size)) (hr : meth.sig.returnType = some .int) (hf : f_Ps_halves v_rootsBelow = rr) : ZV p l e rm_Ps_halves s m args below meth c 1 D (some (.int rr)) [(h_this, .inr (4, [.ref h_this_values, .ref h_this_polynomial, .ref h_this_doneRules, .ref h_this_ways, .ref h_this_root, .int v_wireCount, .int v_bitsCame, .int v_bitsThere, .int v_inputBits, .int v_rootsBelow, .int v_begunOpen, .int v_empty]))] [h_this] [(h_this, .inr (4, [.ref h_this_values, .ref h_this_polynomial, .ref h_this_doneRules, .ref h_this_ways, .ref h_this_root, .int v_wireCount, .int v_bitsCame, .int v_bitsThere, .int v_inputBits, .int v_rootsBelow, .int v_begunOpen, .int v_empty]))] 0 [(0, .ref h_this)] [] := by
  unfold f_Ps_halves at hf
  refine z_aload_n C d_Ps_halves_0 rfl 0 rfl ?_
  refine z_get C iw_Ps 0 rfl rfl 9 (by decide) zw_169 rfl d_Ps_halves_1 ?_
  subst hf
  exact z_iret C hr d_Ps_halves_4
theorem c_Ps_halves {l : Launch} {D : va_G} {cI cL : ClassId} {h_this h_this_values h_this_polynomial h_this_doneRules h_this_ways h_this_root : Nat} {v_wireCount v_bitsCame v_bitsThere v_inputBits v_rootsBelow v_begunOpen v_empty rr : Int32} (hf : f_Ps_halves v_rootsBelow = rr) : zM l y_Ps_halves (Cond.code y_Ps_halves b_Ps_halves 1 (some .int) :: zT) rm_Ps_halves D vwCl [(cI, .int), (cL, .long)] [.ref h_this] [(h_this, .inr (4, [.ref h_this_values, .ref h_this_polynomial, .ref h_this_doneRules, .ref h_this_ways, .ref h_this_root, .int v_wireCount, .int v_bitsCame, .int v_bitsThere, .int v_inputBits, .int v_rootsBelow, .int v_begunOpen, .int v_empty]))] [(h_this, .inr (4, [.ref h_this_values, .ref h_this_polynomial, .ref h_this_doneRules, .ref h_this_ways, .ref h_this_root, .int v_wireCount, .int v_bitsCame, .int v_bitsThere, .int v_inputBits, .int v_rootsBelow, .int v_begunOpen, .int v_empty]))] (some (.int rr)) :=
  zM.intro (by decide) rfl (fun _ h => List.mem_cons_of_mem _ h) (Nat.le_of_ble_eq_true rfl) (fun _ _ _ _ _ _ _ C hr _ => k_Ps_halves C hr hf)
