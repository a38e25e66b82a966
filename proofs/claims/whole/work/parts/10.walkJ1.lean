def rm_Jint_bitCount : Room := { frames := 0, cells := 0, slots := 0, locals := 0 }
/-- java/lang/Integer.bitCount(I)I -/
def f_Jint_bitCount (x0 : Int32) : Int32 :=
  zlet (x0 - ((zushr x0 (1 : Int32)) &&& (1431655765 : Int32))) fun y_1 =>
  zlet ((y_1 &&& (858993459 : Int32)) + ((zushr y_1 (2 : Int32)) &&& (858993459 : Int32))) fun y_2 =>
  zlet ((y_2 + (zushr y_2 (4 : Int32))) &&& (252645135 : Int32)) fun y_3 =>
  zlet (y_3 + (zushr y_3 (8 : Int32))) fun y_4 =>
  zlet (y_4 + (zushr y_4 (16 : Int32))) fun y_5 =>
  y_5 &&& (63 : Int32)
set_option maxRecDepth 100000 in
set_option maxHeartbeats 4000000 in
theorem k_Jint_bitCount {p : Program} {l : Launch} {e : Env} {s : State} {m : MethodId} {args : Array Value} {below : List Frame} {meth : Method} {c : Code} {D : va_G} {cI cL : ClassId} {rr x0 : Int32} (C : zC p s m args meth c b_Jint_bitCount 1 R_Jint D vwCl [(cI, .int), (cL, .long)] (zA [] s.heap.size)) (hr : meth.sig.returnType = some .int) (hf : f_Jint_bitCount x0 = rr) : ZV p l e rm_Jint_bitCount s m args below meth c 1 D (some (.int rr)) [] [] [] 0 [(0, .int x0)] [] := by
  unfold f_Jint_bitCount at hf
  refine z_iload_n C d_Jint_bitCount_0 rfl 0 rfl ?_
  refine z_iload_n C d_Jint_bitCount_1 rfl 0 rfl ?_
  refine z_iconst (v := 1) C d_Jint_bitCount_2 (by decide) ?_
  refine z_iushr C d_Jint_bitCount_3 ?_
  refine z_ldcw (v := 1431655765) C zw_242 d_Jint_bitCount_4 ?_
  refine z_iand C d_Jint_bitCount_7 ?_
  refine z_isub C d_Jint_bitCount_8 ?_
  refine z_topi (fun y_1 ey_1 => ?_)
  have hf := zlet_at ey_1 hf
  refine z_istore_n (lv' := [(0, .int y_1)]) C d_Jint_bitCount_9 rfl (by decide) rfl ?_
  refine z_iload_n C d_Jint_bitCount_10 rfl 0 rfl ?_
  refine z_ldcw (v := 858993459) C zw_243 d_Jint_bitCount_11 ?_
  refine z_iand C d_Jint_bitCount_14 ?_
  refine z_iload_n C d_Jint_bitCount_15 rfl 0 rfl ?_
  refine z_iconst (v := 2) C d_Jint_bitCount_16 (by decide) ?_
  refine z_iushr C d_Jint_bitCount_17 ?_
  refine z_ldcw (v := 858993459) C zw_243 d_Jint_bitCount_18 ?_
  refine z_iand C d_Jint_bitCount_21 ?_
  refine z_iadd C d_Jint_bitCount_22 ?_
  refine z_topi (fun y_2 ey_2 => ?_)
  have hf := zlet_at ey_2 hf
  refine z_istore_n (lv' := [(0, .int y_2)]) C d_Jint_bitCount_23 rfl (by decide) rfl ?_
  refine z_iload_n C d_Jint_bitCount_24 rfl 0 rfl ?_
  refine z_iload_n C d_Jint_bitCount_25 rfl 0 rfl ?_
  refine z_iconst (v := 4) C d_Jint_bitCount_26 (by decide) ?_
  refine z_iushr C d_Jint_bitCount_27 ?_
  refine z_iadd C d_Jint_bitCount_28 ?_
  refine z_ldcw (v := 252645135) C zw_244 d_Jint_bitCount_29 ?_
  refine z_iand C d_Jint_bitCount_32 ?_
  refine z_topi (fun y_3 ey_3 => ?_)
  have hf := zlet_at ey_3 hf
  refine z_istore_n (lv' := [(0, .int y_3)]) C d_Jint_bitCount_33 rfl (by decide) rfl ?_
  refine z_iload_n C d_Jint_bitCount_34 rfl 0 rfl ?_
  refine z_iload_n C d_Jint_bitCount_35 rfl 0 rfl ?_
  refine z_bipush (v := 8) C d_Jint_bitCount_36 (by decide) ?_
  refine z_iushr C d_Jint_bitCount_38 ?_
  refine z_iadd C d_Jint_bitCount_39 ?_
  refine z_topi (fun y_4 ey_4 => ?_)
  have hf := zlet_at ey_4 hf
  refine z_istore_n (lv' := [(0, .int y_4)]) C d_Jint_bitCount_40 rfl (by decide) rfl ?_
  refine z_iload_n C d_Jint_bitCount_41 rfl 0 rfl ?_
  refine z_iload_n C d_Jint_bitCount_42 rfl 0 rfl ?_
  refine z_bipush (v := 16) C d_Jint_bitCount_43 (by decide) ?_
  refine z_iushr C d_Jint_bitCount_45 ?_
  refine z_iadd C d_Jint_bitCount_46 ?_
  refine z_topi (fun y_5 ey_5 => ?_)
  have hf := zlet_at ey_5 hf
  refine z_istore_n (lv' := [(0, .int y_5)]) C d_Jint_bitCount_47 rfl (by decide) rfl ?_
  refine z_iload_n C d_Jint_bitCount_48 rfl 0 rfl ?_
  refine z_bipush (v := 63) C d_Jint_bitCount_49 (by decide) ?_
  refine z_iand C d_Jint_bitCount_51 ?_
  subst hf
  exact z_iret C hr d_Jint_bitCount_52
theorem c_Jint_bitCount {l : Launch} {D : va_G} {cI cL : ClassId} {rr x0 : Int32} (hf : f_Jint_bitCount x0 = rr) : zM l y_Jint_bitCount (Cond.code y_Jint_bitCount b_Jint_bitCount 1 (some .int) :: zT) rm_Jint_bitCount D vwCl [(cI, .int), (cL, .long)] [.int x0] [] [] (some (.int rr)) :=
  zM.intro (by decide) rfl (fun _ h => List.mem_cons_of_mem _ h) (Nat.le_of_ble_eq_true rfl) (fun _ _ _ _ _ _ _ C hr _ => k_Jint_bitCount C hr hf)
def rm_Jarr_fill : Room := { frames := 0, cells := 0, slots := 0, locals := 0 }
def f_Jarr_fill_l5 (n_arg0 : Nat) (x1 : Int32) (x3 : Int32) (x2 : Int32) (v_arg0 : Nat → Int32) : Option ((Int32 × (Nat → Int32)) ⊕ ((Nat → Int32))) :=
  if x3 ≤ x2 then (
    some (.inr (v_arg0)))
  else (
    if x2 < 0 ∨ n_arg0 ≤ x2.toNatClampNeg then none else
    zlet (upd v_arg0 x2.toNatClampNeg x1) fun u_3 =>
    zlet (x2 + 1) fun y_4 =>
    some (.inl (y_4, u_3)))
set_option maxRecDepth 100000 in
set_option maxHeartbeats 4000000 in
theorem k_Jarr_fill_l5 {p : Program} {l : Launch} {e : Env} {s : State} {m : MethodId} {args : Array Value} {below : List Frame} {meth : Method} {c : Code} {D : va_G} {cI cL : ClassId} {h_arg0 n_arg0 : Nat} {v_arg0 o_arg0 : Nat → Int32} {x1 x2 x3 : Int32} (C : zC p s m args meth c b_Jarr_fill 4 R_Jarr D vwCl [(cI, .int), (cL, .long)] (zA [h_arg0] s.heap.size)) (hr : meth.sig.returnType = none) {z : (Int32 × (Nat → Int32)) ⊕ ((Nat → Int32))} (hf : f_Jarr_fill_l5 n_arg0 x1 x3 x2 v_arg0 = some z) (hK : zcase (fun q => ZV p l e rm_Jarr_fill s m args below meth c 4 D (none) [(h_arg0, .inl (cI, n_arg0, .inl o_arg0))] [h_arg0] [(h_arg0, .inl (cI, n_arg0, .inl q.2))] 5 [(0, .ref h_arg0), (1, .int x1), (2, .int q.1), (3, .int x3)] []) (fun q => ZV p l e rm_Jarr_fill s m args below meth c 4 D (none) [(h_arg0, .inl (cI, n_arg0, .inl o_arg0))] [h_arg0] [(h_arg0, .inl (cI, n_arg0, .inl q))] 20 [] []) z) : ZV p l e rm_Jarr_fill s m args below meth c 4 D (none) [(h_arg0, .inl (cI, n_arg0, .inl o_arg0))] [h_arg0] [(h_arg0, .inl (cI, n_arg0, .inl v_arg0))] 5 [(0, .ref h_arg0), (1, .int x1), (2, .int x2), (3, .int x3)] [] := by
  unfold f_Jarr_fill_l5 at hf
  refine z_iload_n C d_Jarr_fill_5 rfl 2 rfl ?_
  refine z_iload_n C d_Jarr_fill_6 rfl 3 rfl ?_
  refine z_icmp_ge (tgt := 20) C d_Jarr_fill_7 (by decide) (fun c_1 => ?_) (fun c_1 => ?_)
  · have hf := zif_pos c_1 hf
    refine z_lv [] rfl ?_
    cases hf
    exact hK
  · have hf := zif_neg c_1 hf
    refine z_aload_n C d_Jarr_fill_10 rfl 0 rfl ?_
    refine z_iload_n C d_Jarr_fill_11 rfl 2 rfl ?_
    refine z_iload_n C d_Jarr_fill_12 rfl 1 rfl ?_
    obtain ⟨g_2, hf⟩ := zguard hf
    obtain ⟨u_3, eu_3⟩ : ∃ u : Nat → Int32, u = upd v_arg0 x2.toNatClampNeg x1 := ⟨_, rfl⟩
    have hf := zlet_at eu_3 hf
    refine z_iast (ws' := [(h_arg0, .inl (cI, n_arg0, .inl u_3))]) C 0 0 rfl rfl g_2 d_Jarr_fill_13 (by rw [eu_3]; rfl) ?_
    obtain ⟨y_4, ey_4⟩ : ∃ y : Int32, y = x2 + 1 := ⟨_, rfl⟩
    have hf := zlet_at ey_4 hf
    refine z_iinc (v := y_4) (lv' := [(2, .int y_4), (0, .ref h_arg0), (1, .int x1), (3, .int x3)]) C d_Jarr_fill_14 (k := 2) rfl (by rw [ey_4]; rfl) (by decide) rfl ?_
    refine z_goto (tgt := 5) C d_Jarr_fill_17 (by decide) ?_
    refine z_lv [1, 2, 0, 3] rfl ?_
    cases hf
    exact hK
theorem k_Jarr_fill_l5_run {p : Program} {l : Launch} {e : Env} {s : State} {m : MethodId} {args : Array Value} {below : List Frame} {meth : Method} {c : Code} {D : va_G} {cI cL : ClassId} {h_arg0 n_arg0 : Nat} {v_arg0 o_arg0 : Nat → Int32} {x1 x2 x3 : Int32} (C : zC p s m args meth c b_Jarr_fill 4 R_Jarr D vwCl [(cI, .int), (cL, .long)] (zA [h_arg0] s.heap.size)) (hr : meth.sig.returnType = none) {o0 : Nat → Int32} (hf : zloop (fun q => f_Jarr_fill_l5 n_arg0 x1 x3 q.1 q.2) zF (x2, v_arg0) = some o0) (hK : ZV p l e rm_Jarr_fill s m args below meth c 4 D (none) [(h_arg0, .inl (cI, n_arg0, .inl o_arg0))] [h_arg0] [(h_arg0, .inl (cI, n_arg0, .inl o0))] 20 [] []) : ZV p l e rm_Jarr_fill s m args below meth c 4 D (none) [(h_arg0, .inl (cI, n_arg0, .inl o_arg0))] [h_arg0] [(h_arg0, .inl (cI, n_arg0, .inl v_arg0))] 5 [(0, .ref h_arg0), (1, .int x1), (2, .int x2), (3, .int x3)] [] :=
  zloop_run (P := fun q => ZV p l e rm_Jarr_fill s m args below meth c 4 D (none) [(h_arg0, .inl (cI, n_arg0, .inl o_arg0))] [h_arg0] [(h_arg0, .inl (cI, n_arg0, .inl q.2))] 5 [(0, .ref h_arg0), (1, .int x1), (2, .int q.1), (3, .int x3)] []) (K := (fun q => ZV p l e rm_Jarr_fill s m args below meth c 4 D (none) [(h_arg0, .inl (cI, n_arg0, .inl o_arg0))] [h_arg0] [(h_arg0, .inl (cI, n_arg0, .inl q))] 20 [] [])) (fun q z hz hK => k_Jarr_fill_l5 C hr hz hK) zF _ (o0) hf hK
/-- java/util/Arrays.fill([II)V -/
def f_Jarr_fill (n_arg0 : Nat) (x1 : Int32) (v_arg0 : Nat → Int32) : Option ((Nat → Int32)) :=
  zlet (Int32.ofNat n_arg0) fun y_1 =>
  zb1 (zloop (fun q => f_Jarr_fill_l5 n_arg0 x1 y_1 q.1 q.2) zF ((0 : Int32), v_arg0)) fun q_2 =>
  some (q_2)
set_option maxRecDepth 100000 in
set_option maxHeartbeats 4000000 in
theorem k_Jarr_fill {p : Program} {l : Launch} {e : Env} {s : State} {m : MethodId} {args : Array Value} {below : List Frame} {meth : Method} {c : Code} {D : va_G} {cI cL : ClassId} {h_arg0 n_arg0 : Nat} {v_arg0 o_arg0 : Nat → Int32} {x1 : Int32} (C : zC p s m args meth c b_Jarr_fill 4 R_Jarr D vwCl [(cI, .int), (cL, .long)] (zA [h_arg0] s.heap.size)) (hr : meth.sig.returnType = none) (hf : f_Jarr_fill n_arg0 x1 v_arg0 = some o_arg0) : ZV p l e rm_Jarr_fill s m args below meth c 4 D (none) [(h_arg0, .inl (cI, n_arg0, .inl o_arg0))] [h_arg0] [(h_arg0, .inl (cI, n_arg0, .inl v_arg0))] 0 [(0, .ref h_arg0), (1, .int x1)] [] := by
  unfold f_Jarr_fill at hf
  refine z_iconst (v := 0) C d_Jarr_fill_0 (by decide) ?_
  refine z_istore_n (lv' := [(2, .int (0 : Int32)), (0, .ref h_arg0), (1, .int x1)]) C d_Jarr_fill_1 rfl (by decide) rfl ?_
  refine z_aload_n C d_Jarr_fill_2 rfl 1 rfl ?_
  refine z_alen C 0 0 rfl rfl rfl d_Jarr_fill_3 ?_
  refine z_topi (fun y_1 ey_1 => ?_)
  have hf := zlet_at ey_1 hf
  refine z_istore_n (lv' := [(3, .int y_1), (2, .int (0 : Int32)), (0, .ref h_arg0), (1, .int x1)]) C d_Jarr_fill_4 rfl (by decide) rfl ?_
  refine z_lv [2, 3, 1, 0] rfl ?_
  obtain ⟨q_2, h_3, hf⟩ := zb1_elim hf
  refine k_Jarr_fill_l5_run C hr h_3 ?_
  cases hf
  exact z_vret C hr d_Jarr_fill_20
theorem c_Jarr_fill {l : Launch} {D : va_G} {cI cL : ClassId} {h_arg0 n_arg0 : Nat} {v_arg0 o_arg0 : Nat → Int32} {x1 : Int32} (hf : f_Jarr_fill n_arg0 x1 v_arg0 = some o_arg0) : zM l y_Jarr_fill (Cond.code y_Jarr_fill b_Jarr_fill 4 none :: zT) rm_Jarr_fill D vwCl [(cI, .int), (cL, .long)] [.ref h_arg0, .int x1] [(h_arg0, .inl (cI, n_arg0, .inl v_arg0))] [(h_arg0, .inl (cI, n_arg0, .inl o_arg0))] (none) :=
  zM.intro (by decide) rfl (fun _ h => List.mem_cons_of_mem _ h) (Nat.le_of_ble_eq_true rfl) (fun _ _ _ _ _ _ _ C hr _ => k_Jarr_fill C hr hf)
