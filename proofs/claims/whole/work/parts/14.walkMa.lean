def rm_Md_thrown : Room := { frames := 0, cells := 0, slots := 0, locals := 0 }
/-- PathSumsModel.thrown()I -/
def f_Md_thrown (v_thrown : Int32) : Int32 :=
  v_thrown
set_option maxRecDepth 100000 in
set_option maxHeartbeats 4000000 in
theorem k_Md_thrown {p : Program} {l : Launch} {e : Env} {s : State} {m : MethodId} {args : Array Value} {below : List Frame} {meth : Method} {c : Code} {D : va_G} {cI cL : ClassId} {h_this h_this_number h_this_set h_this_constant h_this_ruleKind h_this_ruleBit h_this_ruleOther h_this_oldSet h_this_oldNumber h_this_allSets h_this_allNumbers h_this_root : Nat} {v_thrown v_wires v_isOpen v_isEmpty v_came v_there v_halves v_rules v_alone v_halfBits v_allMany rr : Int32} (C : zC p s m args meth c b_Md_thrown 1 R_Md D vwCl [(cI, .int), (cL, .long)] (zA [h_this] s.heap.size)) (hr : meth.sig.returnType = some .int) (hf : f_Md_thrown v_thrown = rr) : ZV p l e rm_Md_thrown s m args below meth c 1 D (some (.int rr)) [(h_this, .inr (5, [.int v_thrown, .int v_wires, .int v_isOpen, .int v_isEmpty, .int v_came, .int v_there, .int v_halves, .ref h_this_number, .ref h_this_set, .ref h_this_constant, .int v_rules, .ref h_this_ruleKind, .ref h_this_ruleBit, .ref h_this_ruleOther, .int v_alone, .int v_halfBits, .ref h_this_oldSet, .ref h_this_oldNumber, .ref h_this_allSets, .ref h_this_allNumbers, .int v_allMany, .ref h_this_root]))] [h_this] [(h_this, .inr (5, [.int v_thrown, .int v_wires, .int v_isOpen, .int v_isEmpty, .int v_came, .int v_there, .int v_halves, .ref h_this_number, .ref h_this_set, .ref h_this_constant, .int v_rules, .ref h_this_ruleKind, .ref h_this_ruleBit, .ref h_this_ruleOther, .int v_alone, .int v_halfBits, .ref h_this_oldSet, .ref h_this_oldNumber, .ref h_this_allSets, .ref h_this_allNumbers, .int v_allMany, .ref h_this_root]))] 0 [(0, .ref h_this)] [] := by
  unfold f_Md_thrown at hf
  refine z_aload_n C d_Md_thrown_0 rfl 0 rfl ?_
  refine z_get C iw_Md 0 rfl rfl 0 (by decide) zw_498 rfl d_Md_thrown_1 ?_
  subst hf
  exact z_iret C hr d_Md_thrown_4
theorem c_Md_thrown {l : Launch} {D : va_G} {cI cL : ClassId} {h_this h_this_number h_this_set h_this_constant h_this_ruleKind h_this_ruleBit h_this_ruleOther h_this_oldSet h_this_oldNumber h_this_allSets h_this_allNumbers h_this_root : Nat} {v_thrown v_wires v_isOpen v_isEmpty v_came v_there v_halves v_rules v_alone v_halfBits v_allMany rr : Int32} (hf : f_Md_thrown v_thrown = rr) : zM l y_Md_thrown (Cond.code y_Md_thrown b_Md_thrown 1 (some .int) :: zT) rm_Md_thrown D vwCl [(cI, .int), (cL, .long)] [.ref h_this] [(h_this, .inr (5, [.int v_thrown, .int v_wires, .int v_isOpen, .int v_isEmpty, .int v_came, .int v_there, .int v_halves, .ref h_this_number, .ref h_this_set, .ref h_this_constant, .int v_rules, .ref h_this_ruleKind, .ref h_this_ruleBit, .ref h_this_ruleOther, .int v_alone, .int v_halfBits, .ref h_this_oldSet, .ref h_this_oldNumber, .ref h_this_allSets, .ref h_this_allNumbers, .int v_allMany, .ref h_this_root]))] [(h_this, .inr (5, [.int v_thrown, .int v_wires, .int v_isOpen, .int v_isEmpty, .int v_came, .int v_there, .int v_halves, .ref h_this_number, .ref h_this_set, .ref h_this_constant, .int v_rules, .ref h_this_ruleKind, .ref h_this_ruleBit, .ref h_this_ruleOther, .int v_alone, .int v_halfBits, .ref h_this_oldSet, .ref h_this_oldNumber, .ref h_this_allSets, .ref h_this_allNumbers, .int v_allMany, .ref h_this_root]))] (some (.int rr)) :=
  zM.intro (by decide) rfl (fun _ h => List.mem_cons_of_mem _ h) (Nat.le_of_ble_eq_true rfl) (fun _ _ _ _ _ _ _ C hr _ => k_Md_thrown C hr hf)
def rm_Md_count : Room := { frames := 0, cells := 0, slots := 0, locals := 0 }
def f_Md_count_l4 (x0 : Int32) (x1 : Int32) (x2 : Int32) : Option ((Int32 × Int32) ⊕ (Int32)) :=
  if (24 : Int32) ≤ x2 then (
    some (.inr (x1)))
  else (
    zlet (x1 + ((x0 >>> (x2 &&& 31)) &&& (1 : Int32))) fun y_2 =>
    zlet (x2 + 1) fun y_3 =>
    some (.inl (y_2, y_3)))
set_option maxRecDepth 100000 in
set_option maxHeartbeats 4000000 in
theorem k_Md_count_l4 {p : Program} {l : Launch} {e : Env} {s : State} {m : MethodId} {args : Array Value} {below : List Frame} {meth : Method} {c : Code} {D : va_G} {cI cL : ClassId} {rr x0 x1 x2 : Int32} (C : zC p s m args meth c b_Md_count 3 R_Md D vwCl [(cI, .int), (cL, .long)] (zA [] s.heap.size)) (hr : meth.sig.returnType = some .int) {z : (Int32 × Int32) ⊕ (Int32)} (hf : f_Md_count_l4 x0 x1 x2 = some z) (hK : zcase (fun q => ZV p l e rm_Md_count s m args below meth c 3 D (some (.int rr)) [] [] [] 4 [(0, .int x0), (1, .int q.1), (2, .int q.2)] []) (fun q => ZV p l e rm_Md_count s m args below meth c 3 D (some (.int rr)) [] [] [] 24 [(1, .int q)] []) z) : ZV p l e rm_Md_count s m args below meth c 3 D (some (.int rr)) [] [] [] 4 [(0, .int x0), (1, .int x1), (2, .int x2)] [] := by
  unfold f_Md_count_l4 at hf
  refine z_iload_n C d_Md_count_4 rfl 2 rfl ?_
  refine z_bipush (v := 24) C d_Md_count_5 (by decide) ?_
  refine z_icmp_ge (tgt := 24) C d_Md_count_7 (by decide) (fun c_1 => ?_) (fun c_1 => ?_)
  · have hf := zif_pos c_1 hf
    refine z_lv [1] rfl ?_
    cases hf
    exact hK
  · have hf := zif_neg c_1 hf
    refine z_iload_n C d_Md_count_10 rfl 1 rfl ?_
    refine z_iload_n C d_Md_count_11 rfl 0 rfl ?_
    refine z_iload_n C d_Md_count_12 rfl 2 rfl ?_
    refine z_ishr C d_Md_count_13 ?_
    refine z_iconst (v := 1) C d_Md_count_14 (by decide) ?_
    refine z_iand C d_Md_count_15 ?_
    refine z_iadd C d_Md_count_16 ?_
    refine z_topi (fun y_2 ey_2 => ?_)
    have hf := zlet_at ey_2 hf
    refine z_istore_n (lv' := [(1, .int y_2), (0, .int x0), (2, .int x2)]) C d_Md_count_17 rfl (by decide) rfl ?_
    obtain ⟨y_3, ey_3⟩ : ∃ y : Int32, y = x2 + 1 := ⟨_, rfl⟩
    have hf := zlet_at ey_3 hf
    refine z_iinc (v := y_3) (lv' := [(2, .int y_3), (1, .int y_2), (0, .int x0)]) C d_Md_count_18 (k := 2) rfl (by rw [ey_3]; rfl) (by decide) rfl ?_
    refine z_goto (tgt := 4) C d_Md_count_21 (by decide) ?_
    refine z_lv [2, 1, 0] rfl ?_
    cases hf
    exact hK
theorem k_Md_count_l4_run {p : Program} {l : Launch} {e : Env} {s : State} {m : MethodId} {args : Array Value} {below : List Frame} {meth : Method} {c : Code} {D : va_G} {cI cL : ClassId} {rr x0 x1 x2 : Int32} (C : zC p s m args meth c b_Md_count 3 R_Md D vwCl [(cI, .int), (cL, .long)] (zA [] s.heap.size)) (hr : meth.sig.returnType = some .int) {o0 : Int32} (hf : zloop (fun q => f_Md_count_l4 x0 q.1 q.2) zF (x1, x2) = some o0) (hK : ZV p l e rm_Md_count s m args below meth c 3 D (some (.int rr)) [] [] [] 24 [(1, .int o0)] []) : ZV p l e rm_Md_count s m args below meth c 3 D (some (.int rr)) [] [] [] 4 [(0, .int x0), (1, .int x1), (2, .int x2)] [] :=
  zloop_run (P := fun q => ZV p l e rm_Md_count s m args below meth c 3 D (some (.int rr)) [] [] [] 4 [(0, .int x0), (1, .int q.1), (2, .int q.2)] []) (K := (fun q => ZV p l e rm_Md_count s m args below meth c 3 D (some (.int rr)) [] [] [] 24 [(1, .int q)] [])) (fun q z hz hK => k_Md_count_l4 C hr hz hK) zF _ (o0) hf hK
/-- PathSumsModel.count(I)I -/
def f_Md_count (x0 : Int32) : Option (Int32) :=
  zb1 (zloop (fun q => f_Md_count_l4 x0 q.1 q.2) zF ((0 : Int32), (0 : Int32))) fun y_1 =>
  some (y_1)
set_option maxRecDepth 100000 in
set_option maxHeartbeats 4000000 in
theorem k_Md_count {p : Program} {l : Launch} {e : Env} {s : State} {m : MethodId} {args : Array Value} {below : List Frame} {meth : Method} {c : Code} {D : va_G} {cI cL : ClassId} {rr x0 : Int32} (C : zC p s m args meth c b_Md_count 3 R_Md D vwCl [(cI, .int), (cL, .long)] (zA [] s.heap.size)) (hr : meth.sig.returnType = some .int) (hf : f_Md_count x0 = some rr) : ZV p l e rm_Md_count s m args below meth c 3 D (some (.int rr)) [] [] [] 0 [(0, .int x0)] [] := by
  unfold f_Md_count at hf
  refine z_iconst (v := 0) C d_Md_count_0 (by decide) ?_
  refine z_istore_n (lv' := [(1, .int (0 : Int32)), (0, .int x0)]) C d_Md_count_1 rfl (by decide) rfl ?_
  refine z_iconst (v := 0) C d_Md_count_2 (by decide) ?_
  refine z_istore_n (lv' := [(2, .int (0 : Int32)), (1, .int (0 : Int32)), (0, .int x0)]) C d_Md_count_3 rfl (by decide) rfl ?_
  refine z_lv [2, 1, 0] rfl ?_
  obtain ⟨y_1, h_2, hf⟩ := zb1_elim hf
  refine k_Md_count_l4_run C hr h_2 ?_
  refine z_iload_n C d_Md_count_24 rfl 0 rfl ?_
  cases hf
  exact z_iret C hr d_Md_count_25
theorem c_Md_count {l : Launch} {D : va_G} {cI cL : ClassId} {rr x0 : Int32} (hf : f_Md_count x0 = some rr) : zM l y_Md_count (Cond.code y_Md_count b_Md_count 3 (some .int) :: zT) rm_Md_count D vwCl [(cI, .int), (cL, .long)] [.int x0] [] [] (some (.int rr)) :=
  zM.intro (by decide) rfl (fun _ h => List.mem_cons_of_mem _ h) (Nat.le_of_ble_eq_true rfl) (fun _ _ _ _ _ _ _ C hr _ => k_Md_count C hr hf)
def rm_Md_placeOf : Room := { frames := 0, cells := 0, slots := 0, locals := 0 }
def f_Md_placeOf_l6 (x0 : Int32) (x1 : Int32) (x2 : Int32) (x3 : Int32) : Option ((Int32 × Int32 × Int32) ⊕ (Int32 × Int32)) :=
  if (24 : Int32) ≤ x3 then (
    some (.inr (x1, x2)))
  else (
    if ((x0 >>> (x3 &&& 31)) &&& (1 : Int32)) = 0 then (
      zlet (x3 + 1) fun y_3 =>
      some (.inl (x1, x2, y_3)))
    else (
      zlet (((25 : Int32) * x1) + x3) fun y_4 =>
      zlet (x2 + 1) fun y_5 =>
      zlet (x3 + 1) fun y_6 =>
      some (.inl (y_4, y_5, y_6))))
set_option maxRecDepth 100000 in
set_option maxHeartbeats 4000000 in
theorem k_Md_placeOf_l6 {p : Program} {l : Launch} {e : Env} {s : State} {m : MethodId} {args : Array Value} {below : List Frame} {meth : Method} {c : Code} {D : va_G} {cI cL : ClassId} {rr x0 x1 x2 x3 : Int32} (C : zC p s m args meth c b_Md_placeOf 4 R_Md D vwCl [(cI, .int), (cL, .long)] (zA [] s.heap.size)) (hr : meth.sig.returnType = some .int) {z : (Int32 × Int32 × Int32) ⊕ (Int32 × Int32)} (hf : f_Md_placeOf_l6 x0 x1 x2 x3 = some z) (hK : zcase (fun q => ZV p l e rm_Md_placeOf s m args below meth c 4 D (some (.int rr)) [] [] [] 6 [(0, .int x0), (1, .int q.1), (2, .int q.2.1), (3, .int q.2.2)] []) (fun q => ZV p l e rm_Md_placeOf s m args below meth c 4 D (some (.int rr)) [] [] [] 39 [(1, .int q.1), (2, .int q.2)] []) z) : ZV p l e rm_Md_placeOf s m args below meth c 4 D (some (.int rr)) [] [] [] 6 [(0, .int x0), (1, .int x1), (2, .int x2), (3, .int x3)] [] := by
  unfold f_Md_placeOf_l6 at hf
  refine z_iload_n C d_Md_placeOf_6 rfl 3 rfl ?_
  refine z_bipush (v := 24) C d_Md_placeOf_7 (by decide) ?_
  refine z_icmp_ge (tgt := 39) C d_Md_placeOf_9 (by decide) (fun c_1 => ?_) (fun c_1 => ?_)
  · have hf := zif_pos c_1 hf
    refine z_lv [1, 2] rfl ?_
    cases hf
    exact hK
  · have hf := zif_neg c_1 hf
    refine z_iload_n C d_Md_placeOf_12 rfl 0 rfl ?_
    refine z_iload_n C d_Md_placeOf_13 rfl 3 rfl ?_
    refine z_ishr C d_Md_placeOf_14 ?_
    refine z_iconst (v := 1) C d_Md_placeOf_15 (by decide) ?_
    refine z_iand C d_Md_placeOf_16 ?_
    refine z_if_ne (tgt := 23) C d_Md_placeOf_17 (by decide) (fun c_2 => ?_) (fun c_2 => ?_)
    · have hf := zif_neg c_2 hf
      refine z_bipush (v := 25) C d_Md_placeOf_23 (by decide) ?_
      refine z_iload_n C d_Md_placeOf_25 rfl 1 rfl ?_
      refine z_imul C d_Md_placeOf_26 ?_
      refine z_iload_n C d_Md_placeOf_27 rfl 3 rfl ?_
      refine z_iadd C d_Md_placeOf_28 ?_
      refine z_topi (fun y_4 ey_4 => ?_)
      have hf := zlet_at ey_4 hf
      refine z_istore_n (lv' := [(1, .int y_4), (0, .int x0), (2, .int x2), (3, .int x3)]) C d_Md_placeOf_29 rfl (by decide) rfl ?_
      obtain ⟨y_5, ey_5⟩ : ∃ y : Int32, y = x2 + 1 := ⟨_, rfl⟩
      have hf := zlet_at ey_5 hf
      refine z_iinc (v := y_5) (lv' := [(2, .int y_5), (1, .int y_4), (0, .int x0), (3, .int x3)]) C d_Md_placeOf_30 (k := 2) rfl (by rw [ey_5]; rfl) (by decide) rfl ?_
      obtain ⟨y_6, ey_6⟩ : ∃ y : Int32, y = x3 + 1 := ⟨_, rfl⟩
      have hf := zlet_at ey_6 hf
      refine z_iinc (v := y_6) (lv' := [(3, .int y_6), (2, .int y_5), (1, .int y_4), (0, .int x0)]) C d_Md_placeOf_33 (k := 3) rfl (by rw [ey_6]; rfl) (by decide) rfl ?_
      refine z_goto (tgt := 6) C d_Md_placeOf_36 (by decide) ?_
      refine z_lv [3, 2, 1, 0] rfl ?_
      cases hf
      exact hK
    · have hf := zif_pos c_2 hf
      refine z_goto (tgt := 33) C d_Md_placeOf_20 (by decide) ?_
      obtain ⟨y_3, ey_3⟩ : ∃ y : Int32, y = x3 + 1 := ⟨_, rfl⟩
      have hf := zlet_at ey_3 hf
      refine z_iinc (v := y_3) (lv' := [(3, .int y_3), (0, .int x0), (1, .int x1), (2, .int x2)]) C d_Md_placeOf_33 (k := 3) rfl (by rw [ey_3]; rfl) (by decide) rfl ?_
      refine z_goto (tgt := 6) C d_Md_placeOf_36 (by decide) ?_
      refine z_lv [1, 2, 3, 0] rfl ?_
      cases hf
      exact hK
theorem k_Md_placeOf_l6_run {p : Program} {l : Launch} {e : Env} {s : State} {m : MethodId} {args : Array Value} {below : List Frame} {meth : Method} {c : Code} {D : va_G} {cI cL : ClassId} {rr x0 x1 x2 x3 : Int32} (C : zC p s m args meth c b_Md_placeOf 4 R_Md D vwCl [(cI, .int), (cL, .long)] (zA [] s.heap.size)) (hr : meth.sig.returnType = some .int) {o0 : Int32} {o1 : Int32} (hf : zloop (fun q => f_Md_placeOf_l6 x0 q.1 q.2.1 q.2.2) zF (x1, x2, x3) = some (o0, o1)) (hK : ZV p l e rm_Md_placeOf s m args below meth c 4 D (some (.int rr)) [] [] [] 39 [(1, .int o0), (2, .int o1)] []) : ZV p l e rm_Md_placeOf s m args below meth c 4 D (some (.int rr)) [] [] [] 6 [(0, .int x0), (1, .int x1), (2, .int x2), (3, .int x3)] [] :=
  zloop_run (P := fun q => ZV p l e rm_Md_placeOf s m args below meth c 4 D (some (.int rr)) [] [] [] 6 [(0, .int x0), (1, .int q.1), (2, .int q.2.1), (3, .int q.2.2)] []) (K := (fun q => ZV p l e rm_Md_placeOf s m args below meth c 4 D (some (.int rr)) [] [] [] 39 [(1, .int q.1), (2, .int q.2)] [])) (fun q z hz hK => k_Md_placeOf_l6 C hr hz hK) zF _ ((o0, o1)) hf hK
def f_Md_placeOf_l41 (x1 : Int32) (x3 : Int32) : Option ((Int32 × Int32) ⊕ (Int32)) :=
  if (3 : Int32) ≤ x3 then (
    some (.inr (x1)))
  else (
    zlet (((25 : Int32) * x1) + (24 : Int32)) fun y_2 =>
    zlet (x3 + 1) fun y_3 =>
    some (.inl (y_2, y_3)))
set_option maxRecDepth 100000 in
set_option maxHeartbeats 4000000 in
theorem k_Md_placeOf_l41 {p : Program} {l : Launch} {e : Env} {s : State} {m : MethodId} {args : Array Value} {below : List Frame} {meth : Method} {c : Code} {D : va_G} {cI cL : ClassId} {rr x1 x3 : Int32} (C : zC p s m args meth c b_Md_placeOf 4 R_Md D vwCl [(cI, .int), (cL, .long)] (zA [] s.heap.size)) (hr : meth.sig.returnType = some .int) {z : (Int32 × Int32) ⊕ (Int32)} (hf : f_Md_placeOf_l41 x1 x3 = some z) (hK : zcase (fun q => ZV p l e rm_Md_placeOf s m args below meth c 4 D (some (.int rr)) [] [] [] 41 [(1, .int q.1), (3, .int q.2)] []) (fun q => ZV p l e rm_Md_placeOf s m args below meth c 4 D (some (.int rr)) [] [] [] 60 [(1, .int q)] []) z) : ZV p l e rm_Md_placeOf s m args below meth c 4 D (some (.int rr)) [] [] [] 41 [(1, .int x1), (3, .int x3)] [] := by
  unfold f_Md_placeOf_l41 at hf
  refine z_iload_n C d_Md_placeOf_41 rfl 1 rfl ?_
  refine z_iconst (v := 3) C d_Md_placeOf_42 (by decide) ?_
  refine z_icmp_ge (tgt := 60) C d_Md_placeOf_43 (by decide) (fun c_1 => ?_) (fun c_1 => ?_)
  · have hf := zif_pos c_1 hf
    refine z_lv [0] rfl ?_
    cases hf
    exact hK
  · have hf := zif_neg c_1 hf
    refine z_bipush (v := 25) C d_Md_placeOf_46 (by decide) ?_
    refine z_iload_n C d_Md_placeOf_48 rfl 0 rfl ?_
    refine z_imul C d_Md_placeOf_49 ?_
    refine z_bipush (v := 24) C d_Md_placeOf_50 (by decide) ?_
    refine z_iadd C d_Md_placeOf_52 ?_
    refine z_topi (fun y_2 ey_2 => ?_)
    have hf := zlet_at ey_2 hf
    refine z_istore_n (lv' := [(1, .int y_2), (3, .int x3)]) C d_Md_placeOf_53 rfl (by decide) rfl ?_
    obtain ⟨y_3, ey_3⟩ : ∃ y : Int32, y = x3 + 1 := ⟨_, rfl⟩
    have hf := zlet_at ey_3 hf
    refine z_iinc (v := y_3) (lv' := [(3, .int y_3), (1, .int y_2)]) C d_Md_placeOf_54 (k := 1) rfl (by rw [ey_3]; rfl) (by decide) rfl ?_
    refine z_goto (tgt := 41) C d_Md_placeOf_57 (by decide) ?_
    refine z_lv [1, 0] rfl ?_
    cases hf
    exact hK
theorem k_Md_placeOf_l41_run {p : Program} {l : Launch} {e : Env} {s : State} {m : MethodId} {args : Array Value} {below : List Frame} {meth : Method} {c : Code} {D : va_G} {cI cL : ClassId} {rr x1 x3 : Int32} (C : zC p s m args meth c b_Md_placeOf 4 R_Md D vwCl [(cI, .int), (cL, .long)] (zA [] s.heap.size)) (hr : meth.sig.returnType = some .int) {o0 : Int32} (hf : zloop (fun q => f_Md_placeOf_l41 q.1 q.2) zF (x1, x3) = some o0) (hK : ZV p l e rm_Md_placeOf s m args below meth c 4 D (some (.int rr)) [] [] [] 60 [(1, .int o0)] []) : ZV p l e rm_Md_placeOf s m args below meth c 4 D (some (.int rr)) [] [] [] 41 [(1, .int x1), (3, .int x3)] [] :=
  zloop_run (P := fun q => ZV p l e rm_Md_placeOf s m args below meth c 4 D (some (.int rr)) [] [] [] 41 [(1, .int q.1), (3, .int q.2)] []) (K := (fun q => ZV p l e rm_Md_placeOf s m args below meth c 4 D (some (.int rr)) [] [] [] 60 [(1, .int q)] [])) (fun q z hz hK => k_Md_placeOf_l41 C hr hz hK) zF _ (o0) hf hK
/-- PathSumsModel.placeOf(I)I -/
def f_Md_placeOf (x0 : Int32) : Option (Int32) :=
  zb2 (zloop (fun q => f_Md_placeOf_l6 x0 q.1 q.2.1 q.2.2) zF ((0 : Int32), (0 : Int32), (0 : Int32))) fun y_1 y_2 =>
  zb1 (zloop (fun q => f_Md_placeOf_l41 q.1 q.2) zF (y_1, y_2)) fun y_4 =>
  some (y_4)
set_option maxRecDepth 100000 in
set_option maxHeartbeats 4000000 in
theorem k_Md_placeOf {p : Program} {l : Launch} {e : Env} {s : State} {m : MethodId} {args : Array Value} {below : List Frame} {meth : Method} {c : Code} {D : va_G} {cI cL : ClassId} {rr x0 : Int32} (C : zC p s m args meth c b_Md_placeOf 4 R_Md D vwCl [(cI, .int), (cL, .long)] (zA [] s.heap.size)) (hr : meth.sig.returnType = some .int) (hf : f_Md_placeOf x0 = some rr) : ZV p l e rm_Md_placeOf s m args below meth c 4 D (some (.int rr)) [] [] [] 0 [(0, .int x0)] [] := by
  unfold f_Md_placeOf at hf
  refine z_iconst (v := 0) C d_Md_placeOf_0 (by decide) ?_
  refine z_istore_n (lv' := [(1, .int (0 : Int32)), (0, .int x0)]) C d_Md_placeOf_1 rfl (by decide) rfl ?_
  refine z_iconst (v := 0) C d_Md_placeOf_2 (by decide) ?_
  refine z_istore_n (lv' := [(2, .int (0 : Int32)), (1, .int (0 : Int32)), (0, .int x0)]) C d_Md_placeOf_3 rfl (by decide) rfl ?_
  refine z_iconst (v := 0) C d_Md_placeOf_4 (by decide) ?_
  refine z_istore_n (lv' := [(3, .int (0 : Int32)), (2, .int (0 : Int32)), (1, .int (0 : Int32)), (0, .int x0)]) C d_Md_placeOf_5 rfl (by decide) rfl ?_
  refine z_lv [3, 2, 1, 0] rfl ?_
  obtain ⟨y_1, y_2, h_3, hf⟩ := zb2_elim hf
  refine k_Md_placeOf_l6_run C hr h_3 ?_
  refine z_iload_n C d_Md_placeOf_39 rfl 1 rfl ?_
  refine z_istore_n (lv' := [(3, .int y_2), (1, .int y_1), (2, .int y_2)]) C d_Md_placeOf_40 rfl (by decide) rfl ?_
  refine z_lv [1, 0] rfl ?_
  obtain ⟨y_4, h_5, hf⟩ := zb1_elim hf
  refine k_Md_placeOf_l41_run C hr h_5 ?_
  refine z_iload_n C d_Md_placeOf_60 rfl 0 rfl ?_
  cases hf
  exact z_iret C hr d_Md_placeOf_61
theorem c_Md_placeOf {l : Launch} {D : va_G} {cI cL : ClassId} {rr x0 : Int32} (hf : f_Md_placeOf x0 = some rr) : zM l y_Md_placeOf (Cond.code y_Md_placeOf b_Md_placeOf 4 (some .int) :: zT) rm_Md_placeOf D vwCl [(cI, .int), (cL, .long)] [.int x0] [] [] (some (.int rr)) :=
  zM.intro (by decide) rfl (fun _ h => List.mem_cons_of_mem _ h) (Nat.le_of_ble_eq_true rfl) (fun _ _ _ _ _ _ _ C hr _ => k_Md_placeOf C hr hf)
def rm_Md_numberOf : Room := { frames := 1, cells := 0, slots := 0, locals := 23 }
/-- PathSumsModel.numberOf(I)I -/
def f_Md_numberOf (x1 : Int32) (v_number : Nat → Int32) : Option (Int32) :=
  zb1 (f_Md_placeOf x1) fun r_2 =>
  if r_2 < 0 ∨ 15625 ≤ r_2.toNatClampNeg then none else
  some (v_number r_2.toNatClampNeg)
set_option maxRecDepth 100000 in
set_option maxHeartbeats 4000000 in
theorem k_Md_numberOf {p : Program} {l : Launch} {e : Env} {s : State} {m : MethodId} {args : Array Value} {below : List Frame} {meth : Method} {c : Code} {D : va_G} {cI cL : ClassId} {h_this h_this_number h_this_set h_this_constant h_this_ruleKind h_this_ruleBit h_this_ruleOther h_this_oldSet h_this_oldNumber h_this_allSets h_this_allNumbers h_this_root : Nat} {v_thrown v_wires v_isOpen v_isEmpty v_came v_there v_halves v_rules v_alone v_halfBits v_allMany rr x1 : Int32} {v_number : Nat → Int32} (C : zC p s m args meth c b_Md_numberOf 2 R_Md D vwCl [(cI, .int), (cL, .long)] (zA [h_this, h_this_number] s.heap.size)) (hr : meth.sig.returnType = some .int) (hf : f_Md_numberOf x1 v_number = some rr) : ZV p l e rm_Md_numberOf s m args below meth c 2 D (some (.int rr)) [(h_this, .inr (5, [.int v_thrown, .int v_wires, .int v_isOpen, .int v_isEmpty, .int v_came, .int v_there, .int v_halves, .ref h_this_number, .ref h_this_set, .ref h_this_constant, .int v_rules, .ref h_this_ruleKind, .ref h_this_ruleBit, .ref h_this_ruleOther, .int v_alone, .int v_halfBits, .ref h_this_oldSet, .ref h_this_oldNumber, .ref h_this_allSets, .ref h_this_allNumbers, .int v_allMany, .ref h_this_root])), (h_this_number, .inl (cI, 15625, .inl v_number))] [h_this, h_this_number] [(h_this, .inr (5, [.int v_thrown, .int v_wires, .int v_isOpen, .int v_isEmpty, .int v_came, .int v_there, .int v_halves, .ref h_this_number, .ref h_this_set, .ref h_this_constant, .int v_rules, .ref h_this_ruleKind, .ref h_this_ruleBit, .ref h_this_ruleOther, .int v_alone, .int v_halfBits, .ref h_this_oldSet, .ref h_this_oldNumber, .ref h_this_allSets, .ref h_this_allNumbers, .int v_allMany, .ref h_this_root])), (h_this_number, .inl (cI, 15625, .inl v_number))] 0 [(0, .ref h_this), (1, .int x1)] [] := by
  unfold f_Md_numberOf at hf
  refine z_aload_n C d_Md_numberOf_0 rfl 0 rfl ?_
  refine z_get C iw_Md 0 rfl rfl 7 (by decide) zw_505 rfl d_Md_numberOf_1 ?_
  refine z_iload_n C d_Md_numberOf_4 rfl 1 rfl ?_
  obtain ⟨r_2, h_1, hf⟩ := zb1_elim hf
  refine z_callS (As := [.int x1]) (rest := [.ref h_this_number]) (ws' := [(h_this, .inr (5, [.int v_thrown, .int v_wires, .int v_isOpen, .int v_isEmpty, .int v_came, .int v_there, .int v_halves, .ref h_this_number, .ref h_this_set, .ref h_this_constant, .int v_rules, .ref h_this_ruleKind, .ref h_this_ruleBit, .ref h_this_ruleOther, .int v_alone, .int v_halfBits, .ref h_this_oldSet, .ref h_this_oldNumber, .ref h_this_allSets, .ref h_this_allNumbers, .int v_allMany, .ref h_this_root])), (h_this_number, .inl (cI, 15625, .inl v_number))]) C (c_Md_placeOf h_1) mi_Md_placeOf zw_608 (by decide) [] (by decide) rfl rfl rfl rfl rfl (by decide) ⟨Nat.zero_le _, Nat.zero_le _⟩ d_Md_numberOf_5 ?_
  obtain ⟨g_3, hf⟩ := zguard hf
  refine z_iald C 1 0 rfl rfl g_3 d_Md_numberOf_8 ?_
  cases hf
  exact z_iret C hr d_Md_numberOf_9
theorem c_Md_numberOf {l : Launch} {D : va_G} {cI cL : ClassId} {h_this h_this_number h_this_set h_this_constant h_this_ruleKind h_this_ruleBit h_this_ruleOther h_this_oldSet h_this_oldNumber h_this_allSets h_this_allNumbers h_this_root : Nat} {v_thrown v_wires v_isOpen v_isEmpty v_came v_there v_halves v_rules v_alone v_halfBits v_allMany rr x1 : Int32} {v_number : Nat → Int32} (hf : f_Md_numberOf x1 v_number = some rr) : zM l y_Md_numberOf (Cond.code y_Md_numberOf b_Md_numberOf 2 (some .int) :: zT) rm_Md_numberOf D vwCl [(cI, .int), (cL, .long)] [.ref h_this, .int x1] [(h_this, .inr (5, [.int v_thrown, .int v_wires, .int v_isOpen, .int v_isEmpty, .int v_came, .int v_there, .int v_halves, .ref h_this_number, .ref h_this_set, .ref h_this_constant, .int v_rules, .ref h_this_ruleKind, .ref h_this_ruleBit, .ref h_this_ruleOther, .int v_alone, .int v_halfBits, .ref h_this_oldSet, .ref h_this_oldNumber, .ref h_this_allSets, .ref h_this_allNumbers, .int v_allMany, .ref h_this_root])), (h_this_number, .inl (cI, 15625, .inl v_number))] [(h_this, .inr (5, [.int v_thrown, .int v_wires, .int v_isOpen, .int v_isEmpty, .int v_came, .int v_there, .int v_halves, .ref h_this_number, .ref h_this_set, .ref h_this_constant, .int v_rules, .ref h_this_ruleKind, .ref h_this_ruleBit, .ref h_this_ruleOther, .int v_alone, .int v_halfBits, .ref h_this_oldSet, .ref h_this_oldNumber, .ref h_this_allSets, .ref h_this_allNumbers, .int v_allMany, .ref h_this_root])), (h_this_number, .inl (cI, 15625, .inl v_number))] (some (.int rr)) :=
  zM.intro (by decide) rfl (fun _ h => List.mem_cons_of_mem _ h) (Nat.le_of_ble_eq_true rfl) (fun _ _ _ _ _ _ _ C hr _ => k_Md_numberOf C hr hf)
def rm_Md_add : Room := { frames := 1, cells := 0, slots := 0, locals := 23 }
/-- PathSumsModel.add(II)V -/
def f_Md_add (x1 : Int32) (x2 : Int32) (v_number : Nat → Int32) : Option ((Nat → Int32)) :=
  zb1 (f_Md_count x1) fun r_2 =>
  if r_2 ≤ (3 : Int32) then (
    zb1 (f_Md_placeOf x1) fun r_5 =>
    if r_5 < 0 ∨ 15625 ≤ r_5.toNatClampNeg then none else
    if r_5 < 0 ∨ 15625 ≤ r_5.toNatClampNeg then none else
    zlet (upd v_number r_5.toNatClampNeg (((v_number r_5.toNatClampNeg) + x2) &&& (7 : Int32))) fun u_8 =>
    some (u_8))
  else (
    some (v_number))
set_option maxRecDepth 100000 in
set_option maxHeartbeats 4000000 in
theorem k_Md_add {p : Program} {l : Launch} {e : Env} {s : State} {m : MethodId} {args : Array Value} {below : List Frame} {meth : Method} {c : Code} {D : va_G} {cI cL : ClassId} {h_this h_this_number h_this_set h_this_constant h_this_ruleKind h_this_ruleBit h_this_ruleOther h_this_oldSet h_this_oldNumber h_this_allSets h_this_allNumbers h_this_root : Nat} {v_thrown v_wires v_isOpen v_isEmpty v_came v_there v_halves v_rules v_alone v_halfBits v_allMany x1 x2 : Int32} {v_number o_number : Nat → Int32} (C : zC p s m args meth c b_Md_add 4 R_Md D vwCl [(cI, .int), (cL, .long)] (zA [h_this, h_this_number] s.heap.size)) (hr : meth.sig.returnType = none) (hf : f_Md_add x1 x2 v_number = some o_number) : ZV p l e rm_Md_add s m args below meth c 4 D (none) [(h_this, .inr (5, [.int v_thrown, .int v_wires, .int v_isOpen, .int v_isEmpty, .int v_came, .int v_there, .int v_halves, .ref h_this_number, .ref h_this_set, .ref h_this_constant, .int v_rules, .ref h_this_ruleKind, .ref h_this_ruleBit, .ref h_this_ruleOther, .int v_alone, .int v_halfBits, .ref h_this_oldSet, .ref h_this_oldNumber, .ref h_this_allSets, .ref h_this_allNumbers, .int v_allMany, .ref h_this_root])), (h_this_number, .inl (cI, 15625, .inl o_number))] [h_this, h_this_number] [(h_this, .inr (5, [.int v_thrown, .int v_wires, .int v_isOpen, .int v_isEmpty, .int v_came, .int v_there, .int v_halves, .ref h_this_number, .ref h_this_set, .ref h_this_constant, .int v_rules, .ref h_this_ruleKind, .ref h_this_ruleBit, .ref h_this_ruleOther, .int v_alone, .int v_halfBits, .ref h_this_oldSet, .ref h_this_oldNumber, .ref h_this_allSets, .ref h_this_allNumbers, .int v_allMany, .ref h_this_root])), (h_this_number, .inl (cI, 15625, .inl v_number))] 0 [(0, .ref h_this), (1, .int x1), (2, .int x2)] [] := by
  unfold f_Md_add at hf
  refine z_iload_n C d_Md_add_0 rfl 1 rfl ?_
  obtain ⟨r_2, h_1, hf⟩ := zb1_elim hf
  refine z_callS (As := [.int x1]) (rest := []) (ws' := [(h_this, .inr (5, [.int v_thrown, .int v_wires, .int v_isOpen, .int v_isEmpty, .int v_came, .int v_there, .int v_halves, .ref h_this_number, .ref h_this_set, .ref h_this_constant, .int v_rules, .ref h_this_ruleKind, .ref h_this_ruleBit, .ref h_this_ruleOther, .int v_alone, .int v_halfBits, .ref h_this_oldSet, .ref h_this_oldNumber, .ref h_this_allSets, .ref h_this_allNumbers, .int v_allMany, .ref h_this_root])), (h_this_number, .inl (cI, 15625, .inl v_number))]) C (c_Md_count h_1) mi_Md_count zw_605 (by decide) [] (by decide) rfl rfl rfl rfl rfl (by decide) ⟨Nat.zero_le _, Nat.zero_le _⟩ d_Md_add_1 ?_
  refine z_iconst (v := 3) C d_Md_add_4 (by decide) ?_
  refine z_icmp_le (tgt := 9) C d_Md_add_5 (by decide) (fun c_3 => ?_) (fun c_3 => ?_)
  · have hf := zif_pos c_3 hf
    refine z_iload_n C d_Md_add_9 rfl 1 rfl ?_
    obtain ⟨r_5, h_4, hf⟩ := zb1_elim hf
    refine z_callS (As := [.int x1]) (rest := []) (ws' := [(h_this, .inr (5, [.int v_thrown, .int v_wires, .int v_isOpen, .int v_isEmpty, .int v_came, .int v_there, .int v_halves, .ref h_this_number, .ref h_this_set, .ref h_this_constant, .int v_rules, .ref h_this_ruleKind, .ref h_this_ruleBit, .ref h_this_ruleOther, .int v_alone, .int v_halfBits, .ref h_this_oldSet, .ref h_this_oldNumber, .ref h_this_allSets, .ref h_this_allNumbers, .int v_allMany, .ref h_this_root])), (h_this_number, .inl (cI, 15625, .inl v_number))]) C (c_Md_placeOf h_4) mi_Md_placeOf zw_608 (by decide) [] (by decide) rfl rfl rfl rfl rfl (by decide) ⟨Nat.zero_le _, Nat.zero_le _⟩ d_Md_add_10 ?_
    refine z_istore_n (lv' := [(3, .int r_5), (0, .ref h_this), (1, .int x1), (2, .int x2)]) C d_Md_add_13 rfl (by decide) rfl ?_
    refine z_aload_n C d_Md_add_14 rfl 1 rfl ?_
    refine z_get C iw_Md 0 rfl rfl 7 (by decide) zw_505 rfl d_Md_add_15 ?_
    refine z_iload_n C d_Md_add_18 rfl 0 rfl ?_
    refine z_aload_n C d_Md_add_19 rfl 1 rfl ?_
    refine z_get C iw_Md 0 rfl rfl 7 (by decide) zw_505 rfl d_Md_add_20 ?_
    refine z_iload_n C d_Md_add_23 rfl 0 rfl ?_
    obtain ⟨g_6, hf⟩ := zguard hf
    refine z_iald C 1 0 rfl rfl g_6 d_Md_add_24 ?_
    refine z_iload_n C d_Md_add_25 rfl 3 rfl ?_
    refine z_iadd C d_Md_add_26 ?_
    refine z_bipush (v := 7) C d_Md_add_27 (by decide) ?_
    refine z_iand C d_Md_add_29 ?_
    obtain ⟨g_7, hf⟩ := zguard hf
    obtain ⟨u_8, eu_8⟩ : ∃ u : Nat → Int32, u = upd v_number r_5.toNatClampNeg (((v_number r_5.toNatClampNeg) + x2) &&& (7 : Int32)) := ⟨_, rfl⟩
    have hf := zlet_at eu_8 hf
    refine z_iast (ws' := [(h_this, .inr (5, [.int v_thrown, .int v_wires, .int v_isOpen, .int v_isEmpty, .int v_came, .int v_there, .int v_halves, .ref h_this_number, .ref h_this_set, .ref h_this_constant, .int v_rules, .ref h_this_ruleKind, .ref h_this_ruleBit, .ref h_this_ruleOther, .int v_alone, .int v_halfBits, .ref h_this_oldSet, .ref h_this_oldNumber, .ref h_this_allSets, .ref h_this_allNumbers, .int v_allMany, .ref h_this_root])), (h_this_number, .inl (cI, 15625, .inl u_8))]) C 1 0 rfl rfl g_7 d_Md_add_30 (by rw [eu_8]; rfl) ?_
    cases hf
    exact z_vret C hr d_Md_add_31
  · have hf := zif_neg c_3 hf
    cases hf
    exact z_vret C hr d_Md_add_8
theorem c_Md_add {l : Launch} {D : va_G} {cI cL : ClassId} {h_this h_this_number h_this_set h_this_constant h_this_ruleKind h_this_ruleBit h_this_ruleOther h_this_oldSet h_this_oldNumber h_this_allSets h_this_allNumbers h_this_root : Nat} {v_thrown v_wires v_isOpen v_isEmpty v_came v_there v_halves v_rules v_alone v_halfBits v_allMany x1 x2 : Int32} {v_number o_number : Nat → Int32} (hf : f_Md_add x1 x2 v_number = some o_number) : zM l y_Md_add (Cond.code y_Md_add b_Md_add 4 none :: zT) rm_Md_add D vwCl [(cI, .int), (cL, .long)] [.ref h_this, .int x1, .int x2] [(h_this, .inr (5, [.int v_thrown, .int v_wires, .int v_isOpen, .int v_isEmpty, .int v_came, .int v_there, .int v_halves, .ref h_this_number, .ref h_this_set, .ref h_this_constant, .int v_rules, .ref h_this_ruleKind, .ref h_this_ruleBit, .ref h_this_ruleOther, .int v_alone, .int v_halfBits, .ref h_this_oldSet, .ref h_this_oldNumber, .ref h_this_allSets, .ref h_this_allNumbers, .int v_allMany, .ref h_this_root])), (h_this_number, .inl (cI, 15625, .inl v_number))] [(h_this, .inr (5, [.int v_thrown, .int v_wires, .int v_isOpen, .int v_isEmpty, .int v_came, .int v_there, .int v_halves, .ref h_this_number, .ref h_this_set, .ref h_this_constant, .int v_rules, .ref h_this_ruleKind, .ref h_this_ruleBit, .ref h_this_ruleOther, .int v_alone, .int v_halfBits, .ref h_this_oldSet, .ref h_this_oldNumber, .ref h_this_allSets, .ref h_this_allNumbers, .int v_allMany, .ref h_this_root])), (h_this_number, .inl (cI, 15625, .inl o_number))] (none) :=
  zM.intro (by decide) rfl (fun _ h => List.mem_cons_of_mem _ h) (Nat.le_of_ble_eq_true rfl) (fun _ _ _ _ _ _ _ C hr _ => k_Md_add C hr hf)
def rm_Md_addOr : Room := { frames := 2, cells := 0, slots := 0, locals := 46 }
def f_Md_addOr_l106 (x1 : Int32) (x4 : Int32) (x5 : Int32) (x6 : Int32) (x7 : Int32) (x8 : Int32) (v_number : Nat → Int32) : Option ((Int32 × (Nat → Int32)) ⊕ ((Nat → Int32))) :=
  if x7 ≤ x8 then (
    some (.inr (v_number)))
  else (
    if ((x1 >>> (x8 &&& 31)) &&& (1 : Int32)) = (1 : Int32) then (
      zb1 (f_Md_add (((x4 ||| ((1 : Int32) <<< (x6 &&& 31))) ||| ((1 : Int32) <<< (x7 &&& 31))) ||| ((1 : Int32) <<< (x8 &&& 31))) ((4 : Int32) * x5) v_number) fun q_4 =>
      zlet (x8 + 1) fun y_5 =>
      some (.inl (y_5, q_4)))
    else (
      zlet (x8 + 1) fun y_6 =>
      some (.inl (y_6, v_number))))
set_option maxRecDepth 100000 in
set_option maxHeartbeats 4000000 in
theorem k_Md_addOr_l106 {p : Program} {l : Launch} {e : Env} {s : State} {m : MethodId} {args : Array Value} {below : List Frame} {meth : Method} {c : Code} {D : va_G} {cI cL : ClassId} {h_this h_this_number h_this_set h_this_constant h_this_ruleKind h_this_ruleBit h_this_ruleOther h_this_oldSet h_this_oldNumber h_this_allSets h_this_allNumbers h_this_root : Nat} {v_thrown v_wires v_isOpen v_isEmpty v_came v_there v_halves v_rules v_alone v_halfBits v_allMany x1 x4 x5 x6 x7 x8 : Int32} {v_number o_number : Nat → Int32} (C : zC p s m args meth c b_Md_addOr 9 R_Md D vwCl [(cI, .int), (cL, .long)] (zA [h_this, h_this_number] s.heap.size)) (hr : meth.sig.returnType = none) {z : (Int32 × (Nat → Int32)) ⊕ ((Nat → Int32))} (hf : f_Md_addOr_l106 x1 x4 x5 x6 x7 x8 v_number = some z) (hK : zcase (fun q => ZV p l e rm_Md_addOr s m args below meth c 9 D (none) [(h_this, .inr (5, [.int v_thrown, .int v_wires, .int v_isOpen, .int v_isEmpty, .int v_came, .int v_there, .int v_halves, .ref h_this_number, .ref h_this_set, .ref h_this_constant, .int v_rules, .ref h_this_ruleKind, .ref h_this_ruleBit, .ref h_this_ruleOther, .int v_alone, .int v_halfBits, .ref h_this_oldSet, .ref h_this_oldNumber, .ref h_this_allSets, .ref h_this_allNumbers, .int v_allMany, .ref h_this_root])), (h_this_number, .inl (cI, 15625, .inl o_number))] [h_this, h_this_number] [(h_this, .inr (5, [.int v_thrown, .int v_wires, .int v_isOpen, .int v_isEmpty, .int v_came, .int v_there, .int v_halves, .ref h_this_number, .ref h_this_set, .ref h_this_constant, .int v_rules, .ref h_this_ruleKind, .ref h_this_ruleBit, .ref h_this_ruleOther, .int v_alone, .int v_halfBits, .ref h_this_oldSet, .ref h_this_oldNumber, .ref h_this_allSets, .ref h_this_allNumbers, .int v_allMany, .ref h_this_root])), (h_this_number, .inl (cI, 15625, .inl q.2))] 106 [(0, .ref h_this), (1, .int x1), (4, .int x4), (5, .int x5), (6, .int x6), (7, .int x7), (8, .int q.1)] []) (fun q => ZV p l e rm_Md_addOr s m args below meth c 9 D (none) [(h_this, .inr (5, [.int v_thrown, .int v_wires, .int v_isOpen, .int v_isEmpty, .int v_came, .int v_there, .int v_halves, .ref h_this_number, .ref h_this_set, .ref h_this_constant, .int v_rules, .ref h_this_ruleKind, .ref h_this_ruleBit, .ref h_this_ruleOther, .int v_alone, .int v_halfBits, .ref h_this_oldSet, .ref h_this_oldNumber, .ref h_this_allSets, .ref h_this_allNumbers, .int v_allMany, .ref h_this_root])), (h_this_number, .inl (cI, 15625, .inl o_number))] [h_this, h_this_number] [(h_this, .inr (5, [.int v_thrown, .int v_wires, .int v_isOpen, .int v_isEmpty, .int v_came, .int v_there, .int v_halves, .ref h_this_number, .ref h_this_set, .ref h_this_constant, .int v_rules, .ref h_this_ruleKind, .ref h_this_ruleBit, .ref h_this_ruleOther, .int v_alone, .int v_halfBits, .ref h_this_oldSet, .ref h_this_oldNumber, .ref h_this_allSets, .ref h_this_allNumbers, .int v_allMany, .ref h_this_root])), (h_this_number, .inl (cI, 15625, .inl q))] 154 [(0, .ref h_this), (1, .int x1), (4, .int x4), (5, .int x5), (6, .int x6), (7, .int x7)] []) z) : ZV p l e rm_Md_addOr s m args below meth c 9 D (none) [(h_this, .inr (5, [.int v_thrown, .int v_wires, .int v_isOpen, .int v_isEmpty, .int v_came, .int v_there, .int v_halves, .ref h_this_number, .ref h_this_set, .ref h_this_constant, .int v_rules, .ref h_this_ruleKind, .ref h_this_ruleBit, .ref h_this_ruleOther, .int v_alone, .int v_halfBits, .ref h_this_oldSet, .ref h_this_oldNumber, .ref h_this_allSets, .ref h_this_allNumbers, .int v_allMany, .ref h_this_root])), (h_this_number, .inl (cI, 15625, .inl o_number))] [h_this, h_this_number] [(h_this, .inr (5, [.int v_thrown, .int v_wires, .int v_isOpen, .int v_isEmpty, .int v_came, .int v_there, .int v_halves, .ref h_this_number, .ref h_this_set, .ref h_this_constant, .int v_rules, .ref h_this_ruleKind, .ref h_this_ruleBit, .ref h_this_ruleOther, .int v_alone, .int v_halfBits, .ref h_this_oldSet, .ref h_this_oldNumber, .ref h_this_allSets, .ref h_this_allNumbers, .int v_allMany, .ref h_this_root])), (h_this_number, .inl (cI, 15625, .inl v_number))] 106 [(0, .ref h_this), (1, .int x1), (4, .int x4), (5, .int x5), (6, .int x6), (7, .int x7), (8, .int x8)] [] := by
  unfold f_Md_addOr_l106 at hf
  refine z_iload C d_Md_addOr_106 6 rfl ?_
  refine z_iload C d_Md_addOr_108 5 rfl ?_
  refine z_icmp_ge (tgt := 154) C d_Md_addOr_110 (by decide) (fun c_1 => ?_) (fun c_1 => ?_)
  · have hf := zif_pos c_1 hf
    refine z_lv [0, 1, 2, 3, 4, 5] rfl ?_
    cases hf
    exact hK
  · have hf := zif_neg c_1 hf
    refine z_iload_n C d_Md_addOr_113 rfl 1 rfl ?_
    refine z_iload C d_Md_addOr_114 6 rfl ?_
    refine z_ishr C d_Md_addOr_116 ?_
    refine z_iconst (v := 1) C d_Md_addOr_117 (by decide) ?_
    refine z_iand C d_Md_addOr_118 ?_
    refine z_iconst (v := 1) C d_Md_addOr_119 (by decide) ?_
    refine z_icmp_ne (tgt := 148) C d_Md_addOr_120 (by decide) (fun c_2 => ?_) (fun c_2 => ?_)
    · have hf := zif_neg c_2 hf
      obtain ⟨y_6, ey_6⟩ : ∃ y : Int32, y = x8 + 1 := ⟨_, rfl⟩
      have hf := zlet_at ey_6 hf
      refine z_iinc (v := y_6) (lv' := [(8, .int y_6), (0, .ref h_this), (1, .int x1), (4, .int x4), (5, .int x5), (6, .int x6), (7, .int x7)]) C d_Md_addOr_148 (k := 6) rfl (by rw [ey_6]; rfl) (by decide) rfl ?_
      refine z_goto (tgt := 106) C d_Md_addOr_151 (by decide) ?_
      refine z_lv [1, 2, 3, 4, 5, 6, 0] rfl ?_
      cases hf
      exact hK
    · have hf := zif_pos c_2 hf
      refine z_aload_n C d_Md_addOr_123 rfl 0 rfl ?_
      refine z_iload C d_Md_addOr_124 2 rfl ?_
      refine z_iconst (v := 1) C d_Md_addOr_126 (by decide) ?_
      refine z_iload C d_Md_addOr_127 4 rfl ?_
      refine z_ishl C d_Md_addOr_129 ?_
      refine z_ior C d_Md_addOr_130 ?_
      refine z_iconst (v := 1) C d_Md_addOr_131 (by decide) ?_
      refine z_iload C d_Md_addOr_132 5 rfl ?_
      refine z_ishl C d_Md_addOr_134 ?_
      refine z_ior C d_Md_addOr_135 ?_
      refine z_iconst (v := 1) C d_Md_addOr_136 (by decide) ?_
      refine z_iload C d_Md_addOr_137 6 rfl ?_
      refine z_ishl C d_Md_addOr_139 ?_
      refine z_ior C d_Md_addOr_140 ?_
      refine z_iconst (v := 4) C d_Md_addOr_141 (by decide) ?_
      refine z_iload C d_Md_addOr_142 3 rfl ?_
      refine z_imul C d_Md_addOr_144 ?_
      obtain ⟨q_4, h_3, hf⟩ := zb1_elim hf
      refine z_callV (As := [.int (((x4 ||| ((1 : Int32) <<< (x6 &&& 31))) ||| ((1 : Int32) <<< (x7 &&& 31))) ||| ((1 : Int32) <<< (x8 &&& 31))), .int ((4 : Int32) * x5)]) (rest := []) (ws' := [(h_this, .inr (5, [.int v_thrown, .int v_wires, .int v_isOpen, .int v_isEmpty, .int v_came, .int v_there, .int v_halves, .ref h_this_number, .ref h_this_set, .ref h_this_constant, .int v_rules, .ref h_this_ruleKind, .ref h_this_ruleBit, .ref h_this_ruleOther, .int v_alone, .int v_halfBits, .ref h_this_oldSet, .ref h_this_oldNumber, .ref h_this_allSets, .ref h_this_allNumbers, .int v_allMany, .ref h_this_root])), (h_this_number, .inl (cI, 15625, .inl q_4))]) C (c_Md_add h_3) mi_Md_add zw_601 (by decide) 0 rfl rfl [0, 1] (by decide) rfl rfl rfl rfl rfl (by decide) ⟨Nat.zero_le _, Nat.zero_le _⟩ d_Md_addOr_145 ?_
      obtain ⟨y_5, ey_5⟩ : ∃ y : Int32, y = x8 + 1 := ⟨_, rfl⟩
      have hf := zlet_at ey_5 hf
      refine z_iinc (v := y_5) (lv' := [(8, .int y_5), (0, .ref h_this), (1, .int x1), (4, .int x4), (5, .int x5), (6, .int x6), (7, .int x7)]) C d_Md_addOr_148 (k := 6) rfl (by rw [ey_5]; rfl) (by decide) rfl ?_
      refine z_goto (tgt := 106) C d_Md_addOr_151 (by decide) ?_
      refine z_lv [1, 2, 3, 4, 5, 6, 0] rfl ?_
      cases hf
      exact hK
theorem k_Md_addOr_l106_run {p : Program} {l : Launch} {e : Env} {s : State} {m : MethodId} {args : Array Value} {below : List Frame} {meth : Method} {c : Code} {D : va_G} {cI cL : ClassId} {h_this h_this_number h_this_set h_this_constant h_this_ruleKind h_this_ruleBit h_this_ruleOther h_this_oldSet h_this_oldNumber h_this_allSets h_this_allNumbers h_this_root : Nat} {v_thrown v_wires v_isOpen v_isEmpty v_came v_there v_halves v_rules v_alone v_halfBits v_allMany x1 x4 x5 x6 x7 x8 : Int32} {v_number o_number : Nat → Int32} (C : zC p s m args meth c b_Md_addOr 9 R_Md D vwCl [(cI, .int), (cL, .long)] (zA [h_this, h_this_number] s.heap.size)) (hr : meth.sig.returnType = none) {o0 : Nat → Int32} (hf : zloop (fun q => f_Md_addOr_l106 x1 x4 x5 x6 x7 q.1 q.2) zF (x8, v_number) = some o0) (hK : ZV p l e rm_Md_addOr s m args below meth c 9 D (none) [(h_this, .inr (5, [.int v_thrown, .int v_wires, .int v_isOpen, .int v_isEmpty, .int v_came, .int v_there, .int v_halves, .ref h_this_number, .ref h_this_set, .ref h_this_constant, .int v_rules, .ref h_this_ruleKind, .ref h_this_ruleBit, .ref h_this_ruleOther, .int v_alone, .int v_halfBits, .ref h_this_oldSet, .ref h_this_oldNumber, .ref h_this_allSets, .ref h_this_allNumbers, .int v_allMany, .ref h_this_root])), (h_this_number, .inl (cI, 15625, .inl o_number))] [h_this, h_this_number] [(h_this, .inr (5, [.int v_thrown, .int v_wires, .int v_isOpen, .int v_isEmpty, .int v_came, .int v_there, .int v_halves, .ref h_this_number, .ref h_this_set, .ref h_this_constant, .int v_rules, .ref h_this_ruleKind, .ref h_this_ruleBit, .ref h_this_ruleOther, .int v_alone, .int v_halfBits, .ref h_this_oldSet, .ref h_this_oldNumber, .ref h_this_allSets, .ref h_this_allNumbers, .int v_allMany, .ref h_this_root])), (h_this_number, .inl (cI, 15625, .inl o0))] 154 [(0, .ref h_this), (1, .int x1), (4, .int x4), (5, .int x5), (6, .int x6), (7, .int x7)] []) : ZV p l e rm_Md_addOr s m args below meth c 9 D (none) [(h_this, .inr (5, [.int v_thrown, .int v_wires, .int v_isOpen, .int v_isEmpty, .int v_came, .int v_there, .int v_halves, .ref h_this_number, .ref h_this_set, .ref h_this_constant, .int v_rules, .ref h_this_ruleKind, .ref h_this_ruleBit, .ref h_this_ruleOther, .int v_alone, .int v_halfBits, .ref h_this_oldSet, .ref h_this_oldNumber, .ref h_this_allSets, .ref h_this_allNumbers, .int v_allMany, .ref h_this_root])), (h_this_number, .inl (cI, 15625, .inl o_number))] [h_this, h_this_number] [(h_this, .inr (5, [.int v_thrown, .int v_wires, .int v_isOpen, .int v_isEmpty, .int v_came, .int v_there, .int v_halves, .ref h_this_number, .ref h_this_set, .ref h_this_constant, .int v_rules, .ref h_this_ruleKind, .ref h_this_ruleBit, .ref h_this_ruleOther, .int v_alone, .int v_halfBits, .ref h_this_oldSet, .ref h_this_oldNumber, .ref h_this_allSets, .ref h_this_allNumbers, .int v_allMany, .ref h_this_root])), (h_this_number, .inl (cI, 15625, .inl v_number))] 106 [(0, .ref h_this), (1, .int x1), (4, .int x4), (5, .int x5), (6, .int x6), (7, .int x7), (8, .int x8)] [] :=
  zloop_run (P := fun q => ZV p l e rm_Md_addOr s m args below meth c 9 D (none) [(h_this, .inr (5, [.int v_thrown, .int v_wires, .int v_isOpen, .int v_isEmpty, .int v_came, .int v_there, .int v_halves, .ref h_this_number, .ref h_this_set, .ref h_this_constant, .int v_rules, .ref h_this_ruleKind, .ref h_this_ruleBit, .ref h_this_ruleOther, .int v_alone, .int v_halfBits, .ref h_this_oldSet, .ref h_this_oldNumber, .ref h_this_allSets, .ref h_this_allNumbers, .int v_allMany, .ref h_this_root])), (h_this_number, .inl (cI, 15625, .inl o_number))] [h_this, h_this_number] [(h_this, .inr (5, [.int v_thrown, .int v_wires, .int v_isOpen, .int v_isEmpty, .int v_came, .int v_there, .int v_halves, .ref h_this_number, .ref h_this_set, .ref h_this_constant, .int v_rules, .ref h_this_ruleKind, .ref h_this_ruleBit, .ref h_this_ruleOther, .int v_alone, .int v_halfBits, .ref h_this_oldSet, .ref h_this_oldNumber, .ref h_this_allSets, .ref h_this_allNumbers, .int v_allMany, .ref h_this_root])), (h_this_number, .inl (cI, 15625, .inl q.2))] 106 [(0, .ref h_this), (1, .int x1), (4, .int x4), (5, .int x5), (6, .int x6), (7, .int x7), (8, .int q.1)] []) (K := (fun q => ZV p l e rm_Md_addOr s m args below meth c 9 D (none) [(h_this, .inr (5, [.int v_thrown, .int v_wires, .int v_isOpen, .int v_isEmpty, .int v_came, .int v_there, .int v_halves, .ref h_this_number, .ref h_this_set, .ref h_this_constant, .int v_rules, .ref h_this_ruleKind, .ref h_this_ruleBit, .ref h_this_ruleOther, .int v_alone, .int v_halfBits, .ref h_this_oldSet, .ref h_this_oldNumber, .ref h_this_allSets, .ref h_this_allNumbers, .int v_allMany, .ref h_this_root])), (h_this_number, .inl (cI, 15625, .inl o_number))] [h_this, h_this_number] [(h_this, .inr (5, [.int v_thrown, .int v_wires, .int v_isOpen, .int v_isEmpty, .int v_came, .int v_there, .int v_halves, .ref h_this_number, .ref h_this_set, .ref h_this_constant, .int v_rules, .ref h_this_ruleKind, .ref h_this_ruleBit, .ref h_this_ruleOther, .int v_alone, .int v_halfBits, .ref h_this_oldSet, .ref h_this_oldNumber, .ref h_this_allSets, .ref h_this_allNumbers, .int v_allMany, .ref h_this_root])), (h_this_number, .inl (cI, 15625, .inl q))] 154 [(0, .ref h_this), (1, .int x1), (4, .int x4), (5, .int x5), (6, .int x6), (7, .int x7)] [])) (fun q z hz hK => k_Md_addOr_l106 C hr hz hK) zF _ (o0) hf hK
def f_Md_addOr_l63 (x1 : Int32) (x4 : Int32) (x5 : Int32) (x6 : Int32) (x7 : Int32) (v_number : Nat → Int32) : Option ((Int32 × (Nat → Int32)) ⊕ ((Nat → Int32))) :=
  if x6 ≤ x7 then (
    some (.inr (v_number)))
  else (
    if ((x1 >>> (x7 &&& 31)) &&& (1 : Int32)) = 0 then (
      zlet (x7 + 1) fun y_3 =>
      some (.inl (y_3, v_number)))
    else (
      zb1 (f_Md_add ((x4 ||| ((1 : Int32) <<< (x6 &&& 31))) ||| ((1 : Int32) <<< (x7 &&& 31))) ((-2 : Int32) * x5) v_number) fun q_5 =>
      zb1 (zloop (fun q => f_Md_addOr_l106 x1 x4 x5 x6 x7 q.1 q.2) zF ((0 : Int32), q_5)) fun q_6 =>
      zlet (x7 + 1) fun y_8 =>
      some (.inl (y_8, q_6))))
set_option maxRecDepth 100000 in
set_option maxHeartbeats 4000000 in
theorem k_Md_addOr_l63 {p : Program} {l : Launch} {e : Env} {s : State} {m : MethodId} {args : Array Value} {below : List Frame} {meth : Method} {c : Code} {D : va_G} {cI cL : ClassId} {h_this h_this_number h_this_set h_this_constant h_this_ruleKind h_this_ruleBit h_this_ruleOther h_this_oldSet h_this_oldNumber h_this_allSets h_this_allNumbers h_this_root : Nat} {v_thrown v_wires v_isOpen v_isEmpty v_came v_there v_halves v_rules v_alone v_halfBits v_allMany x1 x4 x5 x6 x7 : Int32} {v_number o_number : Nat → Int32} (C : zC p s m args meth c b_Md_addOr 9 R_Md D vwCl [(cI, .int), (cL, .long)] (zA [h_this, h_this_number] s.heap.size)) (hr : meth.sig.returnType = none) {z : (Int32 × (Nat → Int32)) ⊕ ((Nat → Int32))} (hf : f_Md_addOr_l63 x1 x4 x5 x6 x7 v_number = some z) (hK : zcase (fun q => ZV p l e rm_Md_addOr s m args below meth c 9 D (none) [(h_this, .inr (5, [.int v_thrown, .int v_wires, .int v_isOpen, .int v_isEmpty, .int v_came, .int v_there, .int v_halves, .ref h_this_number, .ref h_this_set, .ref h_this_constant, .int v_rules, .ref h_this_ruleKind, .ref h_this_ruleBit, .ref h_this_ruleOther, .int v_alone, .int v_halfBits, .ref h_this_oldSet, .ref h_this_oldNumber, .ref h_this_allSets, .ref h_this_allNumbers, .int v_allMany, .ref h_this_root])), (h_this_number, .inl (cI, 15625, .inl o_number))] [h_this, h_this_number] [(h_this, .inr (5, [.int v_thrown, .int v_wires, .int v_isOpen, .int v_isEmpty, .int v_came, .int v_there, .int v_halves, .ref h_this_number, .ref h_this_set, .ref h_this_constant, .int v_rules, .ref h_this_ruleKind, .ref h_this_ruleBit, .ref h_this_ruleOther, .int v_alone, .int v_halfBits, .ref h_this_oldSet, .ref h_this_oldNumber, .ref h_this_allSets, .ref h_this_allNumbers, .int v_allMany, .ref h_this_root])), (h_this_number, .inl (cI, 15625, .inl q.2))] 63 [(0, .ref h_this), (1, .int x1), (4, .int x4), (5, .int x5), (6, .int x6), (7, .int q.1)] []) (fun q => ZV p l e rm_Md_addOr s m args below meth c 9 D (none) [(h_this, .inr (5, [.int v_thrown, .int v_wires, .int v_isOpen, .int v_isEmpty, .int v_came, .int v_there, .int v_halves, .ref h_this_number, .ref h_this_set, .ref h_this_constant, .int v_rules, .ref h_this_ruleKind, .ref h_this_ruleBit, .ref h_this_ruleOther, .int v_alone, .int v_halfBits, .ref h_this_oldSet, .ref h_this_oldNumber, .ref h_this_allSets, .ref h_this_allNumbers, .int v_allMany, .ref h_this_root])), (h_this_number, .inl (cI, 15625, .inl o_number))] [h_this, h_this_number] [(h_this, .inr (5, [.int v_thrown, .int v_wires, .int v_isOpen, .int v_isEmpty, .int v_came, .int v_there, .int v_halves, .ref h_this_number, .ref h_this_set, .ref h_this_constant, .int v_rules, .ref h_this_ruleKind, .ref h_this_ruleBit, .ref h_this_ruleOther, .int v_alone, .int v_halfBits, .ref h_this_oldSet, .ref h_this_oldNumber, .ref h_this_allSets, .ref h_this_allNumbers, .int v_allMany, .ref h_this_root])), (h_this_number, .inl (cI, 15625, .inl q))] 160 [(0, .ref h_this), (1, .int x1), (4, .int x4), (5, .int x5), (6, .int x6)] []) z) : ZV p l e rm_Md_addOr s m args below meth c 9 D (none) [(h_this, .inr (5, [.int v_thrown, .int v_wires, .int v_isOpen, .int v_isEmpty, .int v_came, .int v_there, .int v_halves, .ref h_this_number, .ref h_this_set, .ref h_this_constant, .int v_rules, .ref h_this_ruleKind, .ref h_this_ruleBit, .ref h_this_ruleOther, .int v_alone, .int v_halfBits, .ref h_this_oldSet, .ref h_this_oldNumber, .ref h_this_allSets, .ref h_this_allNumbers, .int v_allMany, .ref h_this_root])), (h_this_number, .inl (cI, 15625, .inl o_number))] [h_this, h_this_number] [(h_this, .inr (5, [.int v_thrown, .int v_wires, .int v_isOpen, .int v_isEmpty, .int v_came, .int v_there, .int v_halves, .ref h_this_number, .ref h_this_set, .ref h_this_constant, .int v_rules, .ref h_this_ruleKind, .ref h_this_ruleBit, .ref h_this_ruleOther, .int v_alone, .int v_halfBits, .ref h_this_oldSet, .ref h_this_oldNumber, .ref h_this_allSets, .ref h_this_allNumbers, .int v_allMany, .ref h_this_root])), (h_this_number, .inl (cI, 15625, .inl v_number))] 63 [(0, .ref h_this), (1, .int x1), (4, .int x4), (5, .int x5), (6, .int x6), (7, .int x7)] [] := by
  unfold f_Md_addOr_l63 at hf
  refine z_iload C d_Md_addOr_63 5 rfl ?_
  refine z_iload C d_Md_addOr_65 4 rfl ?_
  refine z_icmp_ge (tgt := 160) C d_Md_addOr_67 (by decide) (fun c_1 => ?_) (fun c_1 => ?_)
  · have hf := zif_pos c_1 hf
    refine z_lv [0, 1, 2, 3, 4] rfl ?_
    cases hf
    exact hK
  · have hf := zif_neg c_1 hf
    refine z_iload_n C d_Md_addOr_70 rfl 1 rfl ?_
    refine z_iload C d_Md_addOr_71 5 rfl ?_
    refine z_ishr C d_Md_addOr_73 ?_
    refine z_iconst (v := 1) C d_Md_addOr_74 (by decide) ?_
    refine z_iand C d_Md_addOr_75 ?_
    refine z_if_ne (tgt := 82) C d_Md_addOr_76 (by decide) (fun c_2 => ?_) (fun c_2 => ?_)
    · have hf := zif_neg c_2 hf
      refine z_aload_n C d_Md_addOr_82 rfl 0 rfl ?_
      refine z_iload C d_Md_addOr_83 2 rfl ?_
      refine z_iconst (v := 1) C d_Md_addOr_85 (by decide) ?_
      refine z_iload C d_Md_addOr_86 4 rfl ?_
      refine z_ishl C d_Md_addOr_88 ?_
      refine z_ior C d_Md_addOr_89 ?_
      refine z_iconst (v := 1) C d_Md_addOr_90 (by decide) ?_
      refine z_iload C d_Md_addOr_91 5 rfl ?_
      refine z_ishl C d_Md_addOr_93 ?_
      refine z_ior C d_Md_addOr_94 ?_
      refine z_bipush (v := -2) C d_Md_addOr_95 (by decide) ?_
      refine z_iload C d_Md_addOr_97 3 rfl ?_
      refine z_imul C d_Md_addOr_99 ?_
      obtain ⟨q_5, h_4, hf⟩ := zb1_elim hf
      refine z_callV (As := [.int ((x4 ||| ((1 : Int32) <<< (x6 &&& 31))) ||| ((1 : Int32) <<< (x7 &&& 31))), .int ((-2 : Int32) * x5)]) (rest := []) (ws' := [(h_this, .inr (5, [.int v_thrown, .int v_wires, .int v_isOpen, .int v_isEmpty, .int v_came, .int v_there, .int v_halves, .ref h_this_number, .ref h_this_set, .ref h_this_constant, .int v_rules, .ref h_this_ruleKind, .ref h_this_ruleBit, .ref h_this_ruleOther, .int v_alone, .int v_halfBits, .ref h_this_oldSet, .ref h_this_oldNumber, .ref h_this_allSets, .ref h_this_allNumbers, .int v_allMany, .ref h_this_root])), (h_this_number, .inl (cI, 15625, .inl q_5))]) C (c_Md_add h_4) mi_Md_add zw_601 (by decide) 0 rfl rfl [0, 1] (by decide) rfl rfl rfl rfl rfl (by decide) ⟨Nat.zero_le _, Nat.zero_le _⟩ d_Md_addOr_100 ?_
      refine z_iconst (v := 0) C d_Md_addOr_103 (by decide) ?_
      refine z_istore (lv' := [(8, .int (0 : Int32)), (0, .ref h_this), (1, .int x1), (4, .int x4), (5, .int x5), (6, .int x6), (7, .int x7)]) C d_Md_addOr_104 (by decide) rfl ?_
      refine z_lv [1, 2, 3, 4, 5, 6, 0] rfl ?_
      obtain ⟨q_6, h_7, hf⟩ := zb1_elim hf
      refine k_Md_addOr_l106_run C hr h_7 ?_
      obtain ⟨y_8, ey_8⟩ : ∃ y : Int32, y = x7 + 1 := ⟨_, rfl⟩
      have hf := zlet_at ey_8 hf
      refine z_iinc (v := y_8) (lv' := [(7, .int y_8), (0, .ref h_this), (1, .int x1), (4, .int x4), (5, .int x5), (6, .int x6)]) C d_Md_addOr_154 (k := 5) rfl (by rw [ey_8]; rfl) (by decide) rfl ?_
      refine z_goto (tgt := 63) C d_Md_addOr_157 (by decide) ?_
      refine z_lv [1, 2, 3, 4, 5, 0] rfl ?_
      cases hf
      exact hK
    · have hf := zif_pos c_2 hf
      refine z_goto (tgt := 154) C d_Md_addOr_79 (by decide) ?_
      obtain ⟨y_3, ey_3⟩ : ∃ y : Int32, y = x7 + 1 := ⟨_, rfl⟩
      have hf := zlet_at ey_3 hf
      refine z_iinc (v := y_3) (lv' := [(7, .int y_3), (0, .ref h_this), (1, .int x1), (4, .int x4), (5, .int x5), (6, .int x6)]) C d_Md_addOr_154 (k := 5) rfl (by rw [ey_3]; rfl) (by decide) rfl ?_
      refine z_goto (tgt := 63) C d_Md_addOr_157 (by decide) ?_
      refine z_lv [1, 2, 3, 4, 5, 0] rfl ?_
      cases hf
      exact hK
theorem k_Md_addOr_l63_run {p : Program} {l : Launch} {e : Env} {s : State} {m : MethodId} {args : Array Value} {below : List Frame} {meth : Method} {c : Code} {D : va_G} {cI cL : ClassId} {h_this h_this_number h_this_set h_this_constant h_this_ruleKind h_this_ruleBit h_this_ruleOther h_this_oldSet h_this_oldNumber h_this_allSets h_this_allNumbers h_this_root : Nat} {v_thrown v_wires v_isOpen v_isEmpty v_came v_there v_halves v_rules v_alone v_halfBits v_allMany x1 x4 x5 x6 x7 : Int32} {v_number o_number : Nat → Int32} (C : zC p s m args meth c b_Md_addOr 9 R_Md D vwCl [(cI, .int), (cL, .long)] (zA [h_this, h_this_number] s.heap.size)) (hr : meth.sig.returnType = none) {o0 : Nat → Int32} (hf : zloop (fun q => f_Md_addOr_l63 x1 x4 x5 x6 q.1 q.2) zF (x7, v_number) = some o0) (hK : ZV p l e rm_Md_addOr s m args below meth c 9 D (none) [(h_this, .inr (5, [.int v_thrown, .int v_wires, .int v_isOpen, .int v_isEmpty, .int v_came, .int v_there, .int v_halves, .ref h_this_number, .ref h_this_set, .ref h_this_constant, .int v_rules, .ref h_this_ruleKind, .ref h_this_ruleBit, .ref h_this_ruleOther, .int v_alone, .int v_halfBits, .ref h_this_oldSet, .ref h_this_oldNumber, .ref h_this_allSets, .ref h_this_allNumbers, .int v_allMany, .ref h_this_root])), (h_this_number, .inl (cI, 15625, .inl o_number))] [h_this, h_this_number] [(h_this, .inr (5, [.int v_thrown, .int v_wires, .int v_isOpen, .int v_isEmpty, .int v_came, .int v_there, .int v_halves, .ref h_this_number, .ref h_this_set, .ref h_this_constant, .int v_rules, .ref h_this_ruleKind, .ref h_this_ruleBit, .ref h_this_ruleOther, .int v_alone, .int v_halfBits, .ref h_this_oldSet, .ref h_this_oldNumber, .ref h_this_allSets, .ref h_this_allNumbers, .int v_allMany, .ref h_this_root])), (h_this_number, .inl (cI, 15625, .inl o0))] 160 [(0, .ref h_this), (1, .int x1), (4, .int x4), (5, .int x5), (6, .int x6)] []) : ZV p l e rm_Md_addOr s m args below meth c 9 D (none) [(h_this, .inr (5, [.int v_thrown, .int v_wires, .int v_isOpen, .int v_isEmpty, .int v_came, .int v_there, .int v_halves, .ref h_this_number, .ref h_this_set, .ref h_this_constant, .int v_rules, .ref h_this_ruleKind, .ref h_this_ruleBit, .ref h_this_ruleOther, .int v_alone, .int v_halfBits, .ref h_this_oldSet, .ref h_this_oldNumber, .ref h_this_allSets, .ref h_this_allNumbers, .int v_allMany, .ref h_this_root])), (h_this_number, .inl (cI, 15625, .inl o_number))] [h_this, h_this_number] [(h_this, .inr (5, [.int v_thrown, .int v_wires, .int v_isOpen, .int v_isEmpty, .int v_came, .int v_there, .int v_halves, .ref h_this_number, .ref h_this_set, .ref h_this_constant, .int v_rules, .ref h_this_ruleKind, .ref h_this_ruleBit, .ref h_this_ruleOther, .int v_alone, .int v_halfBits, .ref h_this_oldSet, .ref h_this_oldNumber, .ref h_this_allSets, .ref h_this_allNumbers, .int v_allMany, .ref h_this_root])), (h_this_number, .inl (cI, 15625, .inl v_number))] 63 [(0, .ref h_this), (1, .int x1), (4, .int x4), (5, .int x5), (6, .int x6), (7, .int x7)] [] :=
  zloop_run (P := fun q => ZV p l e rm_Md_addOr s m args below meth c 9 D (none) [(h_this, .inr (5, [.int v_thrown, .int v_wires, .int v_isOpen, .int v_isEmpty, .int v_came, .int v_there, .int v_halves, .ref h_this_number, .ref h_this_set, .ref h_this_constant, .int v_rules, .ref h_this_ruleKind, .ref h_this_ruleBit, .ref h_this_ruleOther, .int v_alone, .int v_halfBits, .ref h_this_oldSet, .ref h_this_oldNumber, .ref h_this_allSets, .ref h_this_allNumbers, .int v_allMany, .ref h_this_root])), (h_this_number, .inl (cI, 15625, .inl o_number))] [h_this, h_this_number] [(h_this, .inr (5, [.int v_thrown, .int v_wires, .int v_isOpen, .int v_isEmpty, .int v_came, .int v_there, .int v_halves, .ref h_this_number, .ref h_this_set, .ref h_this_constant, .int v_rules, .ref h_this_ruleKind, .ref h_this_ruleBit, .ref h_this_ruleOther, .int v_alone, .int v_halfBits, .ref h_this_oldSet, .ref h_this_oldNumber, .ref h_this_allSets, .ref h_this_allNumbers, .int v_allMany, .ref h_this_root])), (h_this_number, .inl (cI, 15625, .inl q.2))] 63 [(0, .ref h_this), (1, .int x1), (4, .int x4), (5, .int x5), (6, .int x6), (7, .int q.1)] []) (K := (fun q => ZV p l e rm_Md_addOr s m args below meth c 9 D (none) [(h_this, .inr (5, [.int v_thrown, .int v_wires, .int v_isOpen, .int v_isEmpty, .int v_came, .int v_there, .int v_halves, .ref h_this_number, .ref h_this_set, .ref h_this_constant, .int v_rules, .ref h_this_ruleKind, .ref h_this_ruleBit, .ref h_this_ruleOther, .int v_alone, .int v_halfBits, .ref h_this_oldSet, .ref h_this_oldNumber, .ref h_this_allSets, .ref h_this_allNumbers, .int v_allMany, .ref h_this_root])), (h_this_number, .inl (cI, 15625, .inl o_number))] [h_this, h_this_number] [(h_this, .inr (5, [.int v_thrown, .int v_wires, .int v_isOpen, .int v_isEmpty, .int v_came, .int v_there, .int v_halves, .ref h_this_number, .ref h_this_set, .ref h_this_constant, .int v_rules, .ref h_this_ruleKind, .ref h_this_ruleBit, .ref h_this_ruleOther, .int v_alone, .int v_halfBits, .ref h_this_oldSet, .ref h_this_oldNumber, .ref h_this_allSets, .ref h_this_allNumbers, .int v_allMany, .ref h_this_root])), (h_this_number, .inl (cI, 15625, .inl q))] 160 [(0, .ref h_this), (1, .int x1), (4, .int x4), (5, .int x5), (6, .int x6)] [])) (fun q z hz hK => k_Md_addOr_l63 C hr hz hK) zF _ (o0) hf hK
def f_Md_addOr_l28 (x1 : Int32) (x4 : Int32) (x5 : Int32) (x6 : Int32) (v_number : Nat → Int32) : Option ((Int32 × (Nat → Int32)) ⊕ ((Nat → Int32))) :=
  if (24 : Int32) ≤ x6 then (
    some (.inr (v_number)))
  else (
    if ((x1 >>> (x6 &&& 31)) &&& (1 : Int32)) = 0 then (
      zlet (x6 + 1) fun y_3 =>
      some (.inl (y_3, v_number)))
    else (
      zb1 (f_Md_add (x4 ||| ((1 : Int32) <<< (x6 &&& 31))) x5 v_number) fun q_5 =>
      zb1 (zloop (fun q => f_Md_addOr_l63 x1 x4 x5 x6 q.1 q.2) zF ((0 : Int32), q_5)) fun q_6 =>
      zlet (x6 + 1) fun y_8 =>
      some (.inl (y_8, q_6))))
set_option maxRecDepth 100000 in
set_option maxHeartbeats 4000000 in
theorem k_Md_addOr_l28 {p : Program} {l : Launch} {e : Env} {s : State} {m : MethodId} {args : Array Value} {below : List Frame} {meth : Method} {c : Code} {D : va_G} {cI cL : ClassId} {h_this h_this_number h_this_set h_this_constant h_this_ruleKind h_this_ruleBit h_this_ruleOther h_this_oldSet h_this_oldNumber h_this_allSets h_this_allNumbers h_this_root : Nat} {v_thrown v_wires v_isOpen v_isEmpty v_came v_there v_halves v_rules v_alone v_halfBits v_allMany x1 x4 x5 x6 : Int32} {v_number o_number : Nat → Int32} (C : zC p s m args meth c b_Md_addOr 9 R_Md D vwCl [(cI, .int), (cL, .long)] (zA [h_this, h_this_number] s.heap.size)) (hr : meth.sig.returnType = none) {z : (Int32 × (Nat → Int32)) ⊕ ((Nat → Int32))} (hf : f_Md_addOr_l28 x1 x4 x5 x6 v_number = some z) (hK : zcase (fun q => ZV p l e rm_Md_addOr s m args below meth c 9 D (none) [(h_this, .inr (5, [.int v_thrown, .int v_wires, .int v_isOpen, .int v_isEmpty, .int v_came, .int v_there, .int v_halves, .ref h_this_number, .ref h_this_set, .ref h_this_constant, .int v_rules, .ref h_this_ruleKind, .ref h_this_ruleBit, .ref h_this_ruleOther, .int v_alone, .int v_halfBits, .ref h_this_oldSet, .ref h_this_oldNumber, .ref h_this_allSets, .ref h_this_allNumbers, .int v_allMany, .ref h_this_root])), (h_this_number, .inl (cI, 15625, .inl o_number))] [h_this, h_this_number] [(h_this, .inr (5, [.int v_thrown, .int v_wires, .int v_isOpen, .int v_isEmpty, .int v_came, .int v_there, .int v_halves, .ref h_this_number, .ref h_this_set, .ref h_this_constant, .int v_rules, .ref h_this_ruleKind, .ref h_this_ruleBit, .ref h_this_ruleOther, .int v_alone, .int v_halfBits, .ref h_this_oldSet, .ref h_this_oldNumber, .ref h_this_allSets, .ref h_this_allNumbers, .int v_allMany, .ref h_this_root])), (h_this_number, .inl (cI, 15625, .inl q.2))] 28 [(0, .ref h_this), (1, .int x1), (4, .int x4), (5, .int x5), (6, .int q.1)] []) (fun q => ZV p l e rm_Md_addOr s m args below meth c 9 D (none) [(h_this, .inr (5, [.int v_thrown, .int v_wires, .int v_isOpen, .int v_isEmpty, .int v_came, .int v_there, .int v_halves, .ref h_this_number, .ref h_this_set, .ref h_this_constant, .int v_rules, .ref h_this_ruleKind, .ref h_this_ruleBit, .ref h_this_ruleOther, .int v_alone, .int v_halfBits, .ref h_this_oldSet, .ref h_this_oldNumber, .ref h_this_allSets, .ref h_this_allNumbers, .int v_allMany, .ref h_this_root])), (h_this_number, .inl (cI, 15625, .inl o_number))] [h_this, h_this_number] [(h_this, .inr (5, [.int v_thrown, .int v_wires, .int v_isOpen, .int v_isEmpty, .int v_came, .int v_there, .int v_halves, .ref h_this_number, .ref h_this_set, .ref h_this_constant, .int v_rules, .ref h_this_ruleKind, .ref h_this_ruleBit, .ref h_this_ruleOther, .int v_alone, .int v_halfBits, .ref h_this_oldSet, .ref h_this_oldNumber, .ref h_this_allSets, .ref h_this_allNumbers, .int v_allMany, .ref h_this_root])), (h_this_number, .inl (cI, 15625, .inl q))] 166 [] []) z) : ZV p l e rm_Md_addOr s m args below meth c 9 D (none) [(h_this, .inr (5, [.int v_thrown, .int v_wires, .int v_isOpen, .int v_isEmpty, .int v_came, .int v_there, .int v_halves, .ref h_this_number, .ref h_this_set, .ref h_this_constant, .int v_rules, .ref h_this_ruleKind, .ref h_this_ruleBit, .ref h_this_ruleOther, .int v_alone, .int v_halfBits, .ref h_this_oldSet, .ref h_this_oldNumber, .ref h_this_allSets, .ref h_this_allNumbers, .int v_allMany, .ref h_this_root])), (h_this_number, .inl (cI, 15625, .inl o_number))] [h_this, h_this_number] [(h_this, .inr (5, [.int v_thrown, .int v_wires, .int v_isOpen, .int v_isEmpty, .int v_came, .int v_there, .int v_halves, .ref h_this_number, .ref h_this_set, .ref h_this_constant, .int v_rules, .ref h_this_ruleKind, .ref h_this_ruleBit, .ref h_this_ruleOther, .int v_alone, .int v_halfBits, .ref h_this_oldSet, .ref h_this_oldNumber, .ref h_this_allSets, .ref h_this_allNumbers, .int v_allMany, .ref h_this_root])), (h_this_number, .inl (cI, 15625, .inl v_number))] 28 [(0, .ref h_this), (1, .int x1), (4, .int x4), (5, .int x5), (6, .int x6)] [] := by
  unfold f_Md_addOr_l28 at hf
  refine z_iload C d_Md_addOr_28 4 rfl ?_
  refine z_bipush (v := 24) C d_Md_addOr_30 (by decide) ?_
  refine z_icmp_ge (tgt := 166) C d_Md_addOr_32 (by decide) (fun c_1 => ?_) (fun c_1 => ?_)
  · have hf := zif_pos c_1 hf
    refine z_lv [] rfl ?_
    cases hf
    exact hK
  · have hf := zif_neg c_1 hf
    refine z_iload_n C d_Md_addOr_35 rfl 1 rfl ?_
    refine z_iload C d_Md_addOr_36 4 rfl ?_
    refine z_ishr C d_Md_addOr_38 ?_
    refine z_iconst (v := 1) C d_Md_addOr_39 (by decide) ?_
    refine z_iand C d_Md_addOr_40 ?_
    refine z_if_ne (tgt := 47) C d_Md_addOr_41 (by decide) (fun c_2 => ?_) (fun c_2 => ?_)
    · have hf := zif_neg c_2 hf
      refine z_aload_n C d_Md_addOr_47 rfl 0 rfl ?_
      refine z_iload C d_Md_addOr_48 2 rfl ?_
      refine z_iconst (v := 1) C d_Md_addOr_50 (by decide) ?_
      refine z_iload C d_Md_addOr_51 4 rfl ?_
      refine z_ishl C d_Md_addOr_53 ?_
      refine z_ior C d_Md_addOr_54 ?_
      refine z_iload C d_Md_addOr_55 3 rfl ?_
      obtain ⟨q_5, h_4, hf⟩ := zb1_elim hf
      refine z_callV (As := [.int (x4 ||| ((1 : Int32) <<< (x6 &&& 31))), .int x5]) (rest := []) (ws' := [(h_this, .inr (5, [.int v_thrown, .int v_wires, .int v_isOpen, .int v_isEmpty, .int v_came, .int v_there, .int v_halves, .ref h_this_number, .ref h_this_set, .ref h_this_constant, .int v_rules, .ref h_this_ruleKind, .ref h_this_ruleBit, .ref h_this_ruleOther, .int v_alone, .int v_halfBits, .ref h_this_oldSet, .ref h_this_oldNumber, .ref h_this_allSets, .ref h_this_allNumbers, .int v_allMany, .ref h_this_root])), (h_this_number, .inl (cI, 15625, .inl q_5))]) C (c_Md_add h_4) mi_Md_add zw_601 (by decide) 0 rfl rfl [0, 1] (by decide) rfl rfl rfl rfl rfl (by decide) ⟨Nat.zero_le _, Nat.zero_le _⟩ d_Md_addOr_57 ?_
      refine z_iconst (v := 0) C d_Md_addOr_60 (by decide) ?_
      refine z_istore (lv' := [(7, .int (0 : Int32)), (0, .ref h_this), (1, .int x1), (4, .int x4), (5, .int x5), (6, .int x6)]) C d_Md_addOr_61 (by decide) rfl ?_
      refine z_lv [1, 2, 3, 4, 5, 0] rfl ?_
      obtain ⟨q_6, h_7, hf⟩ := zb1_elim hf
      refine k_Md_addOr_l63_run C hr h_7 ?_
      obtain ⟨y_8, ey_8⟩ : ∃ y : Int32, y = x6 + 1 := ⟨_, rfl⟩
      have hf := zlet_at ey_8 hf
      refine z_iinc (v := y_8) (lv' := [(6, .int y_8), (0, .ref h_this), (1, .int x1), (4, .int x4), (5, .int x5)]) C d_Md_addOr_160 (k := 4) rfl (by rw [ey_8]; rfl) (by decide) rfl ?_
      refine z_goto (tgt := 28) C d_Md_addOr_163 (by decide) ?_
      refine z_lv [1, 2, 3, 4, 0] rfl ?_
      cases hf
      exact hK
    · have hf := zif_pos c_2 hf
      refine z_goto (tgt := 160) C d_Md_addOr_44 (by decide) ?_
      obtain ⟨y_3, ey_3⟩ : ∃ y : Int32, y = x6 + 1 := ⟨_, rfl⟩
      have hf := zlet_at ey_3 hf
      refine z_iinc (v := y_3) (lv' := [(6, .int y_3), (0, .ref h_this), (1, .int x1), (4, .int x4), (5, .int x5)]) C d_Md_addOr_160 (k := 4) rfl (by rw [ey_3]; rfl) (by decide) rfl ?_
      refine z_goto (tgt := 28) C d_Md_addOr_163 (by decide) ?_
      refine z_lv [1, 2, 3, 4, 0] rfl ?_
      cases hf
      exact hK
theorem k_Md_addOr_l28_run {p : Program} {l : Launch} {e : Env} {s : State} {m : MethodId} {args : Array Value} {below : List Frame} {meth : Method} {c : Code} {D : va_G} {cI cL : ClassId} {h_this h_this_number h_this_set h_this_constant h_this_ruleKind h_this_ruleBit h_this_ruleOther h_this_oldSet h_this_oldNumber h_this_allSets h_this_allNumbers h_this_root : Nat} {v_thrown v_wires v_isOpen v_isEmpty v_came v_there v_halves v_rules v_alone v_halfBits v_allMany x1 x4 x5 x6 : Int32} {v_number o_number : Nat → Int32} (C : zC p s m args meth c b_Md_addOr 9 R_Md D vwCl [(cI, .int), (cL, .long)] (zA [h_this, h_this_number] s.heap.size)) (hr : meth.sig.returnType = none) {o0 : Nat → Int32} (hf : zloop (fun q => f_Md_addOr_l28 x1 x4 x5 q.1 q.2) zF (x6, v_number) = some o0) (hK : ZV p l e rm_Md_addOr s m args below meth c 9 D (none) [(h_this, .inr (5, [.int v_thrown, .int v_wires, .int v_isOpen, .int v_isEmpty, .int v_came, .int v_there, .int v_halves, .ref h_this_number, .ref h_this_set, .ref h_this_constant, .int v_rules, .ref h_this_ruleKind, .ref h_this_ruleBit, .ref h_this_ruleOther, .int v_alone, .int v_halfBits, .ref h_this_oldSet, .ref h_this_oldNumber, .ref h_this_allSets, .ref h_this_allNumbers, .int v_allMany, .ref h_this_root])), (h_this_number, .inl (cI, 15625, .inl o_number))] [h_this, h_this_number] [(h_this, .inr (5, [.int v_thrown, .int v_wires, .int v_isOpen, .int v_isEmpty, .int v_came, .int v_there, .int v_halves, .ref h_this_number, .ref h_this_set, .ref h_this_constant, .int v_rules, .ref h_this_ruleKind, .ref h_this_ruleBit, .ref h_this_ruleOther, .int v_alone, .int v_halfBits, .ref h_this_oldSet, .ref h_this_oldNumber, .ref h_this_allSets, .ref h_this_allNumbers, .int v_allMany, .ref h_this_root])), (h_this_number, .inl (cI, 15625, .inl o0))] 166 [] []) : ZV p l e rm_Md_addOr s m args below meth c 9 D (none) [(h_this, .inr (5, [.int v_thrown, .int v_wires, .int v_isOpen, .int v_isEmpty, .int v_came, .int v_there, .int v_halves, .ref h_this_number, .ref h_this_set, .ref h_this_constant, .int v_rules, .ref h_this_ruleKind, .ref h_this_ruleBit, .ref h_this_ruleOther, .int v_alone, .int v_halfBits, .ref h_this_oldSet, .ref h_this_oldNumber, .ref h_this_allSets, .ref h_this_allNumbers, .int v_allMany, .ref h_this_root])), (h_this_number, .inl (cI, 15625, .inl o_number))] [h_this, h_this_number] [(h_this, .inr (5, [.int v_thrown, .int v_wires, .int v_isOpen, .int v_isEmpty, .int v_came, .int v_there, .int v_halves, .ref h_this_number, .ref h_this_set, .ref h_this_constant, .int v_rules, .ref h_this_ruleKind, .ref h_this_ruleBit, .ref h_this_ruleOther, .int v_alone, .int v_halfBits, .ref h_this_oldSet, .ref h_this_oldNumber, .ref h_this_allSets, .ref h_this_allNumbers, .int v_allMany, .ref h_this_root])), (h_this_number, .inl (cI, 15625, .inl v_number))] 28 [(0, .ref h_this), (1, .int x1), (4, .int x4), (5, .int x5), (6, .int x6)] [] :=
  zloop_run (P := fun q => ZV p l e rm_Md_addOr s m args below meth c 9 D (none) [(h_this, .inr (5, [.int v_thrown, .int v_wires, .int v_isOpen, .int v_isEmpty, .int v_came, .int v_there, .int v_halves, .ref h_this_number, .ref h_this_set, .ref h_this_constant, .int v_rules, .ref h_this_ruleKind, .ref h_this_ruleBit, .ref h_this_ruleOther, .int v_alone, .int v_halfBits, .ref h_this_oldSet, .ref h_this_oldNumber, .ref h_this_allSets, .ref h_this_allNumbers, .int v_allMany, .ref h_this_root])), (h_this_number, .inl (cI, 15625, .inl o_number))] [h_this, h_this_number] [(h_this, .inr (5, [.int v_thrown, .int v_wires, .int v_isOpen, .int v_isEmpty, .int v_came, .int v_there, .int v_halves, .ref h_this_number, .ref h_this_set, .ref h_this_constant, .int v_rules, .ref h_this_ruleKind, .ref h_this_ruleBit, .ref h_this_ruleOther, .int v_alone, .int v_halfBits, .ref h_this_oldSet, .ref h_this_oldNumber, .ref h_this_allSets, .ref h_this_allNumbers, .int v_allMany, .ref h_this_root])), (h_this_number, .inl (cI, 15625, .inl q.2))] 28 [(0, .ref h_this), (1, .int x1), (4, .int x4), (5, .int x5), (6, .int q.1)] []) (K := (fun q => ZV p l e rm_Md_addOr s m args below meth c 9 D (none) [(h_this, .inr (5, [.int v_thrown, .int v_wires, .int v_isOpen, .int v_isEmpty, .int v_came, .int v_there, .int v_halves, .ref h_this_number, .ref h_this_set, .ref h_this_constant, .int v_rules, .ref h_this_ruleKind, .ref h_this_ruleBit, .ref h_this_ruleOther, .int v_alone, .int v_halfBits, .ref h_this_oldSet, .ref h_this_oldNumber, .ref h_this_allSets, .ref h_this_allNumbers, .int v_allMany, .ref h_this_root])), (h_this_number, .inl (cI, 15625, .inl o_number))] [h_this, h_this_number] [(h_this, .inr (5, [.int v_thrown, .int v_wires, .int v_isOpen, .int v_isEmpty, .int v_came, .int v_there, .int v_halves, .ref h_this_number, .ref h_this_set, .ref h_this_constant, .int v_rules, .ref h_this_ruleKind, .ref h_this_ruleBit, .ref h_this_ruleOther, .int v_alone, .int v_halfBits, .ref h_this_oldSet, .ref h_this_oldNumber, .ref h_this_allSets, .ref h_this_allNumbers, .int v_allMany, .ref h_this_root])), (h_this_number, .inl (cI, 15625, .inl q))] 166 [] [])) (fun q z hz hK => k_Md_addOr_l28 C hr hz hK) zF _ (o0) hf hK
def f_Md_addOr_j25 (x1 : Int32) (x4 : Int32) (x5 : Int32) (v_number : Nat → Int32) : Option ((Nat → Int32)) :=
  zb1 (zloop (fun q => f_Md_addOr_l28 x1 x4 x5 q.1 q.2) zF ((0 : Int32), v_number)) fun q_1 =>
  some (q_1)
set_option maxRecDepth 100000 in
set_option maxHeartbeats 4000000 in
theorem k_Md_addOr_j25 {p : Program} {l : Launch} {e : Env} {s : State} {m : MethodId} {args : Array Value} {below : List Frame} {meth : Method} {c : Code} {D : va_G} {cI cL : ClassId} {h_this h_this_number h_this_set h_this_constant h_this_ruleKind h_this_ruleBit h_this_ruleOther h_this_oldSet h_this_oldNumber h_this_allSets h_this_allNumbers h_this_root : Nat} {v_thrown v_wires v_isOpen v_isEmpty v_came v_there v_halves v_rules v_alone v_halfBits v_allMany x1 x4 x5 : Int32} {v_number o_number : Nat → Int32}  (C : zC p s m args meth c b_Md_addOr 9 R_Md D vwCl [(cI, .int), (cL, .long)] (zA [h_this, h_this_number] s.heap.size)) (hr : meth.sig.returnType = none) (hf : f_Md_addOr_j25 x1 x4 x5 v_number = some o_number) : ZV p l e rm_Md_addOr s m args below meth c 9 D (none) [(h_this, .inr (5, [.int v_thrown, .int v_wires, .int v_isOpen, .int v_isEmpty, .int v_came, .int v_there, .int v_halves, .ref h_this_number, .ref h_this_set, .ref h_this_constant, .int v_rules, .ref h_this_ruleKind, .ref h_this_ruleBit, .ref h_this_ruleOther, .int v_alone, .int v_halfBits, .ref h_this_oldSet, .ref h_this_oldNumber, .ref h_this_allSets, .ref h_this_allNumbers, .int v_allMany, .ref h_this_root])), (h_this_number, .inl (cI, 15625, .inl o_number))] [h_this, h_this_number] [(h_this, .inr (5, [.int v_thrown, .int v_wires, .int v_isOpen, .int v_isEmpty, .int v_came, .int v_there, .int v_halves, .ref h_this_number, .ref h_this_set, .ref h_this_constant, .int v_rules, .ref h_this_ruleKind, .ref h_this_ruleBit, .ref h_this_ruleOther, .int v_alone, .int v_halfBits, .ref h_this_oldSet, .ref h_this_oldNumber, .ref h_this_allSets, .ref h_this_allNumbers, .int v_allMany, .ref h_this_root])), (h_this_number, .inl (cI, 15625, .inl v_number))] 25 [(0, .ref h_this), (1, .int x1), (4, .int x4), (5, .int x5)] [] := by
  unfold f_Md_addOr_j25 at hf
  refine z_iconst (v := 0) C d_Md_addOr_25 (by decide) ?_
  refine z_istore (lv' := [(6, .int (0 : Int32)), (0, .ref h_this), (1, .int x1), (4, .int x4), (5, .int x5)]) C d_Md_addOr_26 (by decide) rfl ?_
  refine z_lv [1, 2, 3, 4, 0] rfl ?_
  obtain ⟨q_1, h_2, hf⟩ := zb1_elim hf
  refine k_Md_addOr_l28_run C hr h_2 ?_
  cases hf
  exact z_vret C hr d_Md_addOr_166
def f_Md_addOr_j11 (x1 : Int32) (x2 : Int32) (x3 : Int32) (x4 : Int32) (t0 : Int32) (v_number : Nat → Int32) : Option ((Nat → Int32)) :=
  if x2 = (1 : Int32) then (
    zb1 (f_Md_add x4 x3 v_number) fun q_3 =>
    f_Md_addOr_j25 x1 x4 t0 q_3)
  else (
    f_Md_addOr_j25 x1 x4 t0 v_number)
set_option maxRecDepth 100000 in
set_option maxHeartbeats 4000000 in
theorem k_Md_addOr_j11 {p : Program} {l : Launch} {e : Env} {s : State} {m : MethodId} {args : Array Value} {below : List Frame} {meth : Method} {c : Code} {D : va_G} {cI cL : ClassId} {h_this h_this_number h_this_set h_this_constant h_this_ruleKind h_this_ruleBit h_this_ruleOther h_this_oldSet h_this_oldNumber h_this_allSets h_this_allNumbers h_this_root : Nat} {v_thrown v_wires v_isOpen v_isEmpty v_came v_there v_halves v_rules v_alone v_halfBits v_allMany x1 x2 x3 x4 : Int32} {v_number o_number : Nat → Int32} {t0 : Int32} (C : zC p s m args meth c b_Md_addOr 9 R_Md D vwCl [(cI, .int), (cL, .long)] (zA [h_this, h_this_number] s.heap.size)) (hr : meth.sig.returnType = none) (hf : f_Md_addOr_j11 x1 x2 x3 x4 t0 v_number = some o_number) : ZV p l e rm_Md_addOr s m args below meth c 9 D (none) [(h_this, .inr (5, [.int v_thrown, .int v_wires, .int v_isOpen, .int v_isEmpty, .int v_came, .int v_there, .int v_halves, .ref h_this_number, .ref h_this_set, .ref h_this_constant, .int v_rules, .ref h_this_ruleKind, .ref h_this_ruleBit, .ref h_this_ruleOther, .int v_alone, .int v_halfBits, .ref h_this_oldSet, .ref h_this_oldNumber, .ref h_this_allSets, .ref h_this_allNumbers, .int v_allMany, .ref h_this_root])), (h_this_number, .inl (cI, 15625, .inl o_number))] [h_this, h_this_number] [(h_this, .inr (5, [.int v_thrown, .int v_wires, .int v_isOpen, .int v_isEmpty, .int v_came, .int v_there, .int v_halves, .ref h_this_number, .ref h_this_set, .ref h_this_constant, .int v_rules, .ref h_this_ruleKind, .ref h_this_ruleBit, .ref h_this_ruleOther, .int v_alone, .int v_halfBits, .ref h_this_oldSet, .ref h_this_oldNumber, .ref h_this_allSets, .ref h_this_allNumbers, .int v_allMany, .ref h_this_root])), (h_this_number, .inl (cI, 15625, .inl v_number))] 11 [(0, .ref h_this), (1, .int x1), (2, .int x2), (3, .int x3), (4, .int x4)] [.int t0] := by
  unfold f_Md_addOr_j11 at hf
  refine z_istore (lv' := [(5, .int t0), (0, .ref h_this), (1, .int x1), (2, .int x2), (3, .int x3), (4, .int x4)]) C d_Md_addOr_11 (by decide) rfl ?_
  refine z_iload_n C d_Md_addOr_13 rfl 3 rfl ?_
  refine z_iconst (v := 1) C d_Md_addOr_14 (by decide) ?_
  refine z_icmp_ne (tgt := 25) C d_Md_addOr_15 (by decide) (fun c_1 => ?_) (fun c_1 => ?_)
  · have hf := zif_neg c_1 hf
    refine z_lv [1, 2, 5, 0] rfl ?_
    exact k_Md_addOr_j25 C hr hf
  · have hf := zif_pos c_1 hf
    refine z_aload_n C d_Md_addOr_18 rfl 1 rfl ?_
    refine z_iload C d_Md_addOr_19 5 rfl ?_
    refine z_iload_n C d_Md_addOr_21 rfl 4 rfl ?_
    obtain ⟨q_3, h_2, hf⟩ := zb1_elim hf
    refine z_callV (As := [.int x4, .int x3]) (rest := []) (ws' := [(h_this, .inr (5, [.int v_thrown, .int v_wires, .int v_isOpen, .int v_isEmpty, .int v_came, .int v_there, .int v_halves, .ref h_this_number, .ref h_this_set, .ref h_this_constant, .int v_rules, .ref h_this_ruleKind, .ref h_this_ruleBit, .ref h_this_ruleOther, .int v_alone, .int v_halfBits, .ref h_this_oldSet, .ref h_this_oldNumber, .ref h_this_allSets, .ref h_this_allNumbers, .int v_allMany, .ref h_this_root])), (h_this_number, .inl (cI, 15625, .inl q_3))]) C (c_Md_add h_2) mi_Md_add zw_601 (by decide) 0 rfl rfl [0, 1] (by decide) rfl rfl rfl rfl rfl (by decide) ⟨Nat.zero_le _, Nat.zero_le _⟩ d_Md_addOr_22 ?_
    refine z_lv [1, 2, 5, 0] rfl ?_
    exact k_Md_addOr_j25 C hr hf
/-- PathSumsModel.addOr(IIII)V -/
def f_Md_addOr (x1 : Int32) (x2 : Int32) (x3 : Int32) (x4 : Int32) (v_number : Nat → Int32) : Option ((Nat → Int32)) :=
  if x2 = (1 : Int32) then (
    f_Md_addOr_j11 x1 x2 x3 x4 (-x3) v_number)
  else (
    f_Md_addOr_j11 x1 x2 x3 x4 x3 v_number)
set_option maxRecDepth 100000 in
set_option maxHeartbeats 4000000 in
theorem k_Md_addOr {p : Program} {l : Launch} {e : Env} {s : State} {m : MethodId} {args : Array Value} {below : List Frame} {meth : Method} {c : Code} {D : va_G} {cI cL : ClassId} {h_this h_this_number h_this_set h_this_constant h_this_ruleKind h_this_ruleBit h_this_ruleOther h_this_oldSet h_this_oldNumber h_this_allSets h_this_allNumbers h_this_root : Nat} {v_thrown v_wires v_isOpen v_isEmpty v_came v_there v_halves v_rules v_alone v_halfBits v_allMany x1 x2 x3 x4 : Int32} {v_number o_number : Nat → Int32} (C : zC p s m args meth c b_Md_addOr 9 R_Md D vwCl [(cI, .int), (cL, .long)] (zA [h_this, h_this_number] s.heap.size)) (hr : meth.sig.returnType = none) (hf : f_Md_addOr x1 x2 x3 x4 v_number = some o_number) : ZV p l e rm_Md_addOr s m args below meth c 9 D (none) [(h_this, .inr (5, [.int v_thrown, .int v_wires, .int v_isOpen, .int v_isEmpty, .int v_came, .int v_there, .int v_halves, .ref h_this_number, .ref h_this_set, .ref h_this_constant, .int v_rules, .ref h_this_ruleKind, .ref h_this_ruleBit, .ref h_this_ruleOther, .int v_alone, .int v_halfBits, .ref h_this_oldSet, .ref h_this_oldNumber, .ref h_this_allSets, .ref h_this_allNumbers, .int v_allMany, .ref h_this_root])), (h_this_number, .inl (cI, 15625, .inl o_number))] [h_this, h_this_number] [(h_this, .inr (5, [.int v_thrown, .int v_wires, .int v_isOpen, .int v_isEmpty, .int v_came, .int v_there, .int v_halves, .ref h_this_number, .ref h_this_set, .ref h_this_constant, .int v_rules, .ref h_this_ruleKind, .ref h_this_ruleBit, .ref h_this_ruleOther, .int v_alone, .int v_halfBits, .ref h_this_oldSet, .ref h_this_oldNumber, .ref h_this_allSets, .ref h_this_allNumbers, .int v_allMany, .ref h_this_root])), (h_this_number, .inl (cI, 15625, .inl v_number))] 0 [(0, .ref h_this), (1, .int x1), (2, .int x2), (3, .int x3), (4, .int x4)] [] := by
  unfold f_Md_addOr at hf
  refine z_iload_n C d_Md_addOr_0 rfl 2 rfl ?_
  refine z_iconst (v := 1) C d_Md_addOr_1 (by decide) ?_
  refine z_icmp_ne (tgt := 10) C d_Md_addOr_2 (by decide) (fun c_1 => ?_) (fun c_1 => ?_)
  · have hf := zif_neg c_1 hf
    refine z_iload_n C d_Md_addOr_10 rfl 3 rfl ?_
    exact k_Md_addOr_j11 C hr hf
  · have hf := zif_pos c_1 hf
    refine z_iload_n C d_Md_addOr_5 rfl 3 rfl ?_
    refine z_ineg C d_Md_addOr_6 ?_
    refine z_goto (tgt := 11) C d_Md_addOr_7 (by decide) ?_
    exact k_Md_addOr_j11 C hr hf
theorem c_Md_addOr {l : Launch} {D : va_G} {cI cL : ClassId} {h_this h_this_number h_this_set h_this_constant h_this_ruleKind h_this_ruleBit h_this_ruleOther h_this_oldSet h_this_oldNumber h_this_allSets h_this_allNumbers h_this_root : Nat} {v_thrown v_wires v_isOpen v_isEmpty v_came v_there v_halves v_rules v_alone v_halfBits v_allMany x1 x2 x3 x4 : Int32} {v_number o_number : Nat → Int32} (hf : f_Md_addOr x1 x2 x3 x4 v_number = some o_number) : zM l y_Md_addOr (Cond.code y_Md_addOr b_Md_addOr 9 none :: zT) rm_Md_addOr D vwCl [(cI, .int), (cL, .long)] [.ref h_this, .int x1, .int x2, .int x3, .int x4] [(h_this, .inr (5, [.int v_thrown, .int v_wires, .int v_isOpen, .int v_isEmpty, .int v_came, .int v_there, .int v_halves, .ref h_this_number, .ref h_this_set, .ref h_this_constant, .int v_rules, .ref h_this_ruleKind, .ref h_this_ruleBit, .ref h_this_ruleOther, .int v_alone, .int v_halfBits, .ref h_this_oldSet, .ref h_this_oldNumber, .ref h_this_allSets, .ref h_this_allNumbers, .int v_allMany, .ref h_this_root])), (h_this_number, .inl (cI, 15625, .inl v_number))] [(h_this, .inr (5, [.int v_thrown, .int v_wires, .int v_isOpen, .int v_isEmpty, .int v_came, .int v_there, .int v_halves, .ref h_this_number, .ref h_this_set, .ref h_this_constant, .int v_rules, .ref h_this_ruleKind, .ref h_this_ruleBit, .ref h_this_ruleOther, .int v_alone, .int v_halfBits, .ref h_this_oldSet, .ref h_this_oldNumber, .ref h_this_allSets, .ref h_this_allNumbers, .int v_allMany, .ref h_this_root])), (h_this_number, .inl (cI, 15625, .inl o_number))] (none) :=
  zM.intro (by decide) rfl (fun _ h => List.mem_cons_of_mem _ h) (Nat.le_of_ble_eq_true rfl) (fun _ _ _ _ _ _ _ C hr _ => k_Md_addOr C hr hf)
def rm_Md_addHalf : Room := { frames := 2, cells := 0, slots := 0, locals := 46 }
def f_Md_addHalf_l18 (x1 : Int32) (x2 : Int32) (v_constant : Nat → Int32) (v_set : Nat → Int32) (x3 : Int32) (v_number : Nat → Int32) : Option ((Int32 × (Nat → Int32)) ⊕ ((Nat → Int32))) :=
  if (24 : Int32) ≤ x3 then (
    some (.inr (v_number)))
  else (
    if x1 < 0 ∨ 6 ≤ x1.toNatClampNeg then none else
    if (((v_set x1.toNatClampNeg) >>> (x3 &&& 31)) &&& (1 : Int32)) = (1 : Int32) then (
      zb1 (f_Md_add (x2 ||| ((1 : Int32) <<< (x3 &&& 31))) (4 : Int32) v_number) fun q_5 =>
      zlet (x3 + 1) fun y_6 =>
      some (.inl (y_6, q_5)))
    else (
      zlet (x3 + 1) fun y_7 =>
      some (.inl (y_7, v_number))))
set_option maxRecDepth 100000 in
set_option maxHeartbeats 4000000 in
theorem k_Md_addHalf_l18 {p : Program} {l : Launch} {e : Env} {s : State} {m : MethodId} {args : Array Value} {below : List Frame} {meth : Method} {c : Code} {D : va_G} {cI cL : ClassId} {h_this h_this_number h_this_set h_this_constant h_this_ruleKind h_this_ruleBit h_this_ruleOther h_this_oldSet h_this_oldNumber h_this_allSets h_this_allNumbers h_this_root : Nat} {v_thrown v_wires v_isOpen v_isEmpty v_came v_there v_halves v_rules v_alone v_halfBits v_allMany x1 x2 x3 : Int32} {v_constant v_number v_set o_number : Nat → Int32} (C : zC p s m args meth c b_Md_addHalf 4 R_Md D vwCl [(cI, .int), (cL, .long)] (zA [h_this, h_this_constant, h_this_number, h_this_set] s.heap.size)) (hr : meth.sig.returnType = none) {z : (Int32 × (Nat → Int32)) ⊕ ((Nat → Int32))} (hf : f_Md_addHalf_l18 x1 x2 v_constant v_set x3 v_number = some z) (hK : zcase (fun q => ZV p l e rm_Md_addHalf s m args below meth c 4 D (none) [(h_this, .inr (5, [.int v_thrown, .int v_wires, .int v_isOpen, .int v_isEmpty, .int v_came, .int v_there, .int v_halves, .ref h_this_number, .ref h_this_set, .ref h_this_constant, .int v_rules, .ref h_this_ruleKind, .ref h_this_ruleBit, .ref h_this_ruleOther, .int v_alone, .int v_halfBits, .ref h_this_oldSet, .ref h_this_oldNumber, .ref h_this_allSets, .ref h_this_allNumbers, .int v_allMany, .ref h_this_root])), (h_this_constant, .inl (cI, 6, .inl v_constant)), (h_this_number, .inl (cI, 15625, .inl o_number)), (h_this_set, .inl (cI, 6, .inl v_set))] [h_this, h_this_constant, h_this_number, h_this_set] [(h_this, .inr (5, [.int v_thrown, .int v_wires, .int v_isOpen, .int v_isEmpty, .int v_came, .int v_there, .int v_halves, .ref h_this_number, .ref h_this_set, .ref h_this_constant, .int v_rules, .ref h_this_ruleKind, .ref h_this_ruleBit, .ref h_this_ruleOther, .int v_alone, .int v_halfBits, .ref h_this_oldSet, .ref h_this_oldNumber, .ref h_this_allSets, .ref h_this_allNumbers, .int v_allMany, .ref h_this_root])), (h_this_constant, .inl (cI, 6, .inl v_constant)), (h_this_number, .inl (cI, 15625, .inl q.2)), (h_this_set, .inl (cI, 6, .inl v_set))] 18 [(0, .ref h_this), (1, .int x1), (2, .int x2), (3, .int q.1)] []) (fun q => ZV p l e rm_Md_addHalf s m args below meth c 4 D (none) [(h_this, .inr (5, [.int v_thrown, .int v_wires, .int v_isOpen, .int v_isEmpty, .int v_came, .int v_there, .int v_halves, .ref h_this_number, .ref h_this_set, .ref h_this_constant, .int v_rules, .ref h_this_ruleKind, .ref h_this_ruleBit, .ref h_this_ruleOther, .int v_alone, .int v_halfBits, .ref h_this_oldSet, .ref h_this_oldNumber, .ref h_this_allSets, .ref h_this_allNumbers, .int v_allMany, .ref h_this_root])), (h_this_constant, .inl (cI, 6, .inl v_constant)), (h_this_number, .inl (cI, 15625, .inl o_number)), (h_this_set, .inl (cI, 6, .inl v_set))] [h_this, h_this_constant, h_this_number, h_this_set] [(h_this, .inr (5, [.int v_thrown, .int v_wires, .int v_isOpen, .int v_isEmpty, .int v_came, .int v_there, .int v_halves, .ref h_this_number, .ref h_this_set, .ref h_this_constant, .int v_rules, .ref h_this_ruleKind, .ref h_this_ruleBit, .ref h_this_ruleOther, .int v_alone, .int v_halfBits, .ref h_this_oldSet, .ref h_this_oldNumber, .ref h_this_allSets, .ref h_this_allNumbers, .int v_allMany, .ref h_this_root])), (h_this_constant, .inl (cI, 6, .inl v_constant)), (h_this_number, .inl (cI, 15625, .inl q)), (h_this_set, .inl (cI, 6, .inl v_set))] 54 [] []) z) : ZV p l e rm_Md_addHalf s m args below meth c 4 D (none) [(h_this, .inr (5, [.int v_thrown, .int v_wires, .int v_isOpen, .int v_isEmpty, .int v_came, .int v_there, .int v_halves, .ref h_this_number, .ref h_this_set, .ref h_this_constant, .int v_rules, .ref h_this_ruleKind, .ref h_this_ruleBit, .ref h_this_ruleOther, .int v_alone, .int v_halfBits, .ref h_this_oldSet, .ref h_this_oldNumber, .ref h_this_allSets, .ref h_this_allNumbers, .int v_allMany, .ref h_this_root])), (h_this_constant, .inl (cI, 6, .inl v_constant)), (h_this_number, .inl (cI, 15625, .inl o_number)), (h_this_set, .inl (cI, 6, .inl v_set))] [h_this, h_this_constant, h_this_number, h_this_set] [(h_this, .inr (5, [.int v_thrown, .int v_wires, .int v_isOpen, .int v_isEmpty, .int v_came, .int v_there, .int v_halves, .ref h_this_number, .ref h_this_set, .ref h_this_constant, .int v_rules, .ref h_this_ruleKind, .ref h_this_ruleBit, .ref h_this_ruleOther, .int v_alone, .int v_halfBits, .ref h_this_oldSet, .ref h_this_oldNumber, .ref h_this_allSets, .ref h_this_allNumbers, .int v_allMany, .ref h_this_root])), (h_this_constant, .inl (cI, 6, .inl v_constant)), (h_this_number, .inl (cI, 15625, .inl v_number)), (h_this_set, .inl (cI, 6, .inl v_set))] 18 [(0, .ref h_this), (1, .int x1), (2, .int x2), (3, .int x3)] [] := by
  unfold f_Md_addHalf_l18 at hf
  refine z_iload_n C d_Md_addHalf_18 rfl 3 rfl ?_
  refine z_bipush (v := 24) C d_Md_addHalf_19 (by decide) ?_
  refine z_icmp_ge (tgt := 54) C d_Md_addHalf_21 (by decide) (fun c_1 => ?_) (fun c_1 => ?_)
  · have hf := zif_pos c_1 hf
    refine z_lv [] rfl ?_
    cases hf
    exact hK
  · have hf := zif_neg c_1 hf
    refine z_aload_n C d_Md_addHalf_24 rfl 0 rfl ?_
    refine z_get C iw_Md 0 rfl rfl 8 (by decide) zw_506 rfl d_Md_addHalf_25 ?_
    refine z_iload_n C d_Md_addHalf_28 rfl 1 rfl ?_
    obtain ⟨g_2, hf⟩ := zguard hf
    refine z_iald C 3 0 rfl rfl g_2 d_Md_addHalf_29 ?_
    refine z_iload_n C d_Md_addHalf_30 rfl 3 rfl ?_
    refine z_ishr C d_Md_addHalf_31 ?_
    refine z_iconst (v := 1) C d_Md_addHalf_32 (by decide) ?_
    refine z_iand C d_Md_addHalf_33 ?_
    refine z_iconst (v := 1) C d_Md_addHalf_34 (by decide) ?_
    refine z_icmp_ne (tgt := 48) C d_Md_addHalf_35 (by decide) (fun c_3 => ?_) (fun c_3 => ?_)
    · have hf := zif_neg c_3 hf
      obtain ⟨y_7, ey_7⟩ : ∃ y : Int32, y = x3 + 1 := ⟨_, rfl⟩
      have hf := zlet_at ey_7 hf
      refine z_iinc (v := y_7) (lv' := [(3, .int y_7), (0, .ref h_this), (1, .int x1), (2, .int x2)]) C d_Md_addHalf_48 (k := 3) rfl (by rw [ey_7]; rfl) (by decide) rfl ?_
      refine z_goto (tgt := 18) C d_Md_addHalf_51 (by decide) ?_
      refine z_lv [1, 2, 3, 0] rfl ?_
      cases hf
      exact hK
    · have hf := zif_pos c_3 hf
      refine z_aload_n C d_Md_addHalf_38 rfl 0 rfl ?_
      refine z_iload_n C d_Md_addHalf_39 rfl 2 rfl ?_
      refine z_iconst (v := 1) C d_Md_addHalf_40 (by decide) ?_
      refine z_iload_n C d_Md_addHalf_41 rfl 3 rfl ?_
      refine z_ishl C d_Md_addHalf_42 ?_
      refine z_ior C d_Md_addHalf_43 ?_
      refine z_iconst (v := 4) C d_Md_addHalf_44 (by decide) ?_
      obtain ⟨q_5, h_4, hf⟩ := zb1_elim hf
      refine z_callV (As := [.int (x2 ||| ((1 : Int32) <<< (x3 &&& 31))), .int (4 : Int32)]) (rest := []) (ws' := [(h_this, .inr (5, [.int v_thrown, .int v_wires, .int v_isOpen, .int v_isEmpty, .int v_came, .int v_there, .int v_halves, .ref h_this_number, .ref h_this_set, .ref h_this_constant, .int v_rules, .ref h_this_ruleKind, .ref h_this_ruleBit, .ref h_this_ruleOther, .int v_alone, .int v_halfBits, .ref h_this_oldSet, .ref h_this_oldNumber, .ref h_this_allSets, .ref h_this_allNumbers, .int v_allMany, .ref h_this_root])), (h_this_constant, .inl (cI, 6, .inl v_constant)), (h_this_number, .inl (cI, 15625, .inl q_5)), (h_this_set, .inl (cI, 6, .inl v_set))]) C (c_Md_add h_4) mi_Md_add zw_601 (by decide) 0 rfl rfl [0, 2] (by decide) rfl rfl rfl rfl rfl (by decide) ⟨Nat.zero_le _, Nat.zero_le _⟩ d_Md_addHalf_45 ?_
      obtain ⟨y_6, ey_6⟩ : ∃ y : Int32, y = x3 + 1 := ⟨_, rfl⟩
      have hf := zlet_at ey_6 hf
      refine z_iinc (v := y_6) (lv' := [(3, .int y_6), (0, .ref h_this), (1, .int x1), (2, .int x2)]) C d_Md_addHalf_48 (k := 3) rfl (by rw [ey_6]; rfl) (by decide) rfl ?_
      refine z_goto (tgt := 18) C d_Md_addHalf_51 (by decide) ?_
      refine z_lv [1, 2, 3, 0] rfl ?_
      cases hf
      exact hK
theorem k_Md_addHalf_l18_run {p : Program} {l : Launch} {e : Env} {s : State} {m : MethodId} {args : Array Value} {below : List Frame} {meth : Method} {c : Code} {D : va_G} {cI cL : ClassId} {h_this h_this_number h_this_set h_this_constant h_this_ruleKind h_this_ruleBit h_this_ruleOther h_this_oldSet h_this_oldNumber h_this_allSets h_this_allNumbers h_this_root : Nat} {v_thrown v_wires v_isOpen v_isEmpty v_came v_there v_halves v_rules v_alone v_halfBits v_allMany x1 x2 x3 : Int32} {v_constant v_number v_set o_number : Nat → Int32} (C : zC p s m args meth c b_Md_addHalf 4 R_Md D vwCl [(cI, .int), (cL, .long)] (zA [h_this, h_this_constant, h_this_number, h_this_set] s.heap.size)) (hr : meth.sig.returnType = none) {o0 : Nat → Int32} (hf : zloop (fun q => f_Md_addHalf_l18 x1 x2 v_constant v_set q.1 q.2) zF (x3, v_number) = some o0) (hK : ZV p l e rm_Md_addHalf s m args below meth c 4 D (none) [(h_this, .inr (5, [.int v_thrown, .int v_wires, .int v_isOpen, .int v_isEmpty, .int v_came, .int v_there, .int v_halves, .ref h_this_number, .ref h_this_set, .ref h_this_constant, .int v_rules, .ref h_this_ruleKind, .ref h_this_ruleBit, .ref h_this_ruleOther, .int v_alone, .int v_halfBits, .ref h_this_oldSet, .ref h_this_oldNumber, .ref h_this_allSets, .ref h_this_allNumbers, .int v_allMany, .ref h_this_root])), (h_this_constant, .inl (cI, 6, .inl v_constant)), (h_this_number, .inl (cI, 15625, .inl o_number)), (h_this_set, .inl (cI, 6, .inl v_set))] [h_this, h_this_constant, h_this_number, h_this_set] [(h_this, .inr (5, [.int v_thrown, .int v_wires, .int v_isOpen, .int v_isEmpty, .int v_came, .int v_there, .int v_halves, .ref h_this_number, .ref h_this_set, .ref h_this_constant, .int v_rules, .ref h_this_ruleKind, .ref h_this_ruleBit, .ref h_this_ruleOther, .int v_alone, .int v_halfBits, .ref h_this_oldSet, .ref h_this_oldNumber, .ref h_this_allSets, .ref h_this_allNumbers, .int v_allMany, .ref h_this_root])), (h_this_constant, .inl (cI, 6, .inl v_constant)), (h_this_number, .inl (cI, 15625, .inl o0)), (h_this_set, .inl (cI, 6, .inl v_set))] 54 [] []) : ZV p l e rm_Md_addHalf s m args below meth c 4 D (none) [(h_this, .inr (5, [.int v_thrown, .int v_wires, .int v_isOpen, .int v_isEmpty, .int v_came, .int v_there, .int v_halves, .ref h_this_number, .ref h_this_set, .ref h_this_constant, .int v_rules, .ref h_this_ruleKind, .ref h_this_ruleBit, .ref h_this_ruleOther, .int v_alone, .int v_halfBits, .ref h_this_oldSet, .ref h_this_oldNumber, .ref h_this_allSets, .ref h_this_allNumbers, .int v_allMany, .ref h_this_root])), (h_this_constant, .inl (cI, 6, .inl v_constant)), (h_this_number, .inl (cI, 15625, .inl o_number)), (h_this_set, .inl (cI, 6, .inl v_set))] [h_this, h_this_constant, h_this_number, h_this_set] [(h_this, .inr (5, [.int v_thrown, .int v_wires, .int v_isOpen, .int v_isEmpty, .int v_came, .int v_there, .int v_halves, .ref h_this_number, .ref h_this_set, .ref h_this_constant, .int v_rules, .ref h_this_ruleKind, .ref h_this_ruleBit, .ref h_this_ruleOther, .int v_alone, .int v_halfBits, .ref h_this_oldSet, .ref h_this_oldNumber, .ref h_this_allSets, .ref h_this_allNumbers, .int v_allMany, .ref h_this_root])), (h_this_constant, .inl (cI, 6, .inl v_constant)), (h_this_number, .inl (cI, 15625, .inl v_number)), (h_this_set, .inl (cI, 6, .inl v_set))] 18 [(0, .ref h_this), (1, .int x1), (2, .int x2), (3, .int x3)] [] :=
  zloop_run (P := fun q => ZV p l e rm_Md_addHalf s m args below meth c 4 D (none) [(h_this, .inr (5, [.int v_thrown, .int v_wires, .int v_isOpen, .int v_isEmpty, .int v_came, .int v_there, .int v_halves, .ref h_this_number, .ref h_this_set, .ref h_this_constant, .int v_rules, .ref h_this_ruleKind, .ref h_this_ruleBit, .ref h_this_ruleOther, .int v_alone, .int v_halfBits, .ref h_this_oldSet, .ref h_this_oldNumber, .ref h_this_allSets, .ref h_this_allNumbers, .int v_allMany, .ref h_this_root])), (h_this_constant, .inl (cI, 6, .inl v_constant)), (h_this_number, .inl (cI, 15625, .inl o_number)), (h_this_set, .inl (cI, 6, .inl v_set))] [h_this, h_this_constant, h_this_number, h_this_set] [(h_this, .inr (5, [.int v_thrown, .int v_wires, .int v_isOpen, .int v_isEmpty, .int v_came, .int v_there, .int v_halves, .ref h_this_number, .ref h_this_set, .ref h_this_constant, .int v_rules, .ref h_this_ruleKind, .ref h_this_ruleBit, .ref h_this_ruleOther, .int v_alone, .int v_halfBits, .ref h_this_oldSet, .ref h_this_oldNumber, .ref h_this_allSets, .ref h_this_allNumbers, .int v_allMany, .ref h_this_root])), (h_this_constant, .inl (cI, 6, .inl v_constant)), (h_this_number, .inl (cI, 15625, .inl q.2)), (h_this_set, .inl (cI, 6, .inl v_set))] 18 [(0, .ref h_this), (1, .int x1), (2, .int x2), (3, .int q.1)] []) (K := (fun q => ZV p l e rm_Md_addHalf s m args below meth c 4 D (none) [(h_this, .inr (5, [.int v_thrown, .int v_wires, .int v_isOpen, .int v_isEmpty, .int v_came, .int v_there, .int v_halves, .ref h_this_number, .ref h_this_set, .ref h_this_constant, .int v_rules, .ref h_this_ruleKind, .ref h_this_ruleBit, .ref h_this_ruleOther, .int v_alone, .int v_halfBits, .ref h_this_oldSet, .ref h_this_oldNumber, .ref h_this_allSets, .ref h_this_allNumbers, .int v_allMany, .ref h_this_root])), (h_this_constant, .inl (cI, 6, .inl v_constant)), (h_this_number, .inl (cI, 15625, .inl o_number)), (h_this_set, .inl (cI, 6, .inl v_set))] [h_this, h_this_constant, h_this_number, h_this_set] [(h_this, .inr (5, [.int v_thrown, .int v_wires, .int v_isOpen, .int v_isEmpty, .int v_came, .int v_there, .int v_halves, .ref h_this_number, .ref h_this_set, .ref h_this_constant, .int v_rules, .ref h_this_ruleKind, .ref h_this_ruleBit, .ref h_this_ruleOther, .int v_alone, .int v_halfBits, .ref h_this_oldSet, .ref h_this_oldNumber, .ref h_this_allSets, .ref h_this_allNumbers, .int v_allMany, .ref h_this_root])), (h_this_constant, .inl (cI, 6, .inl v_constant)), (h_this_number, .inl (cI, 15625, .inl q)), (h_this_set, .inl (cI, 6, .inl v_set))] 54 [] [])) (fun q z hz hK => k_Md_addHalf_l18 C hr hz hK) zF _ (o0) hf hK
def f_Md_addHalf_j16 (x1 : Int32) (x2 : Int32) (v_constant : Nat → Int32) (v_number : Nat → Int32) (v_set : Nat → Int32) : Option ((Nat → Int32)) :=
  zb1 (zloop (fun q => f_Md_addHalf_l18 x1 x2 v_constant v_set q.1 q.2) zF ((0 : Int32), v_number)) fun q_1 =>
  some (q_1)
set_option maxRecDepth 100000 in
set_option maxHeartbeats 4000000 in
theorem k_Md_addHalf_j16 {p : Program} {l : Launch} {e : Env} {s : State} {m : MethodId} {args : Array Value} {below : List Frame} {meth : Method} {c : Code} {D : va_G} {cI cL : ClassId} {h_this h_this_number h_this_set h_this_constant h_this_ruleKind h_this_ruleBit h_this_ruleOther h_this_oldSet h_this_oldNumber h_this_allSets h_this_allNumbers h_this_root : Nat} {v_thrown v_wires v_isOpen v_isEmpty v_came v_there v_halves v_rules v_alone v_halfBits v_allMany x1 x2 : Int32} {v_constant v_number v_set o_number : Nat → Int32}  (C : zC p s m args meth c b_Md_addHalf 4 R_Md D vwCl [(cI, .int), (cL, .long)] (zA [h_this, h_this_constant, h_this_number, h_this_set] s.heap.size)) (hr : meth.sig.returnType = none) (hf : f_Md_addHalf_j16 x1 x2 v_constant v_number v_set = some o_number) : ZV p l e rm_Md_addHalf s m args below meth c 4 D (none) [(h_this, .inr (5, [.int v_thrown, .int v_wires, .int v_isOpen, .int v_isEmpty, .int v_came, .int v_there, .int v_halves, .ref h_this_number, .ref h_this_set, .ref h_this_constant, .int v_rules, .ref h_this_ruleKind, .ref h_this_ruleBit, .ref h_this_ruleOther, .int v_alone, .int v_halfBits, .ref h_this_oldSet, .ref h_this_oldNumber, .ref h_this_allSets, .ref h_this_allNumbers, .int v_allMany, .ref h_this_root])), (h_this_constant, .inl (cI, 6, .inl v_constant)), (h_this_number, .inl (cI, 15625, .inl o_number)), (h_this_set, .inl (cI, 6, .inl v_set))] [h_this, h_this_constant, h_this_number, h_this_set] [(h_this, .inr (5, [.int v_thrown, .int v_wires, .int v_isOpen, .int v_isEmpty, .int v_came, .int v_there, .int v_halves, .ref h_this_number, .ref h_this_set, .ref h_this_constant, .int v_rules, .ref h_this_ruleKind, .ref h_this_ruleBit, .ref h_this_ruleOther, .int v_alone, .int v_halfBits, .ref h_this_oldSet, .ref h_this_oldNumber, .ref h_this_allSets, .ref h_this_allNumbers, .int v_allMany, .ref h_this_root])), (h_this_constant, .inl (cI, 6, .inl v_constant)), (h_this_number, .inl (cI, 15625, .inl v_number)), (h_this_set, .inl (cI, 6, .inl v_set))] 16 [(0, .ref h_this), (1, .int x1), (2, .int x2)] [] := by
  unfold f_Md_addHalf_j16 at hf
  refine z_iconst (v := 0) C d_Md_addHalf_16 (by decide) ?_
  refine z_istore_n (lv' := [(3, .int (0 : Int32)), (0, .ref h_this), (1, .int x1), (2, .int x2)]) C d_Md_addHalf_17 rfl (by decide) rfl ?_
  refine z_lv [1, 2, 3, 0] rfl ?_
  obtain ⟨q_1, h_2, hf⟩ := zb1_elim hf
  refine k_Md_addHalf_l18_run C hr h_2 ?_
  cases hf
  exact z_vret C hr d_Md_addHalf_54
/-- PathSumsModel.addHalf(II)V -/
def f_Md_addHalf (x1 : Int32) (x2 : Int32) (v_constant : Nat → Int32) (v_number : Nat → Int32) (v_set : Nat → Int32) : Option ((Nat → Int32)) :=
  if x1 < 0 ∨ 6 ≤ x1.toNatClampNeg then none else
  if (v_constant x1.toNatClampNeg) = (1 : Int32) then (
    zb1 (f_Md_add x2 (4 : Int32) v_number) fun q_4 =>
    f_Md_addHalf_j16 x1 x2 v_constant q_4 v_set)
  else (
    f_Md_addHalf_j16 x1 x2 v_constant v_number v_set)
set_option maxRecDepth 100000 in
set_option maxHeartbeats 4000000 in
theorem k_Md_addHalf {p : Program} {l : Launch} {e : Env} {s : State} {m : MethodId} {args : Array Value} {below : List Frame} {meth : Method} {c : Code} {D : va_G} {cI cL : ClassId} {h_this h_this_number h_this_set h_this_constant h_this_ruleKind h_this_ruleBit h_this_ruleOther h_this_oldSet h_this_oldNumber h_this_allSets h_this_allNumbers h_this_root : Nat} {v_thrown v_wires v_isOpen v_isEmpty v_came v_there v_halves v_rules v_alone v_halfBits v_allMany x1 x2 : Int32} {v_constant v_number v_set o_number : Nat → Int32} (C : zC p s m args meth c b_Md_addHalf 4 R_Md D vwCl [(cI, .int), (cL, .long)] (zA [h_this, h_this_constant, h_this_number, h_this_set] s.heap.size)) (hr : meth.sig.returnType = none) (hf : f_Md_addHalf x1 x2 v_constant v_number v_set = some o_number) : ZV p l e rm_Md_addHalf s m args below meth c 4 D (none) [(h_this, .inr (5, [.int v_thrown, .int v_wires, .int v_isOpen, .int v_isEmpty, .int v_came, .int v_there, .int v_halves, .ref h_this_number, .ref h_this_set, .ref h_this_constant, .int v_rules, .ref h_this_ruleKind, .ref h_this_ruleBit, .ref h_this_ruleOther, .int v_alone, .int v_halfBits, .ref h_this_oldSet, .ref h_this_oldNumber, .ref h_this_allSets, .ref h_this_allNumbers, .int v_allMany, .ref h_this_root])), (h_this_constant, .inl (cI, 6, .inl v_constant)), (h_this_number, .inl (cI, 15625, .inl o_number)), (h_this_set, .inl (cI, 6, .inl v_set))] [h_this, h_this_constant, h_this_number, h_this_set] [(h_this, .inr (5, [.int v_thrown, .int v_wires, .int v_isOpen, .int v_isEmpty, .int v_came, .int v_there, .int v_halves, .ref h_this_number, .ref h_this_set, .ref h_this_constant, .int v_rules, .ref h_this_ruleKind, .ref h_this_ruleBit, .ref h_this_ruleOther, .int v_alone, .int v_halfBits, .ref h_this_oldSet, .ref h_this_oldNumber, .ref h_this_allSets, .ref h_this_allNumbers, .int v_allMany, .ref h_this_root])), (h_this_constant, .inl (cI, 6, .inl v_constant)), (h_this_number, .inl (cI, 15625, .inl v_number)), (h_this_set, .inl (cI, 6, .inl v_set))] 0 [(0, .ref h_this), (1, .int x1), (2, .int x2)] [] := by
  unfold f_Md_addHalf at hf
  refine z_aload_n C d_Md_addHalf_0 rfl 0 rfl ?_
  refine z_get C iw_Md 0 rfl rfl 9 (by decide) zw_507 rfl d_Md_addHalf_1 ?_
  refine z_iload_n C d_Md_addHalf_4 rfl 1 rfl ?_
  obtain ⟨g_1, hf⟩ := zguard hf
  refine z_iald C 1 0 rfl rfl g_1 d_Md_addHalf_5 ?_
  refine z_iconst (v := 1) C d_Md_addHalf_6 (by decide) ?_
  refine z_icmp_ne (tgt := 16) C d_Md_addHalf_7 (by decide) (fun c_2 => ?_) (fun c_2 => ?_)
  · have hf := zif_neg c_2 hf
    exact k_Md_addHalf_j16 C hr hf
  · have hf := zif_pos c_2 hf
    refine z_aload_n C d_Md_addHalf_10 rfl 0 rfl ?_
    refine z_iload_n C d_Md_addHalf_11 rfl 2 rfl ?_
    refine z_iconst (v := 4) C d_Md_addHalf_12 (by decide) ?_
    obtain ⟨q_4, h_3, hf⟩ := zb1_elim hf
    refine z_callV (As := [.int x2, .int (4 : Int32)]) (rest := []) (ws' := [(h_this, .inr (5, [.int v_thrown, .int v_wires, .int v_isOpen, .int v_isEmpty, .int v_came, .int v_there, .int v_halves, .ref h_this_number, .ref h_this_set, .ref h_this_constant, .int v_rules, .ref h_this_ruleKind, .ref h_this_ruleBit, .ref h_this_ruleOther, .int v_alone, .int v_halfBits, .ref h_this_oldSet, .ref h_this_oldNumber, .ref h_this_allSets, .ref h_this_allNumbers, .int v_allMany, .ref h_this_root])), (h_this_constant, .inl (cI, 6, .inl v_constant)), (h_this_number, .inl (cI, 15625, .inl q_4)), (h_this_set, .inl (cI, 6, .inl v_set))]) C (c_Md_add h_3) mi_Md_add zw_601 (by decide) 0 rfl rfl [0, 2] (by decide) rfl rfl rfl rfl rfl (by decide) ⟨Nat.zero_le _, Nat.zero_le _⟩ d_Md_addHalf_13 ?_
    exact k_Md_addHalf_j16 C hr hf
theorem c_Md_addHalf {l : Launch} {D : va_G} {cI cL : ClassId} {h_this h_this_number h_this_set h_this_constant h_this_ruleKind h_this_ruleBit h_this_ruleOther h_this_oldSet h_this_oldNumber h_this_allSets h_this_allNumbers h_this_root : Nat} {v_thrown v_wires v_isOpen v_isEmpty v_came v_there v_halves v_rules v_alone v_halfBits v_allMany x1 x2 : Int32} {v_constant v_number v_set o_number : Nat → Int32} (hf : f_Md_addHalf x1 x2 v_constant v_number v_set = some o_number) : zM l y_Md_addHalf (Cond.code y_Md_addHalf b_Md_addHalf 4 none :: zT) rm_Md_addHalf D vwCl [(cI, .int), (cL, .long)] [.ref h_this, .int x1, .int x2] [(h_this, .inr (5, [.int v_thrown, .int v_wires, .int v_isOpen, .int v_isEmpty, .int v_came, .int v_there, .int v_halves, .ref h_this_number, .ref h_this_set, .ref h_this_constant, .int v_rules, .ref h_this_ruleKind, .ref h_this_ruleBit, .ref h_this_ruleOther, .int v_alone, .int v_halfBits, .ref h_this_oldSet, .ref h_this_oldNumber, .ref h_this_allSets, .ref h_this_allNumbers, .int v_allMany, .ref h_this_root])), (h_this_constant, .inl (cI, 6, .inl v_constant)), (h_this_number, .inl (cI, 15625, .inl v_number)), (h_this_set, .inl (cI, 6, .inl v_set))] [(h_this, .inr (5, [.int v_thrown, .int v_wires, .int v_isOpen, .int v_isEmpty, .int v_came, .int v_there, .int v_halves, .ref h_this_number, .ref h_this_set, .ref h_this_constant, .int v_rules, .ref h_this_ruleKind, .ref h_this_ruleBit, .ref h_this_ruleOther, .int v_alone, .int v_halfBits, .ref h_this_oldSet, .ref h_this_oldNumber, .ref h_this_allSets, .ref h_this_allNumbers, .int v_allMany, .ref h_this_root])), (h_this_constant, .inl (cI, 6, .inl v_constant)), (h_this_number, .inl (cI, 15625, .inl o_number)), (h_this_set, .inl (cI, 6, .inl v_set))] (none) :=
  zM.intro (by decide) rfl (fun _ h => List.mem_cons_of_mem _ h) (Nat.le_of_ble_eq_true rfl) (fun _ _ _ _ _ _ _ C hr _ => k_Md_addHalf C hr hf)
def rm_Md_addTwo : Room := { frames := 3, cells := 0, slots := 0, locals := 69 }
def f_Md_addTwo_l19 (x1 : Int32) (x2 : Int32) (x3 : Int32) (v_constant : Nat → Int32) (v_set : Nat → Int32) (x4 : Int32) (v_number : Nat → Int32) : Option ((Int32 × (Nat → Int32)) ⊕ ((Nat → Int32))) :=
  if (24 : Int32) ≤ x4 then (
    some (.inr (v_number)))
  else (
    if x1 < 0 ∨ 6 ≤ x1.toNatClampNeg then none else
    if (((v_set x1.toNatClampNeg) >>> (x4 &&& 31)) &&& (1 : Int32)) = (1 : Int32) then (
      zb1 (f_Md_addHalf x2 (x3 ||| ((1 : Int32) <<< (x4 &&& 31))) v_constant v_number v_set) fun q_5 =>
      zlet (x4 + 1) fun y_6 =>
      some (.inl (y_6, q_5)))
    else (
      zlet (x4 + 1) fun y_7 =>
      some (.inl (y_7, v_number))))
set_option maxRecDepth 100000 in
set_option maxHeartbeats 4000000 in
theorem k_Md_addTwo_l19 {p : Program} {l : Launch} {e : Env} {s : State} {m : MethodId} {args : Array Value} {below : List Frame} {meth : Method} {c : Code} {D : va_G} {cI cL : ClassId} {h_this h_this_number h_this_set h_this_constant h_this_ruleKind h_this_ruleBit h_this_ruleOther h_this_oldSet h_this_oldNumber h_this_allSets h_this_allNumbers h_this_root : Nat} {v_thrown v_wires v_isOpen v_isEmpty v_came v_there v_halves v_rules v_alone v_halfBits v_allMany x1 x2 x3 x4 : Int32} {v_constant v_number v_set o_number : Nat → Int32} (C : zC p s m args meth c b_Md_addTwo 5 R_Md D vwCl [(cI, .int), (cL, .long)] (zA [h_this, h_this_constant, h_this_number, h_this_set] s.heap.size)) (hr : meth.sig.returnType = none) {z : (Int32 × (Nat → Int32)) ⊕ ((Nat → Int32))} (hf : f_Md_addTwo_l19 x1 x2 x3 v_constant v_set x4 v_number = some z) (hK : zcase (fun q => ZV p l e rm_Md_addTwo s m args below meth c 5 D (none) [(h_this, .inr (5, [.int v_thrown, .int v_wires, .int v_isOpen, .int v_isEmpty, .int v_came, .int v_there, .int v_halves, .ref h_this_number, .ref h_this_set, .ref h_this_constant, .int v_rules, .ref h_this_ruleKind, .ref h_this_ruleBit, .ref h_this_ruleOther, .int v_alone, .int v_halfBits, .ref h_this_oldSet, .ref h_this_oldNumber, .ref h_this_allSets, .ref h_this_allNumbers, .int v_allMany, .ref h_this_root])), (h_this_constant, .inl (cI, 6, .inl v_constant)), (h_this_number, .inl (cI, 15625, .inl o_number)), (h_this_set, .inl (cI, 6, .inl v_set))] [h_this, h_this_constant, h_this_number, h_this_set] [(h_this, .inr (5, [.int v_thrown, .int v_wires, .int v_isOpen, .int v_isEmpty, .int v_came, .int v_there, .int v_halves, .ref h_this_number, .ref h_this_set, .ref h_this_constant, .int v_rules, .ref h_this_ruleKind, .ref h_this_ruleBit, .ref h_this_ruleOther, .int v_alone, .int v_halfBits, .ref h_this_oldSet, .ref h_this_oldNumber, .ref h_this_allSets, .ref h_this_allNumbers, .int v_allMany, .ref h_this_root])), (h_this_constant, .inl (cI, 6, .inl v_constant)), (h_this_number, .inl (cI, 15625, .inl q.2)), (h_this_set, .inl (cI, 6, .inl v_set))] 19 [(0, .ref h_this), (1, .int x1), (2, .int x2), (3, .int x3), (4, .int q.1)] []) (fun q => ZV p l e rm_Md_addTwo s m args below meth c 5 D (none) [(h_this, .inr (5, [.int v_thrown, .int v_wires, .int v_isOpen, .int v_isEmpty, .int v_came, .int v_there, .int v_halves, .ref h_this_number, .ref h_this_set, .ref h_this_constant, .int v_rules, .ref h_this_ruleKind, .ref h_this_ruleBit, .ref h_this_ruleOther, .int v_alone, .int v_halfBits, .ref h_this_oldSet, .ref h_this_oldNumber, .ref h_this_allSets, .ref h_this_allNumbers, .int v_allMany, .ref h_this_root])), (h_this_constant, .inl (cI, 6, .inl v_constant)), (h_this_number, .inl (cI, 15625, .inl o_number)), (h_this_set, .inl (cI, 6, .inl v_set))] [h_this, h_this_constant, h_this_number, h_this_set] [(h_this, .inr (5, [.int v_thrown, .int v_wires, .int v_isOpen, .int v_isEmpty, .int v_came, .int v_there, .int v_halves, .ref h_this_number, .ref h_this_set, .ref h_this_constant, .int v_rules, .ref h_this_ruleKind, .ref h_this_ruleBit, .ref h_this_ruleOther, .int v_alone, .int v_halfBits, .ref h_this_oldSet, .ref h_this_oldNumber, .ref h_this_allSets, .ref h_this_allNumbers, .int v_allMany, .ref h_this_root])), (h_this_constant, .inl (cI, 6, .inl v_constant)), (h_this_number, .inl (cI, 15625, .inl q)), (h_this_set, .inl (cI, 6, .inl v_set))] 58 [] []) z) : ZV p l e rm_Md_addTwo s m args below meth c 5 D (none) [(h_this, .inr (5, [.int v_thrown, .int v_wires, .int v_isOpen, .int v_isEmpty, .int v_came, .int v_there, .int v_halves, .ref h_this_number, .ref h_this_set, .ref h_this_constant, .int v_rules, .ref h_this_ruleKind, .ref h_this_ruleBit, .ref h_this_ruleOther, .int v_alone, .int v_halfBits, .ref h_this_oldSet, .ref h_this_oldNumber, .ref h_this_allSets, .ref h_this_allNumbers, .int v_allMany, .ref h_this_root])), (h_this_constant, .inl (cI, 6, .inl v_constant)), (h_this_number, .inl (cI, 15625, .inl o_number)), (h_this_set, .inl (cI, 6, .inl v_set))] [h_this, h_this_constant, h_this_number, h_this_set] [(h_this, .inr (5, [.int v_thrown, .int v_wires, .int v_isOpen, .int v_isEmpty, .int v_came, .int v_there, .int v_halves, .ref h_this_number, .ref h_this_set, .ref h_this_constant, .int v_rules, .ref h_this_ruleKind, .ref h_this_ruleBit, .ref h_this_ruleOther, .int v_alone, .int v_halfBits, .ref h_this_oldSet, .ref h_this_oldNumber, .ref h_this_allSets, .ref h_this_allNumbers, .int v_allMany, .ref h_this_root])), (h_this_constant, .inl (cI, 6, .inl v_constant)), (h_this_number, .inl (cI, 15625, .inl v_number)), (h_this_set, .inl (cI, 6, .inl v_set))] 19 [(0, .ref h_this), (1, .int x1), (2, .int x2), (3, .int x3), (4, .int x4)] [] := by
  unfold f_Md_addTwo_l19 at hf
  refine z_iload C d_Md_addTwo_19 4 rfl ?_
  refine z_bipush (v := 24) C d_Md_addTwo_21 (by decide) ?_
  refine z_icmp_ge (tgt := 58) C d_Md_addTwo_23 (by decide) (fun c_1 => ?_) (fun c_1 => ?_)
  · have hf := zif_pos c_1 hf
    refine z_lv [] rfl ?_
    cases hf
    exact hK
  · have hf := zif_neg c_1 hf
    refine z_aload_n C d_Md_addTwo_26 rfl 0 rfl ?_
    refine z_get C iw_Md 0 rfl rfl 8 (by decide) zw_506 rfl d_Md_addTwo_27 ?_
    refine z_iload_n C d_Md_addTwo_30 rfl 1 rfl ?_
    obtain ⟨g_2, hf⟩ := zguard hf
    refine z_iald C 3 0 rfl rfl g_2 d_Md_addTwo_31 ?_
    refine z_iload C d_Md_addTwo_32 4 rfl ?_
    refine z_ishr C d_Md_addTwo_34 ?_
    refine z_iconst (v := 1) C d_Md_addTwo_35 (by decide) ?_
    refine z_iand C d_Md_addTwo_36 ?_
    refine z_iconst (v := 1) C d_Md_addTwo_37 (by decide) ?_
    refine z_icmp_ne (tgt := 52) C d_Md_addTwo_38 (by decide) (fun c_3 => ?_) (fun c_3 => ?_)
    · have hf := zif_neg c_3 hf
      obtain ⟨y_7, ey_7⟩ : ∃ y : Int32, y = x4 + 1 := ⟨_, rfl⟩
      have hf := zlet_at ey_7 hf
      refine z_iinc (v := y_7) (lv' := [(4, .int y_7), (0, .ref h_this), (1, .int x1), (2, .int x2), (3, .int x3)]) C d_Md_addTwo_52 (k := 4) rfl (by rw [ey_7]; rfl) (by decide) rfl ?_
      refine z_goto (tgt := 19) C d_Md_addTwo_55 (by decide) ?_
      refine z_lv [1, 2, 3, 4, 0] rfl ?_
      cases hf
      exact hK
    · have hf := zif_pos c_3 hf
      refine z_aload_n C d_Md_addTwo_41 rfl 0 rfl ?_
      refine z_iload_n C d_Md_addTwo_42 rfl 2 rfl ?_
      refine z_iload_n C d_Md_addTwo_43 rfl 3 rfl ?_
      refine z_iconst (v := 1) C d_Md_addTwo_44 (by decide) ?_
      refine z_iload C d_Md_addTwo_45 4 rfl ?_
      refine z_ishl C d_Md_addTwo_47 ?_
      refine z_ior C d_Md_addTwo_48 ?_
      obtain ⟨q_5, h_4, hf⟩ := zb1_elim hf
      refine z_callV (As := [.int x2, .int (x3 ||| ((1 : Int32) <<< (x4 &&& 31)))]) (rest := []) (ws' := [(h_this, .inr (5, [.int v_thrown, .int v_wires, .int v_isOpen, .int v_isEmpty, .int v_came, .int v_there, .int v_halves, .ref h_this_number, .ref h_this_set, .ref h_this_constant, .int v_rules, .ref h_this_ruleKind, .ref h_this_ruleBit, .ref h_this_ruleOther, .int v_alone, .int v_halfBits, .ref h_this_oldSet, .ref h_this_oldNumber, .ref h_this_allSets, .ref h_this_allNumbers, .int v_allMany, .ref h_this_root])), (h_this_constant, .inl (cI, 6, .inl v_constant)), (h_this_number, .inl (cI, 15625, .inl q_5)), (h_this_set, .inl (cI, 6, .inl v_set))]) C (c_Md_addHalf h_4) mi_Md_addHalf zw_597 (by decide) 0 rfl rfl [0, 1, 2, 3] (by decide) rfl rfl rfl rfl rfl (by decide) ⟨Nat.zero_le _, Nat.zero_le _⟩ d_Md_addTwo_49 ?_
      obtain ⟨y_6, ey_6⟩ : ∃ y : Int32, y = x4 + 1 := ⟨_, rfl⟩
      have hf := zlet_at ey_6 hf
      refine z_iinc (v := y_6) (lv' := [(4, .int y_6), (0, .ref h_this), (1, .int x1), (2, .int x2), (3, .int x3)]) C d_Md_addTwo_52 (k := 4) rfl (by rw [ey_6]; rfl) (by decide) rfl ?_
      refine z_goto (tgt := 19) C d_Md_addTwo_55 (by decide) ?_
      refine z_lv [1, 2, 3, 4, 0] rfl ?_
      cases hf
      exact hK
theorem k_Md_addTwo_l19_run {p : Program} {l : Launch} {e : Env} {s : State} {m : MethodId} {args : Array Value} {below : List Frame} {meth : Method} {c : Code} {D : va_G} {cI cL : ClassId} {h_this h_this_number h_this_set h_this_constant h_this_ruleKind h_this_ruleBit h_this_ruleOther h_this_oldSet h_this_oldNumber h_this_allSets h_this_allNumbers h_this_root : Nat} {v_thrown v_wires v_isOpen v_isEmpty v_came v_there v_halves v_rules v_alone v_halfBits v_allMany x1 x2 x3 x4 : Int32} {v_constant v_number v_set o_number : Nat → Int32} (C : zC p s m args meth c b_Md_addTwo 5 R_Md D vwCl [(cI, .int), (cL, .long)] (zA [h_this, h_this_constant, h_this_number, h_this_set] s.heap.size)) (hr : meth.sig.returnType = none) {o0 : Nat → Int32} (hf : zloop (fun q => f_Md_addTwo_l19 x1 x2 x3 v_constant v_set q.1 q.2) zF (x4, v_number) = some o0) (hK : ZV p l e rm_Md_addTwo s m args below meth c 5 D (none) [(h_this, .inr (5, [.int v_thrown, .int v_wires, .int v_isOpen, .int v_isEmpty, .int v_came, .int v_there, .int v_halves, .ref h_this_number, .ref h_this_set, .ref h_this_constant, .int v_rules, .ref h_this_ruleKind, .ref h_this_ruleBit, .ref h_this_ruleOther, .int v_alone, .int v_halfBits, .ref h_this_oldSet, .ref h_this_oldNumber, .ref h_this_allSets, .ref h_this_allNumbers, .int v_allMany, .ref h_this_root])), (h_this_constant, .inl (cI, 6, .inl v_constant)), (h_this_number, .inl (cI, 15625, .inl o_number)), (h_this_set, .inl (cI, 6, .inl v_set))] [h_this, h_this_constant, h_this_number, h_this_set] [(h_this, .inr (5, [.int v_thrown, .int v_wires, .int v_isOpen, .int v_isEmpty, .int v_came, .int v_there, .int v_halves, .ref h_this_number, .ref h_this_set, .ref h_this_constant, .int v_rules, .ref h_this_ruleKind, .ref h_this_ruleBit, .ref h_this_ruleOther, .int v_alone, .int v_halfBits, .ref h_this_oldSet, .ref h_this_oldNumber, .ref h_this_allSets, .ref h_this_allNumbers, .int v_allMany, .ref h_this_root])), (h_this_constant, .inl (cI, 6, .inl v_constant)), (h_this_number, .inl (cI, 15625, .inl o0)), (h_this_set, .inl (cI, 6, .inl v_set))] 58 [] []) : ZV p l e rm_Md_addTwo s m args below meth c 5 D (none) [(h_this, .inr (5, [.int v_thrown, .int v_wires, .int v_isOpen, .int v_isEmpty, .int v_came, .int v_there, .int v_halves, .ref h_this_number, .ref h_this_set, .ref h_this_constant, .int v_rules, .ref h_this_ruleKind, .ref h_this_ruleBit, .ref h_this_ruleOther, .int v_alone, .int v_halfBits, .ref h_this_oldSet, .ref h_this_oldNumber, .ref h_this_allSets, .ref h_this_allNumbers, .int v_allMany, .ref h_this_root])), (h_this_constant, .inl (cI, 6, .inl v_constant)), (h_this_number, .inl (cI, 15625, .inl o_number)), (h_this_set, .inl (cI, 6, .inl v_set))] [h_this, h_this_constant, h_this_number, h_this_set] [(h_this, .inr (5, [.int v_thrown, .int v_wires, .int v_isOpen, .int v_isEmpty, .int v_came, .int v_there, .int v_halves, .ref h_this_number, .ref h_this_set, .ref h_this_constant, .int v_rules, .ref h_this_ruleKind, .ref h_this_ruleBit, .ref h_this_ruleOther, .int v_alone, .int v_halfBits, .ref h_this_oldSet, .ref h_this_oldNumber, .ref h_this_allSets, .ref h_this_allNumbers, .int v_allMany, .ref h_this_root])), (h_this_constant, .inl (cI, 6, .inl v_constant)), (h_this_number, .inl (cI, 15625, .inl v_number)), (h_this_set, .inl (cI, 6, .inl v_set))] 19 [(0, .ref h_this), (1, .int x1), (2, .int x2), (3, .int x3), (4, .int x4)] [] :=
  zloop_run (P := fun q => ZV p l e rm_Md_addTwo s m args below meth c 5 D (none) [(h_this, .inr (5, [.int v_thrown, .int v_wires, .int v_isOpen, .int v_isEmpty, .int v_came, .int v_there, .int v_halves, .ref h_this_number, .ref h_this_set, .ref h_this_constant, .int v_rules, .ref h_this_ruleKind, .ref h_this_ruleBit, .ref h_this_ruleOther, .int v_alone, .int v_halfBits, .ref h_this_oldSet, .ref h_this_oldNumber, .ref h_this_allSets, .ref h_this_allNumbers, .int v_allMany, .ref h_this_root])), (h_this_constant, .inl (cI, 6, .inl v_constant)), (h_this_number, .inl (cI, 15625, .inl o_number)), (h_this_set, .inl (cI, 6, .inl v_set))] [h_this, h_this_constant, h_this_number, h_this_set] [(h_this, .inr (5, [.int v_thrown, .int v_wires, .int v_isOpen, .int v_isEmpty, .int v_came, .int v_there, .int v_halves, .ref h_this_number, .ref h_this_set, .ref h_this_constant, .int v_rules, .ref h_this_ruleKind, .ref h_this_ruleBit, .ref h_this_ruleOther, .int v_alone, .int v_halfBits, .ref h_this_oldSet, .ref h_this_oldNumber, .ref h_this_allSets, .ref h_this_allNumbers, .int v_allMany, .ref h_this_root])), (h_this_constant, .inl (cI, 6, .inl v_constant)), (h_this_number, .inl (cI, 15625, .inl q.2)), (h_this_set, .inl (cI, 6, .inl v_set))] 19 [(0, .ref h_this), (1, .int x1), (2, .int x2), (3, .int x3), (4, .int q.1)] []) (K := (fun q => ZV p l e rm_Md_addTwo s m args below meth c 5 D (none) [(h_this, .inr (5, [.int v_thrown, .int v_wires, .int v_isOpen, .int v_isEmpty, .int v_came, .int v_there, .int v_halves, .ref h_this_number, .ref h_this_set, .ref h_this_constant, .int v_rules, .ref h_this_ruleKind, .ref h_this_ruleBit, .ref h_this_ruleOther, .int v_alone, .int v_halfBits, .ref h_this_oldSet, .ref h_this_oldNumber, .ref h_this_allSets, .ref h_this_allNumbers, .int v_allMany, .ref h_this_root])), (h_this_constant, .inl (cI, 6, .inl v_constant)), (h_this_number, .inl (cI, 15625, .inl o_number)), (h_this_set, .inl (cI, 6, .inl v_set))] [h_this, h_this_constant, h_this_number, h_this_set] [(h_this, .inr (5, [.int v_thrown, .int v_wires, .int v_isOpen, .int v_isEmpty, .int v_came, .int v_there, .int v_halves, .ref h_this_number, .ref h_this_set, .ref h_this_constant, .int v_rules, .ref h_this_ruleKind, .ref h_this_ruleBit, .ref h_this_ruleOther, .int v_alone, .int v_halfBits, .ref h_this_oldSet, .ref h_this_oldNumber, .ref h_this_allSets, .ref h_this_allNumbers, .int v_allMany, .ref h_this_root])), (h_this_constant, .inl (cI, 6, .inl v_constant)), (h_this_number, .inl (cI, 15625, .inl q)), (h_this_set, .inl (cI, 6, .inl v_set))] 58 [] [])) (fun q z hz hK => k_Md_addTwo_l19 C hr hz hK) zF _ (o0) hf hK
def f_Md_addTwo_j16 (x1 : Int32) (x2 : Int32) (x3 : Int32) (v_constant : Nat → Int32) (v_number : Nat → Int32) (v_set : Nat → Int32) : Option ((Nat → Int32)) :=
  zb1 (zloop (fun q => f_Md_addTwo_l19 x1 x2 x3 v_constant v_set q.1 q.2) zF ((0 : Int32), v_number)) fun q_1 =>
  some (q_1)
set_option maxRecDepth 100000 in
set_option maxHeartbeats 4000000 in
theorem k_Md_addTwo_j16 {p : Program} {l : Launch} {e : Env} {s : State} {m : MethodId} {args : Array Value} {below : List Frame} {meth : Method} {c : Code} {D : va_G} {cI cL : ClassId} {h_this h_this_number h_this_set h_this_constant h_this_ruleKind h_this_ruleBit h_this_ruleOther h_this_oldSet h_this_oldNumber h_this_allSets h_this_allNumbers h_this_root : Nat} {v_thrown v_wires v_isOpen v_isEmpty v_came v_there v_halves v_rules v_alone v_halfBits v_allMany x1 x2 x3 : Int32} {v_constant v_number v_set o_number : Nat → Int32}  (C : zC p s m args meth c b_Md_addTwo 5 R_Md D vwCl [(cI, .int), (cL, .long)] (zA [h_this, h_this_constant, h_this_number, h_this_set] s.heap.size)) (hr : meth.sig.returnType = none) (hf : f_Md_addTwo_j16 x1 x2 x3 v_constant v_number v_set = some o_number) : ZV p l e rm_Md_addTwo s m args below meth c 5 D (none) [(h_this, .inr (5, [.int v_thrown, .int v_wires, .int v_isOpen, .int v_isEmpty, .int v_came, .int v_there, .int v_halves, .ref h_this_number, .ref h_this_set, .ref h_this_constant, .int v_rules, .ref h_this_ruleKind, .ref h_this_ruleBit, .ref h_this_ruleOther, .int v_alone, .int v_halfBits, .ref h_this_oldSet, .ref h_this_oldNumber, .ref h_this_allSets, .ref h_this_allNumbers, .int v_allMany, .ref h_this_root])), (h_this_constant, .inl (cI, 6, .inl v_constant)), (h_this_number, .inl (cI, 15625, .inl o_number)), (h_this_set, .inl (cI, 6, .inl v_set))] [h_this, h_this_constant, h_this_number, h_this_set] [(h_this, .inr (5, [.int v_thrown, .int v_wires, .int v_isOpen, .int v_isEmpty, .int v_came, .int v_there, .int v_halves, .ref h_this_number, .ref h_this_set, .ref h_this_constant, .int v_rules, .ref h_this_ruleKind, .ref h_this_ruleBit, .ref h_this_ruleOther, .int v_alone, .int v_halfBits, .ref h_this_oldSet, .ref h_this_oldNumber, .ref h_this_allSets, .ref h_this_allNumbers, .int v_allMany, .ref h_this_root])), (h_this_constant, .inl (cI, 6, .inl v_constant)), (h_this_number, .inl (cI, 15625, .inl v_number)), (h_this_set, .inl (cI, 6, .inl v_set))] 16 [(0, .ref h_this), (1, .int x1), (2, .int x2), (3, .int x3)] [] := by
  unfold f_Md_addTwo_j16 at hf
  refine z_iconst (v := 0) C d_Md_addTwo_16 (by decide) ?_
  refine z_istore (lv' := [(4, .int (0 : Int32)), (0, .ref h_this), (1, .int x1), (2, .int x2), (3, .int x3)]) C d_Md_addTwo_17 (by decide) rfl ?_
  refine z_lv [1, 2, 3, 4, 0] rfl ?_
  obtain ⟨q_1, h_2, hf⟩ := zb1_elim hf
  refine k_Md_addTwo_l19_run C hr h_2 ?_
  cases hf
  exact z_vret C hr d_Md_addTwo_58
/-- PathSumsModel.addTwo(III)V -/
def f_Md_addTwo (x1 : Int32) (x2 : Int32) (x3 : Int32) (v_constant : Nat → Int32) (v_number : Nat → Int32) (v_set : Nat → Int32) : Option ((Nat → Int32)) :=
  if x1 < 0 ∨ 6 ≤ x1.toNatClampNeg then none else
  if (v_constant x1.toNatClampNeg) = (1 : Int32) then (
    zb1 (f_Md_addHalf x2 x3 v_constant v_number v_set) fun q_4 =>
    f_Md_addTwo_j16 x1 x2 x3 v_constant q_4 v_set)
  else (
    f_Md_addTwo_j16 x1 x2 x3 v_constant v_number v_set)
set_option maxRecDepth 100000 in
set_option maxHeartbeats 4000000 in
theorem k_Md_addTwo {p : Program} {l : Launch} {e : Env} {s : State} {m : MethodId} {args : Array Value} {below : List Frame} {meth : Method} {c : Code} {D : va_G} {cI cL : ClassId} {h_this h_this_number h_this_set h_this_constant h_this_ruleKind h_this_ruleBit h_this_ruleOther h_this_oldSet h_this_oldNumber h_this_allSets h_this_allNumbers h_this_root : Nat} {v_thrown v_wires v_isOpen v_isEmpty v_came v_there v_halves v_rules v_alone v_halfBits v_allMany x1 x2 x3 : Int32} {v_constant v_number v_set o_number : Nat → Int32} (C : zC p s m args meth c b_Md_addTwo 5 R_Md D vwCl [(cI, .int), (cL, .long)] (zA [h_this, h_this_constant, h_this_number, h_this_set] s.heap.size)) (hr : meth.sig.returnType = none) (hf : f_Md_addTwo x1 x2 x3 v_constant v_number v_set = some o_number) : ZV p l e rm_Md_addTwo s m args below meth c 5 D (none) [(h_this, .inr (5, [.int v_thrown, .int v_wires, .int v_isOpen, .int v_isEmpty, .int v_came, .int v_there, .int v_halves, .ref h_this_number, .ref h_this_set, .ref h_this_constant, .int v_rules, .ref h_this_ruleKind, .ref h_this_ruleBit, .ref h_this_ruleOther, .int v_alone, .int v_halfBits, .ref h_this_oldSet, .ref h_this_oldNumber, .ref h_this_allSets, .ref h_this_allNumbers, .int v_allMany, .ref h_this_root])), (h_this_constant, .inl (cI, 6, .inl v_constant)), (h_this_number, .inl (cI, 15625, .inl o_number)), (h_this_set, .inl (cI, 6, .inl v_set))] [h_this, h_this_constant, h_this_number, h_this_set] [(h_this, .inr (5, [.int v_thrown, .int v_wires, .int v_isOpen, .int v_isEmpty, .int v_came, .int v_there, .int v_halves, .ref h_this_number, .ref h_this_set, .ref h_this_constant, .int v_rules, .ref h_this_ruleKind, .ref h_this_ruleBit, .ref h_this_ruleOther, .int v_alone, .int v_halfBits, .ref h_this_oldSet, .ref h_this_oldNumber, .ref h_this_allSets, .ref h_this_allNumbers, .int v_allMany, .ref h_this_root])), (h_this_constant, .inl (cI, 6, .inl v_constant)), (h_this_number, .inl (cI, 15625, .inl v_number)), (h_this_set, .inl (cI, 6, .inl v_set))] 0 [(0, .ref h_this), (1, .int x1), (2, .int x2), (3, .int x3)] [] := by
  unfold f_Md_addTwo at hf
  refine z_aload_n C d_Md_addTwo_0 rfl 0 rfl ?_
  refine z_get C iw_Md 0 rfl rfl 9 (by decide) zw_507 rfl d_Md_addTwo_1 ?_
  refine z_iload_n C d_Md_addTwo_4 rfl 1 rfl ?_
  obtain ⟨g_1, hf⟩ := zguard hf
  refine z_iald C 1 0 rfl rfl g_1 d_Md_addTwo_5 ?_
  refine z_iconst (v := 1) C d_Md_addTwo_6 (by decide) ?_
  refine z_icmp_ne (tgt := 16) C d_Md_addTwo_7 (by decide) (fun c_2 => ?_) (fun c_2 => ?_)
  · have hf := zif_neg c_2 hf
    exact k_Md_addTwo_j16 C hr hf
  · have hf := zif_pos c_2 hf
    refine z_aload_n C d_Md_addTwo_10 rfl 0 rfl ?_
    refine z_iload_n C d_Md_addTwo_11 rfl 2 rfl ?_
    refine z_iload_n C d_Md_addTwo_12 rfl 3 rfl ?_
    obtain ⟨q_4, h_3, hf⟩ := zb1_elim hf
    refine z_callV (As := [.int x2, .int x3]) (rest := []) (ws' := [(h_this, .inr (5, [.int v_thrown, .int v_wires, .int v_isOpen, .int v_isEmpty, .int v_came, .int v_there, .int v_halves, .ref h_this_number, .ref h_this_set, .ref h_this_constant, .int v_rules, .ref h_this_ruleKind, .ref h_this_ruleBit, .ref h_this_ruleOther, .int v_alone, .int v_halfBits, .ref h_this_oldSet, .ref h_this_oldNumber, .ref h_this_allSets, .ref h_this_allNumbers, .int v_allMany, .ref h_this_root])), (h_this_constant, .inl (cI, 6, .inl v_constant)), (h_this_number, .inl (cI, 15625, .inl q_4)), (h_this_set, .inl (cI, 6, .inl v_set))]) C (c_Md_addHalf h_3) mi_Md_addHalf zw_597 (by decide) 0 rfl rfl [0, 1, 2, 3] (by decide) rfl rfl rfl rfl rfl (by decide) ⟨Nat.zero_le _, Nat.zero_le _⟩ d_Md_addTwo_13 ?_
    exact k_Md_addTwo_j16 C hr hf
theorem c_Md_addTwo {l : Launch} {D : va_G} {cI cL : ClassId} {h_this h_this_number h_this_set h_this_constant h_this_ruleKind h_this_ruleBit h_this_ruleOther h_this_oldSet h_this_oldNumber h_this_allSets h_this_allNumbers h_this_root : Nat} {v_thrown v_wires v_isOpen v_isEmpty v_came v_there v_halves v_rules v_alone v_halfBits v_allMany x1 x2 x3 : Int32} {v_constant v_number v_set o_number : Nat → Int32} (hf : f_Md_addTwo x1 x2 x3 v_constant v_number v_set = some o_number) : zM l y_Md_addTwo (Cond.code y_Md_addTwo b_Md_addTwo 5 none :: zT) rm_Md_addTwo D vwCl [(cI, .int), (cL, .long)] [.ref h_this, .int x1, .int x2, .int x3] [(h_this, .inr (5, [.int v_thrown, .int v_wires, .int v_isOpen, .int v_isEmpty, .int v_came, .int v_there, .int v_halves, .ref h_this_number, .ref h_this_set, .ref h_this_constant, .int v_rules, .ref h_this_ruleKind, .ref h_this_ruleBit, .ref h_this_ruleOther, .int v_alone, .int v_halfBits, .ref h_this_oldSet, .ref h_this_oldNumber, .ref h_this_allSets, .ref h_this_allNumbers, .int v_allMany, .ref h_this_root])), (h_this_constant, .inl (cI, 6, .inl v_constant)), (h_this_number, .inl (cI, 15625, .inl v_number)), (h_this_set, .inl (cI, 6, .inl v_set))] [(h_this, .inr (5, [.int v_thrown, .int v_wires, .int v_isOpen, .int v_isEmpty, .int v_came, .int v_there, .int v_halves, .ref h_this_number, .ref h_this_set, .ref h_this_constant, .int v_rules, .ref h_this_ruleKind, .ref h_this_ruleBit, .ref h_this_ruleOther, .int v_alone, .int v_halfBits, .ref h_this_oldSet, .ref h_this_oldNumber, .ref h_this_allSets, .ref h_this_allNumbers, .int v_allMany, .ref h_this_root])), (h_this_constant, .inl (cI, 6, .inl v_constant)), (h_this_number, .inl (cI, 15625, .inl o_number)), (h_this_set, .inl (cI, 6, .inl v_set))] (none) :=
  zM.intro (by decide) rfl (fun _ h => List.mem_cons_of_mem _ h) (Nat.le_of_ble_eq_true rfl) (fun _ _ _ _ _ _ _ C hr _ => k_Md_addTwo C hr hf)
def rm_Md_addThree : Room := { frames := 4, cells := 0, slots := 0, locals := 93 }
def f_Md_addThree_l20 (x1 : Int32) (x2 : Int32) (x3 : Int32) (v_constant : Nat → Int32) (v_set : Nat → Int32) (x4 : Int32) (v_number : Nat → Int32) : Option ((Int32 × (Nat → Int32)) ⊕ ((Nat → Int32))) :=
  if (24 : Int32) ≤ x4 then (
    some (.inr (v_number)))
  else (
    if x1 < 0 ∨ 6 ≤ x1.toNatClampNeg then none else
    if (((v_set x1.toNatClampNeg) >>> (x4 &&& 31)) &&& (1 : Int32)) = (1 : Int32) then (
      zb1 (f_Md_addTwo x2 x3 ((1 : Int32) <<< (x4 &&& 31)) v_constant v_number v_set) fun q_5 =>
      zlet (x4 + 1) fun y_6 =>
      some (.inl (y_6, q_5)))
    else (
      zlet (x4 + 1) fun y_7 =>
      some (.inl (y_7, v_number))))
set_option maxRecDepth 100000 in
set_option maxHeartbeats 4000000 in
theorem k_Md_addThree_l20 {p : Program} {l : Launch} {e : Env} {s : State} {m : MethodId} {args : Array Value} {below : List Frame} {meth : Method} {c : Code} {D : va_G} {cI cL : ClassId} {h_this h_this_number h_this_set h_this_constant h_this_ruleKind h_this_ruleBit h_this_ruleOther h_this_oldSet h_this_oldNumber h_this_allSets h_this_allNumbers h_this_root : Nat} {v_thrown v_wires v_isOpen v_isEmpty v_came v_there v_halves v_rules v_alone v_halfBits v_allMany x1 x2 x3 x4 : Int32} {v_constant v_number v_set o_number : Nat → Int32} (C : zC p s m args meth c b_Md_addThree 5 R_Md D vwCl [(cI, .int), (cL, .long)] (zA [h_this, h_this_constant, h_this_number, h_this_set] s.heap.size)) (hr : meth.sig.returnType = none) {z : (Int32 × (Nat → Int32)) ⊕ ((Nat → Int32))} (hf : f_Md_addThree_l20 x1 x2 x3 v_constant v_set x4 v_number = some z) (hK : zcase (fun q => ZV p l e rm_Md_addThree s m args below meth c 5 D (none) [(h_this, .inr (5, [.int v_thrown, .int v_wires, .int v_isOpen, .int v_isEmpty, .int v_came, .int v_there, .int v_halves, .ref h_this_number, .ref h_this_set, .ref h_this_constant, .int v_rules, .ref h_this_ruleKind, .ref h_this_ruleBit, .ref h_this_ruleOther, .int v_alone, .int v_halfBits, .ref h_this_oldSet, .ref h_this_oldNumber, .ref h_this_allSets, .ref h_this_allNumbers, .int v_allMany, .ref h_this_root])), (h_this_constant, .inl (cI, 6, .inl v_constant)), (h_this_number, .inl (cI, 15625, .inl o_number)), (h_this_set, .inl (cI, 6, .inl v_set))] [h_this, h_this_constant, h_this_number, h_this_set] [(h_this, .inr (5, [.int v_thrown, .int v_wires, .int v_isOpen, .int v_isEmpty, .int v_came, .int v_there, .int v_halves, .ref h_this_number, .ref h_this_set, .ref h_this_constant, .int v_rules, .ref h_this_ruleKind, .ref h_this_ruleBit, .ref h_this_ruleOther, .int v_alone, .int v_halfBits, .ref h_this_oldSet, .ref h_this_oldNumber, .ref h_this_allSets, .ref h_this_allNumbers, .int v_allMany, .ref h_this_root])), (h_this_constant, .inl (cI, 6, .inl v_constant)), (h_this_number, .inl (cI, 15625, .inl q.2)), (h_this_set, .inl (cI, 6, .inl v_set))] 20 [(0, .ref h_this), (1, .int x1), (2, .int x2), (3, .int x3), (4, .int q.1)] []) (fun q => ZV p l e rm_Md_addThree s m args below meth c 5 D (none) [(h_this, .inr (5, [.int v_thrown, .int v_wires, .int v_isOpen, .int v_isEmpty, .int v_came, .int v_there, .int v_halves, .ref h_this_number, .ref h_this_set, .ref h_this_constant, .int v_rules, .ref h_this_ruleKind, .ref h_this_ruleBit, .ref h_this_ruleOther, .int v_alone, .int v_halfBits, .ref h_this_oldSet, .ref h_this_oldNumber, .ref h_this_allSets, .ref h_this_allNumbers, .int v_allMany, .ref h_this_root])), (h_this_constant, .inl (cI, 6, .inl v_constant)), (h_this_number, .inl (cI, 15625, .inl o_number)), (h_this_set, .inl (cI, 6, .inl v_set))] [h_this, h_this_constant, h_this_number, h_this_set] [(h_this, .inr (5, [.int v_thrown, .int v_wires, .int v_isOpen, .int v_isEmpty, .int v_came, .int v_there, .int v_halves, .ref h_this_number, .ref h_this_set, .ref h_this_constant, .int v_rules, .ref h_this_ruleKind, .ref h_this_ruleBit, .ref h_this_ruleOther, .int v_alone, .int v_halfBits, .ref h_this_oldSet, .ref h_this_oldNumber, .ref h_this_allSets, .ref h_this_allNumbers, .int v_allMany, .ref h_this_root])), (h_this_constant, .inl (cI, 6, .inl v_constant)), (h_this_number, .inl (cI, 15625, .inl q)), (h_this_set, .inl (cI, 6, .inl v_set))] 58 [] []) z) : ZV p l e rm_Md_addThree s m args below meth c 5 D (none) [(h_this, .inr (5, [.int v_thrown, .int v_wires, .int v_isOpen, .int v_isEmpty, .int v_came, .int v_there, .int v_halves, .ref h_this_number, .ref h_this_set, .ref h_this_constant, .int v_rules, .ref h_this_ruleKind, .ref h_this_ruleBit, .ref h_this_ruleOther, .int v_alone, .int v_halfBits, .ref h_this_oldSet, .ref h_this_oldNumber, .ref h_this_allSets, .ref h_this_allNumbers, .int v_allMany, .ref h_this_root])), (h_this_constant, .inl (cI, 6, .inl v_constant)), (h_this_number, .inl (cI, 15625, .inl o_number)), (h_this_set, .inl (cI, 6, .inl v_set))] [h_this, h_this_constant, h_this_number, h_this_set] [(h_this, .inr (5, [.int v_thrown, .int v_wires, .int v_isOpen, .int v_isEmpty, .int v_came, .int v_there, .int v_halves, .ref h_this_number, .ref h_this_set, .ref h_this_constant, .int v_rules, .ref h_this_ruleKind, .ref h_this_ruleBit, .ref h_this_ruleOther, .int v_alone, .int v_halfBits, .ref h_this_oldSet, .ref h_this_oldNumber, .ref h_this_allSets, .ref h_this_allNumbers, .int v_allMany, .ref h_this_root])), (h_this_constant, .inl (cI, 6, .inl v_constant)), (h_this_number, .inl (cI, 15625, .inl v_number)), (h_this_set, .inl (cI, 6, .inl v_set))] 20 [(0, .ref h_this), (1, .int x1), (2, .int x2), (3, .int x3), (4, .int x4)] [] := by
  unfold f_Md_addThree_l20 at hf
  refine z_iload C d_Md_addThree_20 4 rfl ?_
  refine z_bipush (v := 24) C d_Md_addThree_22 (by decide) ?_
  refine z_icmp_ge (tgt := 58) C d_Md_addThree_24 (by decide) (fun c_1 => ?_) (fun c_1 => ?_)
  · have hf := zif_pos c_1 hf
    refine z_lv [] rfl ?_
    cases hf
    exact hK
  · have hf := zif_neg c_1 hf
    refine z_aload_n C d_Md_addThree_27 rfl 0 rfl ?_
    refine z_get C iw_Md 0 rfl rfl 8 (by decide) zw_506 rfl d_Md_addThree_28 ?_
    refine z_iload_n C d_Md_addThree_31 rfl 1 rfl ?_
    obtain ⟨g_2, hf⟩ := zguard hf
    refine z_iald C 3 0 rfl rfl g_2 d_Md_addThree_32 ?_
    refine z_iload C d_Md_addThree_33 4 rfl ?_
    refine z_ishr C d_Md_addThree_35 ?_
    refine z_iconst (v := 1) C d_Md_addThree_36 (by decide) ?_
    refine z_iand C d_Md_addThree_37 ?_
    refine z_iconst (v := 1) C d_Md_addThree_38 (by decide) ?_
    refine z_icmp_ne (tgt := 52) C d_Md_addThree_39 (by decide) (fun c_3 => ?_) (fun c_3 => ?_)
    · have hf := zif_neg c_3 hf
      obtain ⟨y_7, ey_7⟩ : ∃ y : Int32, y = x4 + 1 := ⟨_, rfl⟩
      have hf := zlet_at ey_7 hf
      refine z_iinc (v := y_7) (lv' := [(4, .int y_7), (0, .ref h_this), (1, .int x1), (2, .int x2), (3, .int x3)]) C d_Md_addThree_52 (k := 4) rfl (by rw [ey_7]; rfl) (by decide) rfl ?_
      refine z_goto (tgt := 20) C d_Md_addThree_55 (by decide) ?_
      refine z_lv [1, 2, 3, 4, 0] rfl ?_
      cases hf
      exact hK
    · have hf := zif_pos c_3 hf
      refine z_aload_n C d_Md_addThree_42 rfl 0 rfl ?_
      refine z_iload_n C d_Md_addThree_43 rfl 2 rfl ?_
      refine z_iload_n C d_Md_addThree_44 rfl 3 rfl ?_
      refine z_iconst (v := 1) C d_Md_addThree_45 (by decide) ?_
      refine z_iload C d_Md_addThree_46 4 rfl ?_
      refine z_ishl C d_Md_addThree_48 ?_
      obtain ⟨q_5, h_4, hf⟩ := zb1_elim hf
      refine z_callV (As := [.int x2, .int x3, .int ((1 : Int32) <<< (x4 &&& 31))]) (rest := []) (ws' := [(h_this, .inr (5, [.int v_thrown, .int v_wires, .int v_isOpen, .int v_isEmpty, .int v_came, .int v_there, .int v_halves, .ref h_this_number, .ref h_this_set, .ref h_this_constant, .int v_rules, .ref h_this_ruleKind, .ref h_this_ruleBit, .ref h_this_ruleOther, .int v_alone, .int v_halfBits, .ref h_this_oldSet, .ref h_this_oldNumber, .ref h_this_allSets, .ref h_this_allNumbers, .int v_allMany, .ref h_this_root])), (h_this_constant, .inl (cI, 6, .inl v_constant)), (h_this_number, .inl (cI, 15625, .inl q_5)), (h_this_set, .inl (cI, 6, .inl v_set))]) C (c_Md_addTwo h_4) mi_Md_addTwo zw_593 (by decide) 0 rfl rfl [0, 1, 2, 3] (by decide) rfl rfl rfl rfl rfl (by decide) ⟨Nat.zero_le _, Nat.zero_le _⟩ d_Md_addThree_49 ?_
      obtain ⟨y_6, ey_6⟩ : ∃ y : Int32, y = x4 + 1 := ⟨_, rfl⟩
      have hf := zlet_at ey_6 hf
      refine z_iinc (v := y_6) (lv' := [(4, .int y_6), (0, .ref h_this), (1, .int x1), (2, .int x2), (3, .int x3)]) C d_Md_addThree_52 (k := 4) rfl (by rw [ey_6]; rfl) (by decide) rfl ?_
      refine z_goto (tgt := 20) C d_Md_addThree_55 (by decide) ?_
      refine z_lv [1, 2, 3, 4, 0] rfl ?_
      cases hf
      exact hK
theorem k_Md_addThree_l20_run {p : Program} {l : Launch} {e : Env} {s : State} {m : MethodId} {args : Array Value} {below : List Frame} {meth : Method} {c : Code} {D : va_G} {cI cL : ClassId} {h_this h_this_number h_this_set h_this_constant h_this_ruleKind h_this_ruleBit h_this_ruleOther h_this_oldSet h_this_oldNumber h_this_allSets h_this_allNumbers h_this_root : Nat} {v_thrown v_wires v_isOpen v_isEmpty v_came v_there v_halves v_rules v_alone v_halfBits v_allMany x1 x2 x3 x4 : Int32} {v_constant v_number v_set o_number : Nat → Int32} (C : zC p s m args meth c b_Md_addThree 5 R_Md D vwCl [(cI, .int), (cL, .long)] (zA [h_this, h_this_constant, h_this_number, h_this_set] s.heap.size)) (hr : meth.sig.returnType = none) {o0 : Nat → Int32} (hf : zloop (fun q => f_Md_addThree_l20 x1 x2 x3 v_constant v_set q.1 q.2) zF (x4, v_number) = some o0) (hK : ZV p l e rm_Md_addThree s m args below meth c 5 D (none) [(h_this, .inr (5, [.int v_thrown, .int v_wires, .int v_isOpen, .int v_isEmpty, .int v_came, .int v_there, .int v_halves, .ref h_this_number, .ref h_this_set, .ref h_this_constant, .int v_rules, .ref h_this_ruleKind, .ref h_this_ruleBit, .ref h_this_ruleOther, .int v_alone, .int v_halfBits, .ref h_this_oldSet, .ref h_this_oldNumber, .ref h_this_allSets, .ref h_this_allNumbers, .int v_allMany, .ref h_this_root])), (h_this_constant, .inl (cI, 6, .inl v_constant)), (h_this_number, .inl (cI, 15625, .inl o_number)), (h_this_set, .inl (cI, 6, .inl v_set))] [h_this, h_this_constant, h_this_number, h_this_set] [(h_this, .inr (5, [.int v_thrown, .int v_wires, .int v_isOpen, .int v_isEmpty, .int v_came, .int v_there, .int v_halves, .ref h_this_number, .ref h_this_set, .ref h_this_constant, .int v_rules, .ref h_this_ruleKind, .ref h_this_ruleBit, .ref h_this_ruleOther, .int v_alone, .int v_halfBits, .ref h_this_oldSet, .ref h_this_oldNumber, .ref h_this_allSets, .ref h_this_allNumbers, .int v_allMany, .ref h_this_root])), (h_this_constant, .inl (cI, 6, .inl v_constant)), (h_this_number, .inl (cI, 15625, .inl o0)), (h_this_set, .inl (cI, 6, .inl v_set))] 58 [] []) : ZV p l e rm_Md_addThree s m args below meth c 5 D (none) [(h_this, .inr (5, [.int v_thrown, .int v_wires, .int v_isOpen, .int v_isEmpty, .int v_came, .int v_there, .int v_halves, .ref h_this_number, .ref h_this_set, .ref h_this_constant, .int v_rules, .ref h_this_ruleKind, .ref h_this_ruleBit, .ref h_this_ruleOther, .int v_alone, .int v_halfBits, .ref h_this_oldSet, .ref h_this_oldNumber, .ref h_this_allSets, .ref h_this_allNumbers, .int v_allMany, .ref h_this_root])), (h_this_constant, .inl (cI, 6, .inl v_constant)), (h_this_number, .inl (cI, 15625, .inl o_number)), (h_this_set, .inl (cI, 6, .inl v_set))] [h_this, h_this_constant, h_this_number, h_this_set] [(h_this, .inr (5, [.int v_thrown, .int v_wires, .int v_isOpen, .int v_isEmpty, .int v_came, .int v_there, .int v_halves, .ref h_this_number, .ref h_this_set, .ref h_this_constant, .int v_rules, .ref h_this_ruleKind, .ref h_this_ruleBit, .ref h_this_ruleOther, .int v_alone, .int v_halfBits, .ref h_this_oldSet, .ref h_this_oldNumber, .ref h_this_allSets, .ref h_this_allNumbers, .int v_allMany, .ref h_this_root])), (h_this_constant, .inl (cI, 6, .inl v_constant)), (h_this_number, .inl (cI, 15625, .inl v_number)), (h_this_set, .inl (cI, 6, .inl v_set))] 20 [(0, .ref h_this), (1, .int x1), (2, .int x2), (3, .int x3), (4, .int x4)] [] :=
  zloop_run (P := fun q => ZV p l e rm_Md_addThree s m args below meth c 5 D (none) [(h_this, .inr (5, [.int v_thrown, .int v_wires, .int v_isOpen, .int v_isEmpty, .int v_came, .int v_there, .int v_halves, .ref h_this_number, .ref h_this_set, .ref h_this_constant, .int v_rules, .ref h_this_ruleKind, .ref h_this_ruleBit, .ref h_this_ruleOther, .int v_alone, .int v_halfBits, .ref h_this_oldSet, .ref h_this_oldNumber, .ref h_this_allSets, .ref h_this_allNumbers, .int v_allMany, .ref h_this_root])), (h_this_constant, .inl (cI, 6, .inl v_constant)), (h_this_number, .inl (cI, 15625, .inl o_number)), (h_this_set, .inl (cI, 6, .inl v_set))] [h_this, h_this_constant, h_this_number, h_this_set] [(h_this, .inr (5, [.int v_thrown, .int v_wires, .int v_isOpen, .int v_isEmpty, .int v_came, .int v_there, .int v_halves, .ref h_this_number, .ref h_this_set, .ref h_this_constant, .int v_rules, .ref h_this_ruleKind, .ref h_this_ruleBit, .ref h_this_ruleOther, .int v_alone, .int v_halfBits, .ref h_this_oldSet, .ref h_this_oldNumber, .ref h_this_allSets, .ref h_this_allNumbers, .int v_allMany, .ref h_this_root])), (h_this_constant, .inl (cI, 6, .inl v_constant)), (h_this_number, .inl (cI, 15625, .inl q.2)), (h_this_set, .inl (cI, 6, .inl v_set))] 20 [(0, .ref h_this), (1, .int x1), (2, .int x2), (3, .int x3), (4, .int q.1)] []) (K := (fun q => ZV p l e rm_Md_addThree s m args below meth c 5 D (none) [(h_this, .inr (5, [.int v_thrown, .int v_wires, .int v_isOpen, .int v_isEmpty, .int v_came, .int v_there, .int v_halves, .ref h_this_number, .ref h_this_set, .ref h_this_constant, .int v_rules, .ref h_this_ruleKind, .ref h_this_ruleBit, .ref h_this_ruleOther, .int v_alone, .int v_halfBits, .ref h_this_oldSet, .ref h_this_oldNumber, .ref h_this_allSets, .ref h_this_allNumbers, .int v_allMany, .ref h_this_root])), (h_this_constant, .inl (cI, 6, .inl v_constant)), (h_this_number, .inl (cI, 15625, .inl o_number)), (h_this_set, .inl (cI, 6, .inl v_set))] [h_this, h_this_constant, h_this_number, h_this_set] [(h_this, .inr (5, [.int v_thrown, .int v_wires, .int v_isOpen, .int v_isEmpty, .int v_came, .int v_there, .int v_halves, .ref h_this_number, .ref h_this_set, .ref h_this_constant, .int v_rules, .ref h_this_ruleKind, .ref h_this_ruleBit, .ref h_this_ruleOther, .int v_alone, .int v_halfBits, .ref h_this_oldSet, .ref h_this_oldNumber, .ref h_this_allSets, .ref h_this_allNumbers, .int v_allMany, .ref h_this_root])), (h_this_constant, .inl (cI, 6, .inl v_constant)), (h_this_number, .inl (cI, 15625, .inl q)), (h_this_set, .inl (cI, 6, .inl v_set))] 58 [] [])) (fun q z hz hK => k_Md_addThree_l20 C hr hz hK) zF _ (o0) hf hK
def f_Md_addThree_j17 (x1 : Int32) (x2 : Int32) (x3 : Int32) (v_constant : Nat → Int32) (v_number : Nat → Int32) (v_set : Nat → Int32) : Option ((Nat → Int32)) :=
  zb1 (zloop (fun q => f_Md_addThree_l20 x1 x2 x3 v_constant v_set q.1 q.2) zF ((0 : Int32), v_number)) fun q_1 =>
  some (q_1)
set_option maxRecDepth 100000 in
set_option maxHeartbeats 4000000 in
theorem k_Md_addThree_j17 {p : Program} {l : Launch} {e : Env} {s : State} {m : MethodId} {args : Array Value} {below : List Frame} {meth : Method} {c : Code} {D : va_G} {cI cL : ClassId} {h_this h_this_number h_this_set h_this_constant h_this_ruleKind h_this_ruleBit h_this_ruleOther h_this_oldSet h_this_oldNumber h_this_allSets h_this_allNumbers h_this_root : Nat} {v_thrown v_wires v_isOpen v_isEmpty v_came v_there v_halves v_rules v_alone v_halfBits v_allMany x1 x2 x3 : Int32} {v_constant v_number v_set o_number : Nat → Int32}  (C : zC p s m args meth c b_Md_addThree 5 R_Md D vwCl [(cI, .int), (cL, .long)] (zA [h_this, h_this_constant, h_this_number, h_this_set] s.heap.size)) (hr : meth.sig.returnType = none) (hf : f_Md_addThree_j17 x1 x2 x3 v_constant v_number v_set = some o_number) : ZV p l e rm_Md_addThree s m args below meth c 5 D (none) [(h_this, .inr (5, [.int v_thrown, .int v_wires, .int v_isOpen, .int v_isEmpty, .int v_came, .int v_there, .int v_halves, .ref h_this_number, .ref h_this_set, .ref h_this_constant, .int v_rules, .ref h_this_ruleKind, .ref h_this_ruleBit, .ref h_this_ruleOther, .int v_alone, .int v_halfBits, .ref h_this_oldSet, .ref h_this_oldNumber, .ref h_this_allSets, .ref h_this_allNumbers, .int v_allMany, .ref h_this_root])), (h_this_constant, .inl (cI, 6, .inl v_constant)), (h_this_number, .inl (cI, 15625, .inl o_number)), (h_this_set, .inl (cI, 6, .inl v_set))] [h_this, h_this_constant, h_this_number, h_this_set] [(h_this, .inr (5, [.int v_thrown, .int v_wires, .int v_isOpen, .int v_isEmpty, .int v_came, .int v_there, .int v_halves, .ref h_this_number, .ref h_this_set, .ref h_this_constant, .int v_rules, .ref h_this_ruleKind, .ref h_this_ruleBit, .ref h_this_ruleOther, .int v_alone, .int v_halfBits, .ref h_this_oldSet, .ref h_this_oldNumber, .ref h_this_allSets, .ref h_this_allNumbers, .int v_allMany, .ref h_this_root])), (h_this_constant, .inl (cI, 6, .inl v_constant)), (h_this_number, .inl (cI, 15625, .inl v_number)), (h_this_set, .inl (cI, 6, .inl v_set))] 17 [(0, .ref h_this), (1, .int x1), (2, .int x2), (3, .int x3)] [] := by
  unfold f_Md_addThree_j17 at hf
  refine z_iconst (v := 0) C d_Md_addThree_17 (by decide) ?_
  refine z_istore (lv' := [(4, .int (0 : Int32)), (0, .ref h_this), (1, .int x1), (2, .int x2), (3, .int x3)]) C d_Md_addThree_18 (by decide) rfl ?_
  refine z_lv [1, 2, 3, 4, 0] rfl ?_
  obtain ⟨q_1, h_2, hf⟩ := zb1_elim hf
  refine k_Md_addThree_l20_run C hr h_2 ?_
  cases hf
  exact z_vret C hr d_Md_addThree_58
/-- PathSumsModel.addThree(III)V -/
def f_Md_addThree (x1 : Int32) (x2 : Int32) (x3 : Int32) (v_constant : Nat → Int32) (v_number : Nat → Int32) (v_set : Nat → Int32) : Option ((Nat → Int32)) :=
  if x1 < 0 ∨ 6 ≤ x1.toNatClampNeg then none else
  if (v_constant x1.toNatClampNeg) = (1 : Int32) then (
    zb1 (f_Md_addTwo x2 x3 (0 : Int32) v_constant v_number v_set) fun q_4 =>
    f_Md_addThree_j17 x1 x2 x3 v_constant q_4 v_set)
  else (
    f_Md_addThree_j17 x1 x2 x3 v_constant v_number v_set)
set_option maxRecDepth 100000 in
set_option maxHeartbeats 4000000 in
theorem k_Md_addThree {p : Program} {l : Launch} {e : Env} {s : State} {m : MethodId} {args : Array Value} {below : List Frame} {meth : Method} {c : Code} {D : va_G} {cI cL : ClassId} {h_this h_this_number h_this_set h_this_constant h_this_ruleKind h_this_ruleBit h_this_ruleOther h_this_oldSet h_this_oldNumber h_this_allSets h_this_allNumbers h_this_root : Nat} {v_thrown v_wires v_isOpen v_isEmpty v_came v_there v_halves v_rules v_alone v_halfBits v_allMany x1 x2 x3 : Int32} {v_constant v_number v_set o_number : Nat → Int32} (C : zC p s m args meth c b_Md_addThree 5 R_Md D vwCl [(cI, .int), (cL, .long)] (zA [h_this, h_this_constant, h_this_number, h_this_set] s.heap.size)) (hr : meth.sig.returnType = none) (hf : f_Md_addThree x1 x2 x3 v_constant v_number v_set = some o_number) : ZV p l e rm_Md_addThree s m args below meth c 5 D (none) [(h_this, .inr (5, [.int v_thrown, .int v_wires, .int v_isOpen, .int v_isEmpty, .int v_came, .int v_there, .int v_halves, .ref h_this_number, .ref h_this_set, .ref h_this_constant, .int v_rules, .ref h_this_ruleKind, .ref h_this_ruleBit, .ref h_this_ruleOther, .int v_alone, .int v_halfBits, .ref h_this_oldSet, .ref h_this_oldNumber, .ref h_this_allSets, .ref h_this_allNumbers, .int v_allMany, .ref h_this_root])), (h_this_constant, .inl (cI, 6, .inl v_constant)), (h_this_number, .inl (cI, 15625, .inl o_number)), (h_this_set, .inl (cI, 6, .inl v_set))] [h_this, h_this_constant, h_this_number, h_this_set] [(h_this, .inr (5, [.int v_thrown, .int v_wires, .int v_isOpen, .int v_isEmpty, .int v_came, .int v_there, .int v_halves, .ref h_this_number, .ref h_this_set, .ref h_this_constant, .int v_rules, .ref h_this_ruleKind, .ref h_this_ruleBit, .ref h_this_ruleOther, .int v_alone, .int v_halfBits, .ref h_this_oldSet, .ref h_this_oldNumber, .ref h_this_allSets, .ref h_this_allNumbers, .int v_allMany, .ref h_this_root])), (h_this_constant, .inl (cI, 6, .inl v_constant)), (h_this_number, .inl (cI, 15625, .inl v_number)), (h_this_set, .inl (cI, 6, .inl v_set))] 0 [(0, .ref h_this), (1, .int x1), (2, .int x2), (3, .int x3)] [] := by
  unfold f_Md_addThree at hf
  refine z_aload_n C d_Md_addThree_0 rfl 0 rfl ?_
  refine z_get C iw_Md 0 rfl rfl 9 (by decide) zw_507 rfl d_Md_addThree_1 ?_
  refine z_iload_n C d_Md_addThree_4 rfl 1 rfl ?_
  obtain ⟨g_1, hf⟩ := zguard hf
  refine z_iald C 1 0 rfl rfl g_1 d_Md_addThree_5 ?_
  refine z_iconst (v := 1) C d_Md_addThree_6 (by decide) ?_
  refine z_icmp_ne (tgt := 17) C d_Md_addThree_7 (by decide) (fun c_2 => ?_) (fun c_2 => ?_)
  · have hf := zif_neg c_2 hf
    exact k_Md_addThree_j17 C hr hf
  · have hf := zif_pos c_2 hf
    refine z_aload_n C d_Md_addThree_10 rfl 0 rfl ?_
    refine z_iload_n C d_Md_addThree_11 rfl 2 rfl ?_
    refine z_iload_n C d_Md_addThree_12 rfl 3 rfl ?_
    refine z_iconst (v := 0) C d_Md_addThree_13 (by decide) ?_
    obtain ⟨q_4, h_3, hf⟩ := zb1_elim hf
    refine z_callV (As := [.int x2, .int x3, .int (0 : Int32)]) (rest := []) (ws' := [(h_this, .inr (5, [.int v_thrown, .int v_wires, .int v_isOpen, .int v_isEmpty, .int v_came, .int v_there, .int v_halves, .ref h_this_number, .ref h_this_set, .ref h_this_constant, .int v_rules, .ref h_this_ruleKind, .ref h_this_ruleBit, .ref h_this_ruleOther, .int v_alone, .int v_halfBits, .ref h_this_oldSet, .ref h_this_oldNumber, .ref h_this_allSets, .ref h_this_allNumbers, .int v_allMany, .ref h_this_root])), (h_this_constant, .inl (cI, 6, .inl v_constant)), (h_this_number, .inl (cI, 15625, .inl q_4)), (h_this_set, .inl (cI, 6, .inl v_set))]) C (c_Md_addTwo h_3) mi_Md_addTwo zw_593 (by decide) 0 rfl rfl [0, 1, 2, 3] (by decide) rfl rfl rfl rfl rfl (by decide) ⟨Nat.zero_le _, Nat.zero_le _⟩ d_Md_addThree_14 ?_
    exact k_Md_addThree_j17 C hr hf
theorem c_Md_addThree {l : Launch} {D : va_G} {cI cL : ClassId} {h_this h_this_number h_this_set h_this_constant h_this_ruleKind h_this_ruleBit h_this_ruleOther h_this_oldSet h_this_oldNumber h_this_allSets h_this_allNumbers h_this_root : Nat} {v_thrown v_wires v_isOpen v_isEmpty v_came v_there v_halves v_rules v_alone v_halfBits v_allMany x1 x2 x3 : Int32} {v_constant v_number v_set o_number : Nat → Int32} (hf : f_Md_addThree x1 x2 x3 v_constant v_number v_set = some o_number) : zM l y_Md_addThree (Cond.code y_Md_addThree b_Md_addThree 5 none :: zT) rm_Md_addThree D vwCl [(cI, .int), (cL, .long)] [.ref h_this, .int x1, .int x2, .int x3] [(h_this, .inr (5, [.int v_thrown, .int v_wires, .int v_isOpen, .int v_isEmpty, .int v_came, .int v_there, .int v_halves, .ref h_this_number, .ref h_this_set, .ref h_this_constant, .int v_rules, .ref h_this_ruleKind, .ref h_this_ruleBit, .ref h_this_ruleOther, .int v_alone, .int v_halfBits, .ref h_this_oldSet, .ref h_this_oldNumber, .ref h_this_allSets, .ref h_this_allNumbers, .int v_allMany, .ref h_this_root])), (h_this_constant, .inl (cI, 6, .inl v_constant)), (h_this_number, .inl (cI, 15625, .inl v_number)), (h_this_set, .inl (cI, 6, .inl v_set))] [(h_this, .inr (5, [.int v_thrown, .int v_wires, .int v_isOpen, .int v_isEmpty, .int v_came, .int v_there, .int v_halves, .ref h_this_number, .ref h_this_set, .ref h_this_constant, .int v_rules, .ref h_this_ruleKind, .ref h_this_ruleBit, .ref h_this_ruleOther, .int v_alone, .int v_halfBits, .ref h_this_oldSet, .ref h_this_oldNumber, .ref h_this_allSets, .ref h_this_allNumbers, .int v_allMany, .ref h_this_root])), (h_this_constant, .inl (cI, 6, .inl v_constant)), (h_this_number, .inl (cI, 15625, .inl o_number)), (h_this_set, .inl (cI, 6, .inl v_set))] (none) :=
  zM.intro (by decide) rfl (fun _ h => List.mem_cons_of_mem _ h) (Nat.le_of_ble_eq_true rfl) (fun _ _ _ _ _ _ _ C hr _ => k_Md_addThree C hr hf)
def rm_Md_start : Room := { frames := 0, cells := 0, slots := 0, locals := 0 }
def f_Md_start_l37 (v_wires : Int32) (v_isOpen : Int32) (v_isEmpty : Int32) (v_came : Int32) (v_there : Int32) (v_halves : Int32) (v_rules : Int32) (v_set : Nat → Int32) (v_constant : Nat → Int32) (x2 : Int32) (v_number : Nat → Int32) : Option ((Int32 × (Nat → Int32)) ⊕ ((Nat → Int32))) :=
  if (15625 : Int32) ≤ x2 then (
    some (.inr (v_number)))
  else (
    if x2 < 0 ∨ 15625 ≤ x2.toNatClampNeg then none else
    zlet (upd v_number x2.toNatClampNeg (0 : Int32)) fun u_3 =>
    zlet (x2 + 1) fun y_4 =>
    some (.inl (y_4, u_3)))
set_option maxRecDepth 100000 in
set_option maxHeartbeats 4000000 in
theorem k_Md_start_l37 {p : Program} {l : Launch} {e : Env} {s : State} {m : MethodId} {args : Array Value} {below : List Frame} {meth : Method} {c : Code} {D : va_G} {cI cL : ClassId} {h_this h_this_number h_this_set h_this_constant h_this_ruleKind h_this_ruleBit h_this_ruleOther h_this_oldSet h_this_oldNumber h_this_allSets h_this_allNumbers h_this_root : Nat} {v_thrown v_wires v_isOpen v_isEmpty v_came v_there v_halves v_rules v_alone v_halfBits v_allMany o_wires o_isOpen o_isEmpty o_came o_there o_halves o_rules x2 : Int32} {v_number v_set v_constant o_number o_set o_constant : Nat → Int32} (C : zC p s m args meth c b_Md_start 3 R_Md D vwCl [(cI, .int), (cL, .long)] (zA [h_this, h_this_number, h_this_set, h_this_constant] s.heap.size)) (hr : meth.sig.returnType = none) {z : (Int32 × (Nat → Int32)) ⊕ ((Nat → Int32))} (hf : f_Md_start_l37 v_wires v_isOpen v_isEmpty v_came v_there v_halves v_rules v_set v_constant x2 v_number = some z) (hK : zcase (fun q => ZV p l e rm_Md_start s m args below meth c 3 D (none) [(h_this, .inr (5, [.int v_thrown, .int o_wires, .int o_isOpen, .int o_isEmpty, .int o_came, .int o_there, .int o_halves, .ref h_this_number, .ref h_this_set, .ref h_this_constant, .int o_rules, .ref h_this_ruleKind, .ref h_this_ruleBit, .ref h_this_ruleOther, .int v_alone, .int v_halfBits, .ref h_this_oldSet, .ref h_this_oldNumber, .ref h_this_allSets, .ref h_this_allNumbers, .int v_allMany, .ref h_this_root])), (h_this_number, .inl (cI, 15625, .inl o_number)), (h_this_set, .inl (cI, 6, .inl o_set)), (h_this_constant, .inl (cI, 6, .inl o_constant))] [h_this, h_this_number, h_this_set, h_this_constant] [(h_this, .inr (5, [.int v_thrown, .int v_wires, .int v_isOpen, .int v_isEmpty, .int v_came, .int v_there, .int v_halves, .ref h_this_number, .ref h_this_set, .ref h_this_constant, .int v_rules, .ref h_this_ruleKind, .ref h_this_ruleBit, .ref h_this_ruleOther, .int v_alone, .int v_halfBits, .ref h_this_oldSet, .ref h_this_oldNumber, .ref h_this_allSets, .ref h_this_allNumbers, .int v_allMany, .ref h_this_root])), (h_this_number, .inl (cI, 15625, .inl q.2)), (h_this_set, .inl (cI, 6, .inl v_set)), (h_this_constant, .inl (cI, 6, .inl v_constant))] 37 [(0, .ref h_this), (2, .int q.1)] []) (fun q => ZV p l e rm_Md_start s m args below meth c 3 D (none) [(h_this, .inr (5, [.int v_thrown, .int o_wires, .int o_isOpen, .int o_isEmpty, .int o_came, .int o_there, .int o_halves, .ref h_this_number, .ref h_this_set, .ref h_this_constant, .int o_rules, .ref h_this_ruleKind, .ref h_this_ruleBit, .ref h_this_ruleOther, .int v_alone, .int v_halfBits, .ref h_this_oldSet, .ref h_this_oldNumber, .ref h_this_allSets, .ref h_this_allNumbers, .int v_allMany, .ref h_this_root])), (h_this_number, .inl (cI, 15625, .inl o_number)), (h_this_set, .inl (cI, 6, .inl o_set)), (h_this_constant, .inl (cI, 6, .inl o_constant))] [h_this, h_this_number, h_this_set, h_this_constant] [(h_this, .inr (5, [.int v_thrown, .int v_wires, .int v_isOpen, .int v_isEmpty, .int v_came, .int v_there, .int v_halves, .ref h_this_number, .ref h_this_set, .ref h_this_constant, .int v_rules, .ref h_this_ruleKind, .ref h_this_ruleBit, .ref h_this_ruleOther, .int v_alone, .int v_halfBits, .ref h_this_oldSet, .ref h_this_oldNumber, .ref h_this_allSets, .ref h_this_allNumbers, .int v_allMany, .ref h_this_root])), (h_this_number, .inl (cI, 15625, .inl q)), (h_this_set, .inl (cI, 6, .inl v_set)), (h_this_constant, .inl (cI, 6, .inl v_constant))] 57 [(0, .ref h_this)] []) z) : ZV p l e rm_Md_start s m args below meth c 3 D (none) [(h_this, .inr (5, [.int v_thrown, .int o_wires, .int o_isOpen, .int o_isEmpty, .int o_came, .int o_there, .int o_halves, .ref h_this_number, .ref h_this_set, .ref h_this_constant, .int o_rules, .ref h_this_ruleKind, .ref h_this_ruleBit, .ref h_this_ruleOther, .int v_alone, .int v_halfBits, .ref h_this_oldSet, .ref h_this_oldNumber, .ref h_this_allSets, .ref h_this_allNumbers, .int v_allMany, .ref h_this_root])), (h_this_number, .inl (cI, 15625, .inl o_number)), (h_this_set, .inl (cI, 6, .inl o_set)), (h_this_constant, .inl (cI, 6, .inl o_constant))] [h_this, h_this_number, h_this_set, h_this_constant] [(h_this, .inr (5, [.int v_thrown, .int v_wires, .int v_isOpen, .int v_isEmpty, .int v_came, .int v_there, .int v_halves, .ref h_this_number, .ref h_this_set, .ref h_this_constant, .int v_rules, .ref h_this_ruleKind, .ref h_this_ruleBit, .ref h_this_ruleOther, .int v_alone, .int v_halfBits, .ref h_this_oldSet, .ref h_this_oldNumber, .ref h_this_allSets, .ref h_this_allNumbers, .int v_allMany, .ref h_this_root])), (h_this_number, .inl (cI, 15625, .inl v_number)), (h_this_set, .inl (cI, 6, .inl v_set)), (h_this_constant, .inl (cI, 6, .inl v_constant))] 37 [(0, .ref h_this), (2, .int x2)] [] := by
  unfold f_Md_start_l37 at hf
  refine z_iload_n C d_Md_start_37 rfl 1 rfl ?_
  refine z_sipush (v := 15625) C d_Md_start_38 (by decide) ?_
  refine z_icmp_ge (tgt := 57) C d_Md_start_41 (by decide) (fun c_1 => ?_) (fun c_1 => ?_)
  · have hf := zif_pos c_1 hf
    refine z_lv [0] rfl ?_
    cases hf
    exact hK
  · have hf := zif_neg c_1 hf
    refine z_aload_n C d_Md_start_44 rfl 0 rfl ?_
    refine z_get C iw_Md 0 rfl rfl 7 (by decide) zw_505 rfl d_Md_start_45 ?_
    refine z_iload_n C d_Md_start_48 rfl 1 rfl ?_
    refine z_iconst (v := 0) C d_Md_start_49 (by decide) ?_
    obtain ⟨g_2, hf⟩ := zguard hf
    obtain ⟨u_3, eu_3⟩ : ∃ u : Nat → Int32, u = upd v_number x2.toNatClampNeg (0 : Int32) := ⟨_, rfl⟩
    have hf := zlet_at eu_3 hf
    refine z_iast (ws' := [(h_this, .inr (5, [.int v_thrown, .int v_wires, .int v_isOpen, .int v_isEmpty, .int v_came, .int v_there, .int v_halves, .ref h_this_number, .ref h_this_set, .ref h_this_constant, .int v_rules, .ref h_this_ruleKind, .ref h_this_ruleBit, .ref h_this_ruleOther, .int v_alone, .int v_halfBits, .ref h_this_oldSet, .ref h_this_oldNumber, .ref h_this_allSets, .ref h_this_allNumbers, .int v_allMany, .ref h_this_root])), (h_this_number, .inl (cI, 15625, .inl u_3)), (h_this_set, .inl (cI, 6, .inl v_set)), (h_this_constant, .inl (cI, 6, .inl v_constant))]) C 1 0 rfl rfl g_2 d_Md_start_50 (by rw [eu_3]; rfl) ?_
    obtain ⟨y_4, ey_4⟩ : ∃ y : Int32, y = x2 + 1 := ⟨_, rfl⟩
    have hf := zlet_at ey_4 hf
    refine z_iinc (v := y_4) (lv' := [(2, .int y_4), (0, .ref h_this)]) C d_Md_start_51 (k := 1) rfl (by rw [ey_4]; rfl) (by decide) rfl ?_
    refine z_goto (tgt := 37) C d_Md_start_54 (by decide) ?_
    refine z_lv [1, 0] rfl ?_
    cases hf
    exact hK
theorem k_Md_start_l37_run {p : Program} {l : Launch} {e : Env} {s : State} {m : MethodId} {args : Array Value} {below : List Frame} {meth : Method} {c : Code} {D : va_G} {cI cL : ClassId} {h_this h_this_number h_this_set h_this_constant h_this_ruleKind h_this_ruleBit h_this_ruleOther h_this_oldSet h_this_oldNumber h_this_allSets h_this_allNumbers h_this_root : Nat} {v_thrown v_wires v_isOpen v_isEmpty v_came v_there v_halves v_rules v_alone v_halfBits v_allMany o_wires o_isOpen o_isEmpty o_came o_there o_halves o_rules x2 : Int32} {v_number v_set v_constant o_number o_set o_constant : Nat → Int32} (C : zC p s m args meth c b_Md_start 3 R_Md D vwCl [(cI, .int), (cL, .long)] (zA [h_this, h_this_number, h_this_set, h_this_constant] s.heap.size)) (hr : meth.sig.returnType = none) {o0 : Nat → Int32} (hf : zloop (fun q => f_Md_start_l37 v_wires v_isOpen v_isEmpty v_came v_there v_halves v_rules v_set v_constant q.1 q.2) zF (x2, v_number) = some o0) (hK : ZV p l e rm_Md_start s m args below meth c 3 D (none) [(h_this, .inr (5, [.int v_thrown, .int o_wires, .int o_isOpen, .int o_isEmpty, .int o_came, .int o_there, .int o_halves, .ref h_this_number, .ref h_this_set, .ref h_this_constant, .int o_rules, .ref h_this_ruleKind, .ref h_this_ruleBit, .ref h_this_ruleOther, .int v_alone, .int v_halfBits, .ref h_this_oldSet, .ref h_this_oldNumber, .ref h_this_allSets, .ref h_this_allNumbers, .int v_allMany, .ref h_this_root])), (h_this_number, .inl (cI, 15625, .inl o_number)), (h_this_set, .inl (cI, 6, .inl o_set)), (h_this_constant, .inl (cI, 6, .inl o_constant))] [h_this, h_this_number, h_this_set, h_this_constant] [(h_this, .inr (5, [.int v_thrown, .int v_wires, .int v_isOpen, .int v_isEmpty, .int v_came, .int v_there, .int v_halves, .ref h_this_number, .ref h_this_set, .ref h_this_constant, .int v_rules, .ref h_this_ruleKind, .ref h_this_ruleBit, .ref h_this_ruleOther, .int v_alone, .int v_halfBits, .ref h_this_oldSet, .ref h_this_oldNumber, .ref h_this_allSets, .ref h_this_allNumbers, .int v_allMany, .ref h_this_root])), (h_this_number, .inl (cI, 15625, .inl o0)), (h_this_set, .inl (cI, 6, .inl v_set)), (h_this_constant, .inl (cI, 6, .inl v_constant))] 57 [(0, .ref h_this)] []) : ZV p l e rm_Md_start s m args below meth c 3 D (none) [(h_this, .inr (5, [.int v_thrown, .int o_wires, .int o_isOpen, .int o_isEmpty, .int o_came, .int o_there, .int o_halves, .ref h_this_number, .ref h_this_set, .ref h_this_constant, .int o_rules, .ref h_this_ruleKind, .ref h_this_ruleBit, .ref h_this_ruleOther, .int v_alone, .int v_halfBits, .ref h_this_oldSet, .ref h_this_oldNumber, .ref h_this_allSets, .ref h_this_allNumbers, .int v_allMany, .ref h_this_root])), (h_this_number, .inl (cI, 15625, .inl o_number)), (h_this_set, .inl (cI, 6, .inl o_set)), (h_this_constant, .inl (cI, 6, .inl o_constant))] [h_this, h_this_number, h_this_set, h_this_constant] [(h_this, .inr (5, [.int v_thrown, .int v_wires, .int v_isOpen, .int v_isEmpty, .int v_came, .int v_there, .int v_halves, .ref h_this_number, .ref h_this_set, .ref h_this_constant, .int v_rules, .ref h_this_ruleKind, .ref h_this_ruleBit, .ref h_this_ruleOther, .int v_alone, .int v_halfBits, .ref h_this_oldSet, .ref h_this_oldNumber, .ref h_this_allSets, .ref h_this_allNumbers, .int v_allMany, .ref h_this_root])), (h_this_number, .inl (cI, 15625, .inl v_number)), (h_this_set, .inl (cI, 6, .inl v_set)), (h_this_constant, .inl (cI, 6, .inl v_constant))] 37 [(0, .ref h_this), (2, .int x2)] [] :=
  zloop_run (P := fun q => ZV p l e rm_Md_start s m args below meth c 3 D (none) [(h_this, .inr (5, [.int v_thrown, .int o_wires, .int o_isOpen, .int o_isEmpty, .int o_came, .int o_there, .int o_halves, .ref h_this_number, .ref h_this_set, .ref h_this_constant, .int o_rules, .ref h_this_ruleKind, .ref h_this_ruleBit, .ref h_this_ruleOther, .int v_alone, .int v_halfBits, .ref h_this_oldSet, .ref h_this_oldNumber, .ref h_this_allSets, .ref h_this_allNumbers, .int v_allMany, .ref h_this_root])), (h_this_number, .inl (cI, 15625, .inl o_number)), (h_this_set, .inl (cI, 6, .inl o_set)), (h_this_constant, .inl (cI, 6, .inl o_constant))] [h_this, h_this_number, h_this_set, h_this_constant] [(h_this, .inr (5, [.int v_thrown, .int v_wires, .int v_isOpen, .int v_isEmpty, .int v_came, .int v_there, .int v_halves, .ref h_this_number, .ref h_this_set, .ref h_this_constant, .int v_rules, .ref h_this_ruleKind, .ref h_this_ruleBit, .ref h_this_ruleOther, .int v_alone, .int v_halfBits, .ref h_this_oldSet, .ref h_this_oldNumber, .ref h_this_allSets, .ref h_this_allNumbers, .int v_allMany, .ref h_this_root])), (h_this_number, .inl (cI, 15625, .inl q.2)), (h_this_set, .inl (cI, 6, .inl v_set)), (h_this_constant, .inl (cI, 6, .inl v_constant))] 37 [(0, .ref h_this), (2, .int q.1)] []) (K := (fun q => ZV p l e rm_Md_start s m args below meth c 3 D (none) [(h_this, .inr (5, [.int v_thrown, .int o_wires, .int o_isOpen, .int o_isEmpty, .int o_came, .int o_there, .int o_halves, .ref h_this_number, .ref h_this_set, .ref h_this_constant, .int o_rules, .ref h_this_ruleKind, .ref h_this_ruleBit, .ref h_this_ruleOther, .int v_alone, .int v_halfBits, .ref h_this_oldSet, .ref h_this_oldNumber, .ref h_this_allSets, .ref h_this_allNumbers, .int v_allMany, .ref h_this_root])), (h_this_number, .inl (cI, 15625, .inl o_number)), (h_this_set, .inl (cI, 6, .inl o_set)), (h_this_constant, .inl (cI, 6, .inl o_constant))] [h_this, h_this_number, h_this_set, h_this_constant] [(h_this, .inr (5, [.int v_thrown, .int v_wires, .int v_isOpen, .int v_isEmpty, .int v_came, .int v_there, .int v_halves, .ref h_this_number, .ref h_this_set, .ref h_this_constant, .int v_rules, .ref h_this_ruleKind, .ref h_this_ruleBit, .ref h_this_ruleOther, .int v_alone, .int v_halfBits, .ref h_this_oldSet, .ref h_this_oldNumber, .ref h_this_allSets, .ref h_this_allNumbers, .int v_allMany, .ref h_this_root])), (h_this_number, .inl (cI, 15625, .inl q)), (h_this_set, .inl (cI, 6, .inl v_set)), (h_this_constant, .inl (cI, 6, .inl v_constant))] 57 [(0, .ref h_this)] [])) (fun q z hz hK => k_Md_start_l37 C hr hz hK) zF _ (o0) hf hK
def f_Md_start_l59 (v_wires : Int32) (v_isOpen : Int32) (v_isEmpty : Int32) (v_came : Int32) (v_there : Int32) (v_halves : Int32) (v_rules : Int32) (v_number : Nat → Int32) (x2 : Int32) (v_set : Nat → Int32) (v_constant : Nat → Int32) : Option ((Int32 × (Nat → Int32) × (Nat → Int32)) ⊕ ((Nat → Int32) × (Nat → Int32))) :=
  if (6 : Int32) ≤ x2 then (
    some (.inr (v_set, v_constant)))
  else (
    if x2 < 0 ∨ 6 ≤ x2.toNatClampNeg then none else
    zlet (upd v_set x2.toNatClampNeg (0 : Int32)) fun u_3 =>
    if x2 < 0 ∨ 6 ≤ x2.toNatClampNeg then none else
    zlet (upd v_constant x2.toNatClampNeg (0 : Int32)) fun u_5 =>
    zlet (x2 + 1) fun y_6 =>
    some (.inl (y_6, u_3, u_5)))
set_option maxRecDepth 100000 in
set_option maxHeartbeats 4000000 in
theorem k_Md_start_l59 {p : Program} {l : Launch} {e : Env} {s : State} {m : MethodId} {args : Array Value} {below : List Frame} {meth : Method} {c : Code} {D : va_G} {cI cL : ClassId} {h_this h_this_number h_this_set h_this_constant h_this_ruleKind h_this_ruleBit h_this_ruleOther h_this_oldSet h_this_oldNumber h_this_allSets h_this_allNumbers h_this_root : Nat} {v_thrown v_wires v_isOpen v_isEmpty v_came v_there v_halves v_rules v_alone v_halfBits v_allMany o_wires o_isOpen o_isEmpty o_came o_there o_halves o_rules x2 : Int32} {v_number v_set v_constant o_number o_set o_constant : Nat → Int32} (C : zC p s m args meth c b_Md_start 3 R_Md D vwCl [(cI, .int), (cL, .long)] (zA [h_this, h_this_number, h_this_set, h_this_constant] s.heap.size)) (hr : meth.sig.returnType = none) {z : (Int32 × (Nat → Int32) × (Nat → Int32)) ⊕ ((Nat → Int32) × (Nat → Int32))} (hf : f_Md_start_l59 v_wires v_isOpen v_isEmpty v_came v_there v_halves v_rules v_number x2 v_set v_constant = some z) (hK : zcase (fun q => ZV p l e rm_Md_start s m args below meth c 3 D (none) [(h_this, .inr (5, [.int v_thrown, .int o_wires, .int o_isOpen, .int o_isEmpty, .int o_came, .int o_there, .int o_halves, .ref h_this_number, .ref h_this_set, .ref h_this_constant, .int o_rules, .ref h_this_ruleKind, .ref h_this_ruleBit, .ref h_this_ruleOther, .int v_alone, .int v_halfBits, .ref h_this_oldSet, .ref h_this_oldNumber, .ref h_this_allSets, .ref h_this_allNumbers, .int v_allMany, .ref h_this_root])), (h_this_number, .inl (cI, 15625, .inl o_number)), (h_this_set, .inl (cI, 6, .inl o_set)), (h_this_constant, .inl (cI, 6, .inl o_constant))] [h_this, h_this_number, h_this_set, h_this_constant] [(h_this, .inr (5, [.int v_thrown, .int v_wires, .int v_isOpen, .int v_isEmpty, .int v_came, .int v_there, .int v_halves, .ref h_this_number, .ref h_this_set, .ref h_this_constant, .int v_rules, .ref h_this_ruleKind, .ref h_this_ruleBit, .ref h_this_ruleOther, .int v_alone, .int v_halfBits, .ref h_this_oldSet, .ref h_this_oldNumber, .ref h_this_allSets, .ref h_this_allNumbers, .int v_allMany, .ref h_this_root])), (h_this_number, .inl (cI, 15625, .inl v_number)), (h_this_set, .inl (cI, 6, .inl q.2.1)), (h_this_constant, .inl (cI, 6, .inl q.2.2))] 59 [(0, .ref h_this), (2, .int q.1)] []) (fun q => ZV p l e rm_Md_start s m args below meth c 3 D (none) [(h_this, .inr (5, [.int v_thrown, .int o_wires, .int o_isOpen, .int o_isEmpty, .int o_came, .int o_there, .int o_halves, .ref h_this_number, .ref h_this_set, .ref h_this_constant, .int o_rules, .ref h_this_ruleKind, .ref h_this_ruleBit, .ref h_this_ruleOther, .int v_alone, .int v_halfBits, .ref h_this_oldSet, .ref h_this_oldNumber, .ref h_this_allSets, .ref h_this_allNumbers, .int v_allMany, .ref h_this_root])), (h_this_number, .inl (cI, 15625, .inl o_number)), (h_this_set, .inl (cI, 6, .inl o_set)), (h_this_constant, .inl (cI, 6, .inl o_constant))] [h_this, h_this_number, h_this_set, h_this_constant] [(h_this, .inr (5, [.int v_thrown, .int v_wires, .int v_isOpen, .int v_isEmpty, .int v_came, .int v_there, .int v_halves, .ref h_this_number, .ref h_this_set, .ref h_this_constant, .int v_rules, .ref h_this_ruleKind, .ref h_this_ruleBit, .ref h_this_ruleOther, .int v_alone, .int v_halfBits, .ref h_this_oldSet, .ref h_this_oldNumber, .ref h_this_allSets, .ref h_this_allNumbers, .int v_allMany, .ref h_this_root])), (h_this_number, .inl (cI, 15625, .inl v_number)), (h_this_set, .inl (cI, 6, .inl q.1)), (h_this_constant, .inl (cI, 6, .inl q.2))] 85 [] []) z) : ZV p l e rm_Md_start s m args below meth c 3 D (none) [(h_this, .inr (5, [.int v_thrown, .int o_wires, .int o_isOpen, .int o_isEmpty, .int o_came, .int o_there, .int o_halves, .ref h_this_number, .ref h_this_set, .ref h_this_constant, .int o_rules, .ref h_this_ruleKind, .ref h_this_ruleBit, .ref h_this_ruleOther, .int v_alone, .int v_halfBits, .ref h_this_oldSet, .ref h_this_oldNumber, .ref h_this_allSets, .ref h_this_allNumbers, .int v_allMany, .ref h_this_root])), (h_this_number, .inl (cI, 15625, .inl o_number)), (h_this_set, .inl (cI, 6, .inl o_set)), (h_this_constant, .inl (cI, 6, .inl o_constant))] [h_this, h_this_number, h_this_set, h_this_constant] [(h_this, .inr (5, [.int v_thrown, .int v_wires, .int v_isOpen, .int v_isEmpty, .int v_came, .int v_there, .int v_halves, .ref h_this_number, .ref h_this_set, .ref h_this_constant, .int v_rules, .ref h_this_ruleKind, .ref h_this_ruleBit, .ref h_this_ruleOther, .int v_alone, .int v_halfBits, .ref h_this_oldSet, .ref h_this_oldNumber, .ref h_this_allSets, .ref h_this_allNumbers, .int v_allMany, .ref h_this_root])), (h_this_number, .inl (cI, 15625, .inl v_number)), (h_this_set, .inl (cI, 6, .inl v_set)), (h_this_constant, .inl (cI, 6, .inl v_constant))] 59 [(0, .ref h_this), (2, .int x2)] [] := by
  unfold f_Md_start_l59 at hf
  refine z_iload_n C d_Md_start_59 rfl 1 rfl ?_
  refine z_bipush (v := 6) C d_Md_start_60 (by decide) ?_
  refine z_icmp_ge (tgt := 85) C d_Md_start_62 (by decide) (fun c_1 => ?_) (fun c_1 => ?_)
  · have hf := zif_pos c_1 hf
    refine z_lv [] rfl ?_
    cases hf
    exact hK
  · have hf := zif_neg c_1 hf
    refine z_aload_n C d_Md_start_65 rfl 0 rfl ?_
    refine z_get C iw_Md 0 rfl rfl 8 (by decide) zw_506 rfl d_Md_start_66 ?_
    refine z_iload_n C d_Md_start_69 rfl 1 rfl ?_
    refine z_iconst (v := 0) C d_Md_start_70 (by decide) ?_
    obtain ⟨g_2, hf⟩ := zguard hf
    obtain ⟨u_3, eu_3⟩ : ∃ u : Nat → Int32, u = upd v_set x2.toNatClampNeg (0 : Int32) := ⟨_, rfl⟩
    have hf := zlet_at eu_3 hf
    refine z_iast (ws' := [(h_this, .inr (5, [.int v_thrown, .int v_wires, .int v_isOpen, .int v_isEmpty, .int v_came, .int v_there, .int v_halves, .ref h_this_number, .ref h_this_set, .ref h_this_constant, .int v_rules, .ref h_this_ruleKind, .ref h_this_ruleBit, .ref h_this_ruleOther, .int v_alone, .int v_halfBits, .ref h_this_oldSet, .ref h_this_oldNumber, .ref h_this_allSets, .ref h_this_allNumbers, .int v_allMany, .ref h_this_root])), (h_this_number, .inl (cI, 15625, .inl v_number)), (h_this_set, .inl (cI, 6, .inl u_3)), (h_this_constant, .inl (cI, 6, .inl v_constant))]) C 2 0 rfl rfl g_2 d_Md_start_71 (by rw [eu_3]; rfl) ?_
    refine z_aload_n C d_Md_start_72 rfl 0 rfl ?_
    refine z_get C iw_Md 0 rfl rfl 9 (by decide) zw_507 rfl d_Md_start_73 ?_
    refine z_iload_n C d_Md_start_76 rfl 1 rfl ?_
    refine z_iconst (v := 0) C d_Md_start_77 (by decide) ?_
    obtain ⟨g_4, hf⟩ := zguard hf
    obtain ⟨u_5, eu_5⟩ : ∃ u : Nat → Int32, u = upd v_constant x2.toNatClampNeg (0 : Int32) := ⟨_, rfl⟩
    have hf := zlet_at eu_5 hf
    refine z_iast (ws' := [(h_this, .inr (5, [.int v_thrown, .int v_wires, .int v_isOpen, .int v_isEmpty, .int v_came, .int v_there, .int v_halves, .ref h_this_number, .ref h_this_set, .ref h_this_constant, .int v_rules, .ref h_this_ruleKind, .ref h_this_ruleBit, .ref h_this_ruleOther, .int v_alone, .int v_halfBits, .ref h_this_oldSet, .ref h_this_oldNumber, .ref h_this_allSets, .ref h_this_allNumbers, .int v_allMany, .ref h_this_root])), (h_this_number, .inl (cI, 15625, .inl v_number)), (h_this_set, .inl (cI, 6, .inl u_3)), (h_this_constant, .inl (cI, 6, .inl u_5))]) C 3 0 rfl rfl g_4 d_Md_start_78 (by rw [eu_5]; rfl) ?_
    obtain ⟨y_6, ey_6⟩ : ∃ y : Int32, y = x2 + 1 := ⟨_, rfl⟩
    have hf := zlet_at ey_6 hf
    refine z_iinc (v := y_6) (lv' := [(2, .int y_6), (0, .ref h_this)]) C d_Md_start_79 (k := 1) rfl (by rw [ey_6]; rfl) (by decide) rfl ?_
    refine z_goto (tgt := 59) C d_Md_start_82 (by decide) ?_
    refine z_lv [1, 0] rfl ?_
    cases hf
    exact hK
theorem k_Md_start_l59_run {p : Program} {l : Launch} {e : Env} {s : State} {m : MethodId} {args : Array Value} {below : List Frame} {meth : Method} {c : Code} {D : va_G} {cI cL : ClassId} {h_this h_this_number h_this_set h_this_constant h_this_ruleKind h_this_ruleBit h_this_ruleOther h_this_oldSet h_this_oldNumber h_this_allSets h_this_allNumbers h_this_root : Nat} {v_thrown v_wires v_isOpen v_isEmpty v_came v_there v_halves v_rules v_alone v_halfBits v_allMany o_wires o_isOpen o_isEmpty o_came o_there o_halves o_rules x2 : Int32} {v_number v_set v_constant o_number o_set o_constant : Nat → Int32} (C : zC p s m args meth c b_Md_start 3 R_Md D vwCl [(cI, .int), (cL, .long)] (zA [h_this, h_this_number, h_this_set, h_this_constant] s.heap.size)) (hr : meth.sig.returnType = none) {o0 : Nat → Int32} {o1 : Nat → Int32} (hf : zloop (fun q => f_Md_start_l59 v_wires v_isOpen v_isEmpty v_came v_there v_halves v_rules v_number q.1 q.2.1 q.2.2) zF (x2, v_set, v_constant) = some (o0, o1)) (hK : ZV p l e rm_Md_start s m args below meth c 3 D (none) [(h_this, .inr (5, [.int v_thrown, .int o_wires, .int o_isOpen, .int o_isEmpty, .int o_came, .int o_there, .int o_halves, .ref h_this_number, .ref h_this_set, .ref h_this_constant, .int o_rules, .ref h_this_ruleKind, .ref h_this_ruleBit, .ref h_this_ruleOther, .int v_alone, .int v_halfBits, .ref h_this_oldSet, .ref h_this_oldNumber, .ref h_this_allSets, .ref h_this_allNumbers, .int v_allMany, .ref h_this_root])), (h_this_number, .inl (cI, 15625, .inl o_number)), (h_this_set, .inl (cI, 6, .inl o_set)), (h_this_constant, .inl (cI, 6, .inl o_constant))] [h_this, h_this_number, h_this_set, h_this_constant] [(h_this, .inr (5, [.int v_thrown, .int v_wires, .int v_isOpen, .int v_isEmpty, .int v_came, .int v_there, .int v_halves, .ref h_this_number, .ref h_this_set, .ref h_this_constant, .int v_rules, .ref h_this_ruleKind, .ref h_this_ruleBit, .ref h_this_ruleOther, .int v_alone, .int v_halfBits, .ref h_this_oldSet, .ref h_this_oldNumber, .ref h_this_allSets, .ref h_this_allNumbers, .int v_allMany, .ref h_this_root])), (h_this_number, .inl (cI, 15625, .inl v_number)), (h_this_set, .inl (cI, 6, .inl o0)), (h_this_constant, .inl (cI, 6, .inl o1))] 85 [] []) : ZV p l e rm_Md_start s m args below meth c 3 D (none) [(h_this, .inr (5, [.int v_thrown, .int o_wires, .int o_isOpen, .int o_isEmpty, .int o_came, .int o_there, .int o_halves, .ref h_this_number, .ref h_this_set, .ref h_this_constant, .int o_rules, .ref h_this_ruleKind, .ref h_this_ruleBit, .ref h_this_ruleOther, .int v_alone, .int v_halfBits, .ref h_this_oldSet, .ref h_this_oldNumber, .ref h_this_allSets, .ref h_this_allNumbers, .int v_allMany, .ref h_this_root])), (h_this_number, .inl (cI, 15625, .inl o_number)), (h_this_set, .inl (cI, 6, .inl o_set)), (h_this_constant, .inl (cI, 6, .inl o_constant))] [h_this, h_this_number, h_this_set, h_this_constant] [(h_this, .inr (5, [.int v_thrown, .int v_wires, .int v_isOpen, .int v_isEmpty, .int v_came, .int v_there, .int v_halves, .ref h_this_number, .ref h_this_set, .ref h_this_constant, .int v_rules, .ref h_this_ruleKind, .ref h_this_ruleBit, .ref h_this_ruleOther, .int v_alone, .int v_halfBits, .ref h_this_oldSet, .ref h_this_oldNumber, .ref h_this_allSets, .ref h_this_allNumbers, .int v_allMany, .ref h_this_root])), (h_this_number, .inl (cI, 15625, .inl v_number)), (h_this_set, .inl (cI, 6, .inl v_set)), (h_this_constant, .inl (cI, 6, .inl v_constant))] 59 [(0, .ref h_this), (2, .int x2)] [] :=
  zloop_run (P := fun q => ZV p l e rm_Md_start s m args below meth c 3 D (none) [(h_this, .inr (5, [.int v_thrown, .int o_wires, .int o_isOpen, .int o_isEmpty, .int o_came, .int o_there, .int o_halves, .ref h_this_number, .ref h_this_set, .ref h_this_constant, .int o_rules, .ref h_this_ruleKind, .ref h_this_ruleBit, .ref h_this_ruleOther, .int v_alone, .int v_halfBits, .ref h_this_oldSet, .ref h_this_oldNumber, .ref h_this_allSets, .ref h_this_allNumbers, .int v_allMany, .ref h_this_root])), (h_this_number, .inl (cI, 15625, .inl o_number)), (h_this_set, .inl (cI, 6, .inl o_set)), (h_this_constant, .inl (cI, 6, .inl o_constant))] [h_this, h_this_number, h_this_set, h_this_constant] [(h_this, .inr (5, [.int v_thrown, .int v_wires, .int v_isOpen, .int v_isEmpty, .int v_came, .int v_there, .int v_halves, .ref h_this_number, .ref h_this_set, .ref h_this_constant, .int v_rules, .ref h_this_ruleKind, .ref h_this_ruleBit, .ref h_this_ruleOther, .int v_alone, .int v_halfBits, .ref h_this_oldSet, .ref h_this_oldNumber, .ref h_this_allSets, .ref h_this_allNumbers, .int v_allMany, .ref h_this_root])), (h_this_number, .inl (cI, 15625, .inl v_number)), (h_this_set, .inl (cI, 6, .inl q.2.1)), (h_this_constant, .inl (cI, 6, .inl q.2.2))] 59 [(0, .ref h_this), (2, .int q.1)] []) (K := (fun q => ZV p l e rm_Md_start s m args below meth c 3 D (none) [(h_this, .inr (5, [.int v_thrown, .int o_wires, .int o_isOpen, .int o_isEmpty, .int o_came, .int o_there, .int o_halves, .ref h_this_number, .ref h_this_set, .ref h_this_constant, .int o_rules, .ref h_this_ruleKind, .ref h_this_ruleBit, .ref h_this_ruleOther, .int v_alone, .int v_halfBits, .ref h_this_oldSet, .ref h_this_oldNumber, .ref h_this_allSets, .ref h_this_allNumbers, .int v_allMany, .ref h_this_root])), (h_this_number, .inl (cI, 15625, .inl o_number)), (h_this_set, .inl (cI, 6, .inl o_set)), (h_this_constant, .inl (cI, 6, .inl o_constant))] [h_this, h_this_number, h_this_set, h_this_constant] [(h_this, .inr (5, [.int v_thrown, .int v_wires, .int v_isOpen, .int v_isEmpty, .int v_came, .int v_there, .int v_halves, .ref h_this_number, .ref h_this_set, .ref h_this_constant, .int v_rules, .ref h_this_ruleKind, .ref h_this_ruleBit, .ref h_this_ruleOther, .int v_alone, .int v_halfBits, .ref h_this_oldSet, .ref h_this_oldNumber, .ref h_this_allSets, .ref h_this_allNumbers, .int v_allMany, .ref h_this_root])), (h_this_number, .inl (cI, 15625, .inl v_number)), (h_this_set, .inl (cI, 6, .inl q.1)), (h_this_constant, .inl (cI, 6, .inl q.2))] 85 [] [])) (fun q z hz hK => k_Md_start_l59 C hr hz hK) zF _ ((o0, o1)) hf hK
/-- PathSumsModel.start(I)V -/
def f_Md_start (x1 : Int32) (v_wires : Int32) (v_isOpen : Int32) (v_isEmpty : Int32) (v_came : Int32) (v_there : Int32) (v_halves : Int32) (v_rules : Int32) (v_number : Nat → Int32) (v_set : Nat → Int32) (v_constant : Nat → Int32) : Option (Int32 × Int32 × Int32 × Int32 × Int32 × Int32 × Int32 × (Nat → Int32) × (Nat → Int32) × (Nat → Int32)) :=
  zb1 (zloop (fun q => f_Md_start_l37 x1 (0 : Int32) (0 : Int32) (0 : Int32) (0 : Int32) (0 : Int32) (0 : Int32) v_set v_constant q.1 q.2) zF ((0 : Int32), v_number)) fun q_1 =>
  zb2 (zloop (fun q => f_Md_start_l59 x1 (0 : Int32) (0 : Int32) (0 : Int32) (0 : Int32) (0 : Int32) (0 : Int32) q_1 q.1 q.2.1 q.2.2) zF ((0 : Int32), v_set, v_constant)) fun q_3 q_4 =>
  some (x1, (0 : Int32), (0 : Int32), (0 : Int32), (0 : Int32), (0 : Int32), (0 : Int32), q_1, q_3, q_4)
set_option maxRecDepth 100000 in
set_option maxHeartbeats 4000000 in
theorem k_Md_start {p : Program} {l : Launch} {e : Env} {s : State} {m : MethodId} {args : Array Value} {below : List Frame} {meth : Method} {c : Code} {D : va_G} {cI cL : ClassId} {h_this h_this_number h_this_set h_this_constant h_this_ruleKind h_this_ruleBit h_this_ruleOther h_this_oldSet h_this_oldNumber h_this_allSets h_this_allNumbers h_this_root : Nat} {v_thrown v_wires v_isOpen v_isEmpty v_came v_there v_halves v_rules v_alone v_halfBits v_allMany o_wires o_isOpen o_isEmpty o_came o_there o_halves o_rules x1 : Int32} {v_number v_set v_constant o_number o_set o_constant : Nat → Int32} (C : zC p s m args meth c b_Md_start 3 R_Md D vwCl [(cI, .int), (cL, .long)] (zA [h_this, h_this_number, h_this_set, h_this_constant] s.heap.size)) (hr : meth.sig.returnType = none) (hf : f_Md_start x1 v_wires v_isOpen v_isEmpty v_came v_there v_halves v_rules v_number v_set v_constant = some (o_wires, o_isOpen, o_isEmpty, o_came, o_there, o_halves, o_rules, o_number, o_set, o_constant)) : ZV p l e rm_Md_start s m args below meth c 3 D (none) [(h_this, .inr (5, [.int v_thrown, .int o_wires, .int o_isOpen, .int o_isEmpty, .int o_came, .int o_there, .int o_halves, .ref h_this_number, .ref h_this_set, .ref h_this_constant, .int o_rules, .ref h_this_ruleKind, .ref h_this_ruleBit, .ref h_this_ruleOther, .int v_alone, .int v_halfBits, .ref h_this_oldSet, .ref h_this_oldNumber, .ref h_this_allSets, .ref h_this_allNumbers, .int v_allMany, .ref h_this_root])), (h_this_number, .inl (cI, 15625, .inl o_number)), (h_this_set, .inl (cI, 6, .inl o_set)), (h_this_constant, .inl (cI, 6, .inl o_constant))] [h_this, h_this_number, h_this_set, h_this_constant] [(h_this, .inr (5, [.int v_thrown, .int v_wires, .int v_isOpen, .int v_isEmpty, .int v_came, .int v_there, .int v_halves, .ref h_this_number, .ref h_this_set, .ref h_this_constant, .int v_rules, .ref h_this_ruleKind, .ref h_this_ruleBit, .ref h_this_ruleOther, .int v_alone, .int v_halfBits, .ref h_this_oldSet, .ref h_this_oldNumber, .ref h_this_allSets, .ref h_this_allNumbers, .int v_allMany, .ref h_this_root])), (h_this_number, .inl (cI, 15625, .inl v_number)), (h_this_set, .inl (cI, 6, .inl v_set)), (h_this_constant, .inl (cI, 6, .inl v_constant))] 0 [(0, .ref h_this), (1, .int x1)] [] := by
  unfold f_Md_start at hf
  refine z_aload_n C d_Md_start_0 rfl 0 rfl ?_
  refine z_iload_n C d_Md_start_1 rfl 1 rfl ?_
  refine z_put (ws' := [(h_this, .inr (5, [.int v_thrown, .int x1, .int v_isOpen, .int v_isEmpty, .int v_came, .int v_there, .int v_halves, .ref h_this_number, .ref h_this_set, .ref h_this_constant, .int v_rules, .ref h_this_ruleKind, .ref h_this_ruleBit, .ref h_this_ruleOther, .int v_alone, .int v_halfBits, .ref h_this_oldSet, .ref h_this_oldNumber, .ref h_this_allSets, .ref h_this_allNumbers, .int v_allMany, .ref h_this_root])), (h_this_number, .inl (cI, 15625, .inl v_number)), (h_this_set, .inl (cI, 6, .inl v_set)), (h_this_constant, .inl (cI, 6, .inl v_constant))]) C iw_Md t_Md t_Md_ok n_Md 0 rfl rfl 1 (by decide) zw_499 rfl (ty := .int) rfl rfl rfl (by simp) d_Md_start_2 rfl ?_
  refine z_aload_n C d_Md_start_5 rfl 0 rfl ?_
  refine z_iconst (v := 0) C d_Md_start_6 (by decide) ?_
  refine z_put (ws' := [(h_this, .inr (5, [.int v_thrown, .int x1, .int (0 : Int32), .int v_isEmpty, .int v_came, .int v_there, .int v_halves, .ref h_this_number, .ref h_this_set, .ref h_this_constant, .int v_rules, .ref h_this_ruleKind, .ref h_this_ruleBit, .ref h_this_ruleOther, .int v_alone, .int v_halfBits, .ref h_this_oldSet, .ref h_this_oldNumber, .ref h_this_allSets, .ref h_this_allNumbers, .int v_allMany, .ref h_this_root])), (h_this_number, .inl (cI, 15625, .inl v_number)), (h_this_set, .inl (cI, 6, .inl v_set)), (h_this_constant, .inl (cI, 6, .inl v_constant))]) C iw_Md t_Md t_Md_ok n_Md 0 rfl rfl 2 (by decide) zw_500 rfl (ty := .boolean) rfl rfl rfl (by simp) d_Md_start_7 rfl ?_
  refine z_aload_n C d_Md_start_10 rfl 0 rfl ?_
  refine z_iconst (v := 0) C d_Md_start_11 (by decide) ?_
  refine z_put (ws' := [(h_this, .inr (5, [.int v_thrown, .int x1, .int (0 : Int32), .int (0 : Int32), .int v_came, .int v_there, .int v_halves, .ref h_this_number, .ref h_this_set, .ref h_this_constant, .int v_rules, .ref h_this_ruleKind, .ref h_this_ruleBit, .ref h_this_ruleOther, .int v_alone, .int v_halfBits, .ref h_this_oldSet, .ref h_this_oldNumber, .ref h_this_allSets, .ref h_this_allNumbers, .int v_allMany, .ref h_this_root])), (h_this_number, .inl (cI, 15625, .inl v_number)), (h_this_set, .inl (cI, 6, .inl v_set)), (h_this_constant, .inl (cI, 6, .inl v_constant))]) C iw_Md t_Md t_Md_ok n_Md 0 rfl rfl 3 (by decide) zw_501 rfl (ty := .boolean) rfl rfl rfl (by simp) d_Md_start_12 rfl ?_
  refine z_aload_n C d_Md_start_15 rfl 0 rfl ?_
  refine z_iconst (v := 0) C d_Md_start_16 (by decide) ?_
  refine z_put (ws' := [(h_this, .inr (5, [.int v_thrown, .int x1, .int (0 : Int32), .int (0 : Int32), .int (0 : Int32), .int v_there, .int v_halves, .ref h_this_number, .ref h_this_set, .ref h_this_constant, .int v_rules, .ref h_this_ruleKind, .ref h_this_ruleBit, .ref h_this_ruleOther, .int v_alone, .int v_halfBits, .ref h_this_oldSet, .ref h_this_oldNumber, .ref h_this_allSets, .ref h_this_allNumbers, .int v_allMany, .ref h_this_root])), (h_this_number, .inl (cI, 15625, .inl v_number)), (h_this_set, .inl (cI, 6, .inl v_set)), (h_this_constant, .inl (cI, 6, .inl v_constant))]) C iw_Md t_Md t_Md_ok n_Md 0 rfl rfl 4 (by decide) zw_502 rfl (ty := .int) rfl rfl rfl (by simp) d_Md_start_17 rfl ?_
  refine z_aload_n C d_Md_start_20 rfl 0 rfl ?_
  refine z_iconst (v := 0) C d_Md_start_21 (by decide) ?_
  refine z_put (ws' := [(h_this, .inr (5, [.int v_thrown, .int x1, .int (0 : Int32), .int (0 : Int32), .int (0 : Int32), .int (0 : Int32), .int v_halves, .ref h_this_number, .ref h_this_set, .ref h_this_constant, .int v_rules, .ref h_this_ruleKind, .ref h_this_ruleBit, .ref h_this_ruleOther, .int v_alone, .int v_halfBits, .ref h_this_oldSet, .ref h_this_oldNumber, .ref h_this_allSets, .ref h_this_allNumbers, .int v_allMany, .ref h_this_root])), (h_this_number, .inl (cI, 15625, .inl v_number)), (h_this_set, .inl (cI, 6, .inl v_set)), (h_this_constant, .inl (cI, 6, .inl v_constant))]) C iw_Md t_Md t_Md_ok n_Md 0 rfl rfl 5 (by decide) zw_503 rfl (ty := .int) rfl rfl rfl (by simp) d_Md_start_22 rfl ?_
  refine z_aload_n C d_Md_start_25 rfl 0 rfl ?_
  refine z_iconst (v := 0) C d_Md_start_26 (by decide) ?_
  refine z_put (ws' := [(h_this, .inr (5, [.int v_thrown, .int x1, .int (0 : Int32), .int (0 : Int32), .int (0 : Int32), .int (0 : Int32), .int (0 : Int32), .ref h_this_number, .ref h_this_set, .ref h_this_constant, .int v_rules, .ref h_this_ruleKind, .ref h_this_ruleBit, .ref h_this_ruleOther, .int v_alone, .int v_halfBits, .ref h_this_oldSet, .ref h_this_oldNumber, .ref h_this_allSets, .ref h_this_allNumbers, .int v_allMany, .ref h_this_root])), (h_this_number, .inl (cI, 15625, .inl v_number)), (h_this_set, .inl (cI, 6, .inl v_set)), (h_this_constant, .inl (cI, 6, .inl v_constant))]) C iw_Md t_Md t_Md_ok n_Md 0 rfl rfl 6 (by decide) zw_504 rfl (ty := .int) rfl rfl rfl (by simp) d_Md_start_27 rfl ?_
  refine z_aload_n C d_Md_start_30 rfl 0 rfl ?_
  refine z_iconst (v := 0) C d_Md_start_31 (by decide) ?_
  refine z_put (ws' := [(h_this, .inr (5, [.int v_thrown, .int x1, .int (0 : Int32), .int (0 : Int32), .int (0 : Int32), .int (0 : Int32), .int (0 : Int32), .ref h_this_number, .ref h_this_set, .ref h_this_constant, .int (0 : Int32), .ref h_this_ruleKind, .ref h_this_ruleBit, .ref h_this_ruleOther, .int v_alone, .int v_halfBits, .ref h_this_oldSet, .ref h_this_oldNumber, .ref h_this_allSets, .ref h_this_allNumbers, .int v_allMany, .ref h_this_root])), (h_this_number, .inl (cI, 15625, .inl v_number)), (h_this_set, .inl (cI, 6, .inl v_set)), (h_this_constant, .inl (cI, 6, .inl v_constant))]) C iw_Md t_Md t_Md_ok n_Md 0 rfl rfl 10 (by decide) zw_508 rfl (ty := .int) rfl rfl rfl (by simp) d_Md_start_32 rfl ?_
  refine z_iconst (v := 0) C d_Md_start_35 (by decide) ?_
  refine z_istore_n (lv' := [(2, .int (0 : Int32)), (0, .ref h_this), (1, .int x1)]) C d_Md_start_36 rfl (by decide) rfl ?_
  refine z_lv [1, 0] rfl ?_
  obtain ⟨q_1, h_2, hf⟩ := zb1_elim hf
  refine k_Md_start_l37_run C hr h_2 ?_
  refine z_iconst (v := 0) C d_Md_start_57 (by decide) ?_
  refine z_istore_n (lv' := [(2, .int (0 : Int32)), (0, .ref h_this)]) C d_Md_start_58 rfl (by decide) rfl ?_
  refine z_lv [1, 0] rfl ?_
  obtain ⟨q_3, q_4, h_5, hf⟩ := zb2_elim hf
  refine k_Md_start_l59_run C hr h_5 ?_
  cases hf
  exact z_vret C hr d_Md_start_85
theorem c_Md_start {l : Launch} {D : va_G} {cI cL : ClassId} {h_this h_this_number h_this_set h_this_constant h_this_ruleKind h_this_ruleBit h_this_ruleOther h_this_oldSet h_this_oldNumber h_this_allSets h_this_allNumbers h_this_root : Nat} {v_thrown v_wires v_isOpen v_isEmpty v_came v_there v_halves v_rules v_alone v_halfBits v_allMany o_wires o_isOpen o_isEmpty o_came o_there o_halves o_rules x1 : Int32} {v_number v_set v_constant o_number o_set o_constant : Nat → Int32} (hf : f_Md_start x1 v_wires v_isOpen v_isEmpty v_came v_there v_halves v_rules v_number v_set v_constant = some (o_wires, o_isOpen, o_isEmpty, o_came, o_there, o_halves, o_rules, o_number, o_set, o_constant)) : zM l y_Md_start (Cond.code y_Md_start b_Md_start 3 none :: zT) rm_Md_start D vwCl [(cI, .int), (cL, .long)] [.ref h_this, .int x1] [(h_this, .inr (5, [.int v_thrown, .int v_wires, .int v_isOpen, .int v_isEmpty, .int v_came, .int v_there, .int v_halves, .ref h_this_number, .ref h_this_set, .ref h_this_constant, .int v_rules, .ref h_this_ruleKind, .ref h_this_ruleBit, .ref h_this_ruleOther, .int v_alone, .int v_halfBits, .ref h_this_oldSet, .ref h_this_oldNumber, .ref h_this_allSets, .ref h_this_allNumbers, .int v_allMany, .ref h_this_root])), (h_this_number, .inl (cI, 15625, .inl v_number)), (h_this_set, .inl (cI, 6, .inl v_set)), (h_this_constant, .inl (cI, 6, .inl v_constant))] [(h_this, .inr (5, [.int v_thrown, .int o_wires, .int o_isOpen, .int o_isEmpty, .int o_came, .int o_there, .int o_halves, .ref h_this_number, .ref h_this_set, .ref h_this_constant, .int o_rules, .ref h_this_ruleKind, .ref h_this_ruleBit, .ref h_this_ruleOther, .int v_alone, .int v_halfBits, .ref h_this_oldSet, .ref h_this_oldNumber, .ref h_this_allSets, .ref h_this_allNumbers, .int v_allMany, .ref h_this_root])), (h_this_number, .inl (cI, 15625, .inl o_number)), (h_this_set, .inl (cI, 6, .inl o_set)), (h_this_constant, .inl (cI, 6, .inl o_constant))] (none) :=
  zM.intro (by decide) rfl (fun _ h => List.mem_cons_of_mem _ h) (Nat.le_of_ble_eq_true rfl) (fun _ _ _ _ _ _ _ C hr _ => k_Md_start C hr hf)
def rm_Md_begin : Room := { frames := 1, cells := 0, slots := 0, locals := 22 }
def f_Md_begin_l36 (x1 : Int32) (x2 : Int32) (v_thrown : Int32) (v_wires : Int32) (v_isOpen : Int32) (v_isEmpty : Int32) (v_came : Int32) (v_there : Int32) (v_halves : Int32) (v_rules : Int32) (v_number : Nat → Int32) (v_set : Nat → Int32) (x3 : Int32) (v_constant : Nat → Int32) : Option ((Int32 × (Nat → Int32)) ⊕ ((Nat → Int32))) :=
  if x1 ≤ x3 then (
    some (.inr (v_constant)))
  else (
    if x3 < 0 ∨ 6 ≤ x3.toNatClampNeg then none else
    zlet (upd v_constant x3.toNatClampNeg ((x2 >>> (x3 &&& 31)) &&& (1 : Int32))) fun u_3 =>
    zlet (x3 + 1) fun y_4 =>
    some (.inl (y_4, u_3)))
set_option maxRecDepth 100000 in
set_option maxHeartbeats 4000000 in
theorem k_Md_begin_l36 {p : Program} {l : Launch} {e : Env} {s : State} {m : MethodId} {args : Array Value} {below : List Frame} {meth : Method} {c : Code} {D : va_G} {cI cL : ClassId} {h_this h_this_number h_this_set h_this_constant h_this_ruleKind h_this_ruleBit h_this_ruleOther h_this_oldSet h_this_oldNumber h_this_allSets h_this_allNumbers h_this_root : Nat} {v_thrown v_wires v_isOpen v_isEmpty v_came v_there v_halves v_rules v_alone v_halfBits v_allMany rr o_thrown o_wires o_isOpen o_isEmpty o_came o_there o_halves o_rules x1 x2 x3 : Int32} {v_number v_set v_constant o_number o_set o_constant : Nat → Int32} (C : zC p s m args meth c b_Md_begin 4 R_Md D vwCl [(cI, .int), (cL, .long)] (zA [h_this, h_this_number, h_this_set, h_this_constant] s.heap.size)) (hr : meth.sig.returnType = some .boolean) {z : (Int32 × (Nat → Int32)) ⊕ ((Nat → Int32))} (hf : f_Md_begin_l36 x1 x2 v_thrown v_wires v_isOpen v_isEmpty v_came v_there v_halves v_rules v_number v_set x3 v_constant = some z) (hK : zcase (fun q => ZV p l e rm_Md_begin s m args below meth c 4 D (some (.int rr)) [(h_this, .inr (5, [.int o_thrown, .int o_wires, .int o_isOpen, .int o_isEmpty, .int o_came, .int o_there, .int o_halves, .ref h_this_number, .ref h_this_set, .ref h_this_constant, .int o_rules, .ref h_this_ruleKind, .ref h_this_ruleBit, .ref h_this_ruleOther, .int v_alone, .int v_halfBits, .ref h_this_oldSet, .ref h_this_oldNumber, .ref h_this_allSets, .ref h_this_allNumbers, .int v_allMany, .ref h_this_root])), (h_this_number, .inl (cI, 15625, .inl o_number)), (h_this_set, .inl (cI, 6, .inl o_set)), (h_this_constant, .inl (cI, 6, .inl o_constant))] [h_this, h_this_number, h_this_set, h_this_constant] [(h_this, .inr (5, [.int v_thrown, .int v_wires, .int v_isOpen, .int v_isEmpty, .int v_came, .int v_there, .int v_halves, .ref h_this_number, .ref h_this_set, .ref h_this_constant, .int v_rules, .ref h_this_ruleKind, .ref h_this_ruleBit, .ref h_this_ruleOther, .int v_alone, .int v_halfBits, .ref h_this_oldSet, .ref h_this_oldNumber, .ref h_this_allSets, .ref h_this_allNumbers, .int v_allMany, .ref h_this_root])), (h_this_number, .inl (cI, 15625, .inl v_number)), (h_this_set, .inl (cI, 6, .inl v_set)), (h_this_constant, .inl (cI, 6, .inl q.2))] 36 [(0, .ref h_this), (1, .int x1), (2, .int x2), (3, .int q.1)] []) (fun q => ZV p l e rm_Md_begin s m args below meth c 4 D (some (.int rr)) [(h_this, .inr (5, [.int o_thrown, .int o_wires, .int o_isOpen, .int o_isEmpty, .int o_came, .int o_there, .int o_halves, .ref h_this_number, .ref h_this_set, .ref h_this_constant, .int o_rules, .ref h_this_ruleKind, .ref h_this_ruleBit, .ref h_this_ruleOther, .int v_alone, .int v_halfBits, .ref h_this_oldSet, .ref h_this_oldNumber, .ref h_this_allSets, .ref h_this_allNumbers, .int v_allMany, .ref h_this_root])), (h_this_number, .inl (cI, 15625, .inl o_number)), (h_this_set, .inl (cI, 6, .inl o_set)), (h_this_constant, .inl (cI, 6, .inl o_constant))] [h_this, h_this_number, h_this_set, h_this_constant] [(h_this, .inr (5, [.int v_thrown, .int v_wires, .int v_isOpen, .int v_isEmpty, .int v_came, .int v_there, .int v_halves, .ref h_this_number, .ref h_this_set, .ref h_this_constant, .int v_rules, .ref h_this_ruleKind, .ref h_this_ruleBit, .ref h_this_ruleOther, .int v_alone, .int v_halfBits, .ref h_this_oldSet, .ref h_this_oldNumber, .ref h_this_allSets, .ref h_this_allNumbers, .int v_allMany, .ref h_this_root])), (h_this_number, .inl (cI, 15625, .inl v_number)), (h_this_set, .inl (cI, 6, .inl v_set)), (h_this_constant, .inl (cI, 6, .inl q))] 58 [] []) z) : ZV p l e rm_Md_begin s m args below meth c 4 D (some (.int rr)) [(h_this, .inr (5, [.int o_thrown, .int o_wires, .int o_isOpen, .int o_isEmpty, .int o_came, .int o_there, .int o_halves, .ref h_this_number, .ref h_this_set, .ref h_this_constant, .int o_rules, .ref h_this_ruleKind, .ref h_this_ruleBit, .ref h_this_ruleOther, .int v_alone, .int v_halfBits, .ref h_this_oldSet, .ref h_this_oldNumber, .ref h_this_allSets, .ref h_this_allNumbers, .int v_allMany, .ref h_this_root])), (h_this_number, .inl (cI, 15625, .inl o_number)), (h_this_set, .inl (cI, 6, .inl o_set)), (h_this_constant, .inl (cI, 6, .inl o_constant))] [h_this, h_this_number, h_this_set, h_this_constant] [(h_this, .inr (5, [.int v_thrown, .int v_wires, .int v_isOpen, .int v_isEmpty, .int v_came, .int v_there, .int v_halves, .ref h_this_number, .ref h_this_set, .ref h_this_constant, .int v_rules, .ref h_this_ruleKind, .ref h_this_ruleBit, .ref h_this_ruleOther, .int v_alone, .int v_halfBits, .ref h_this_oldSet, .ref h_this_oldNumber, .ref h_this_allSets, .ref h_this_allNumbers, .int v_allMany, .ref h_this_root])), (h_this_number, .inl (cI, 15625, .inl v_number)), (h_this_set, .inl (cI, 6, .inl v_set)), (h_this_constant, .inl (cI, 6, .inl v_constant))] 36 [(0, .ref h_this), (1, .int x1), (2, .int x2), (3, .int x3)] [] := by
  unfold f_Md_begin_l36 at hf
  refine z_iload_n C d_Md_begin_36 rfl 3 rfl ?_
  refine z_iload_n C d_Md_begin_37 rfl 1 rfl ?_
  refine z_icmp_ge (tgt := 58) C d_Md_begin_38 (by decide) (fun c_1 => ?_) (fun c_1 => ?_)
  · have hf := zif_pos c_1 hf
    refine z_lv [] rfl ?_
    cases hf
    exact hK
  · have hf := zif_neg c_1 hf
    refine z_aload_n C d_Md_begin_41 rfl 0 rfl ?_
    refine z_get C iw_Md 0 rfl rfl 9 (by decide) zw_507 rfl d_Md_begin_42 ?_
    refine z_iload_n C d_Md_begin_45 rfl 3 rfl ?_
    refine z_iload_n C d_Md_begin_46 rfl 2 rfl ?_
    refine z_iload_n C d_Md_begin_47 rfl 3 rfl ?_
    refine z_ishr C d_Md_begin_48 ?_
    refine z_iconst (v := 1) C d_Md_begin_49 (by decide) ?_
    refine z_iand C d_Md_begin_50 ?_
    obtain ⟨g_2, hf⟩ := zguard hf
    obtain ⟨u_3, eu_3⟩ : ∃ u : Nat → Int32, u = upd v_constant x3.toNatClampNeg ((x2 >>> (x3 &&& 31)) &&& (1 : Int32)) := ⟨_, rfl⟩
    have hf := zlet_at eu_3 hf
    refine z_iast (ws' := [(h_this, .inr (5, [.int v_thrown, .int v_wires, .int v_isOpen, .int v_isEmpty, .int v_came, .int v_there, .int v_halves, .ref h_this_number, .ref h_this_set, .ref h_this_constant, .int v_rules, .ref h_this_ruleKind, .ref h_this_ruleBit, .ref h_this_ruleOther, .int v_alone, .int v_halfBits, .ref h_this_oldSet, .ref h_this_oldNumber, .ref h_this_allSets, .ref h_this_allNumbers, .int v_allMany, .ref h_this_root])), (h_this_number, .inl (cI, 15625, .inl v_number)), (h_this_set, .inl (cI, 6, .inl v_set)), (h_this_constant, .inl (cI, 6, .inl u_3))]) C 3 0 rfl rfl g_2 d_Md_begin_51 (by rw [eu_3]; rfl) ?_
    obtain ⟨y_4, ey_4⟩ : ∃ y : Int32, y = x3 + 1 := ⟨_, rfl⟩
    have hf := zlet_at ey_4 hf
    refine z_iinc (v := y_4) (lv' := [(3, .int y_4), (0, .ref h_this), (1, .int x1), (2, .int x2)]) C d_Md_begin_52 (k := 3) rfl (by rw [ey_4]; rfl) (by decide) rfl ?_
    refine z_goto (tgt := 36) C d_Md_begin_55 (by decide) ?_
    refine z_lv [1, 2, 3, 0] rfl ?_
    cases hf
    exact hK
theorem k_Md_begin_l36_run {p : Program} {l : Launch} {e : Env} {s : State} {m : MethodId} {args : Array Value} {below : List Frame} {meth : Method} {c : Code} {D : va_G} {cI cL : ClassId} {h_this h_this_number h_this_set h_this_constant h_this_ruleKind h_this_ruleBit h_this_ruleOther h_this_oldSet h_this_oldNumber h_this_allSets h_this_allNumbers h_this_root : Nat} {v_thrown v_wires v_isOpen v_isEmpty v_came v_there v_halves v_rules v_alone v_halfBits v_allMany rr o_thrown o_wires o_isOpen o_isEmpty o_came o_there o_halves o_rules x1 x2 x3 : Int32} {v_number v_set v_constant o_number o_set o_constant : Nat → Int32} (C : zC p s m args meth c b_Md_begin 4 R_Md D vwCl [(cI, .int), (cL, .long)] (zA [h_this, h_this_number, h_this_set, h_this_constant] s.heap.size)) (hr : meth.sig.returnType = some .boolean) {o0 : Nat → Int32} (hf : zloop (fun q => f_Md_begin_l36 x1 x2 v_thrown v_wires v_isOpen v_isEmpty v_came v_there v_halves v_rules v_number v_set q.1 q.2) zF (x3, v_constant) = some o0) (hK : ZV p l e rm_Md_begin s m args below meth c 4 D (some (.int rr)) [(h_this, .inr (5, [.int o_thrown, .int o_wires, .int o_isOpen, .int o_isEmpty, .int o_came, .int o_there, .int o_halves, .ref h_this_number, .ref h_this_set, .ref h_this_constant, .int o_rules, .ref h_this_ruleKind, .ref h_this_ruleBit, .ref h_this_ruleOther, .int v_alone, .int v_halfBits, .ref h_this_oldSet, .ref h_this_oldNumber, .ref h_this_allSets, .ref h_this_allNumbers, .int v_allMany, .ref h_this_root])), (h_this_number, .inl (cI, 15625, .inl o_number)), (h_this_set, .inl (cI, 6, .inl o_set)), (h_this_constant, .inl (cI, 6, .inl o_constant))] [h_this, h_this_number, h_this_set, h_this_constant] [(h_this, .inr (5, [.int v_thrown, .int v_wires, .int v_isOpen, .int v_isEmpty, .int v_came, .int v_there, .int v_halves, .ref h_this_number, .ref h_this_set, .ref h_this_constant, .int v_rules, .ref h_this_ruleKind, .ref h_this_ruleBit, .ref h_this_ruleOther, .int v_alone, .int v_halfBits, .ref h_this_oldSet, .ref h_this_oldNumber, .ref h_this_allSets, .ref h_this_allNumbers, .int v_allMany, .ref h_this_root])), (h_this_number, .inl (cI, 15625, .inl v_number)), (h_this_set, .inl (cI, 6, .inl v_set)), (h_this_constant, .inl (cI, 6, .inl o0))] 58 [] []) : ZV p l e rm_Md_begin s m args below meth c 4 D (some (.int rr)) [(h_this, .inr (5, [.int o_thrown, .int o_wires, .int o_isOpen, .int o_isEmpty, .int o_came, .int o_there, .int o_halves, .ref h_this_number, .ref h_this_set, .ref h_this_constant, .int o_rules, .ref h_this_ruleKind, .ref h_this_ruleBit, .ref h_this_ruleOther, .int v_alone, .int v_halfBits, .ref h_this_oldSet, .ref h_this_oldNumber, .ref h_this_allSets, .ref h_this_allNumbers, .int v_allMany, .ref h_this_root])), (h_this_number, .inl (cI, 15625, .inl o_number)), (h_this_set, .inl (cI, 6, .inl o_set)), (h_this_constant, .inl (cI, 6, .inl o_constant))] [h_this, h_this_number, h_this_set, h_this_constant] [(h_this, .inr (5, [.int v_thrown, .int v_wires, .int v_isOpen, .int v_isEmpty, .int v_came, .int v_there, .int v_halves, .ref h_this_number, .ref h_this_set, .ref h_this_constant, .int v_rules, .ref h_this_ruleKind, .ref h_this_ruleBit, .ref h_this_ruleOther, .int v_alone, .int v_halfBits, .ref h_this_oldSet, .ref h_this_oldNumber, .ref h_this_allSets, .ref h_this_allNumbers, .int v_allMany, .ref h_this_root])), (h_this_number, .inl (cI, 15625, .inl v_number)), (h_this_set, .inl (cI, 6, .inl v_set)), (h_this_constant, .inl (cI, 6, .inl v_constant))] 36 [(0, .ref h_this), (1, .int x1), (2, .int x2), (3, .int x3)] [] :=
  zloop_run (P := fun q => ZV p l e rm_Md_begin s m args below meth c 4 D (some (.int rr)) [(h_this, .inr (5, [.int o_thrown, .int o_wires, .int o_isOpen, .int o_isEmpty, .int o_came, .int o_there, .int o_halves, .ref h_this_number, .ref h_this_set, .ref h_this_constant, .int o_rules, .ref h_this_ruleKind, .ref h_this_ruleBit, .ref h_this_ruleOther, .int v_alone, .int v_halfBits, .ref h_this_oldSet, .ref h_this_oldNumber, .ref h_this_allSets, .ref h_this_allNumbers, .int v_allMany, .ref h_this_root])), (h_this_number, .inl (cI, 15625, .inl o_number)), (h_this_set, .inl (cI, 6, .inl o_set)), (h_this_constant, .inl (cI, 6, .inl o_constant))] [h_this, h_this_number, h_this_set, h_this_constant] [(h_this, .inr (5, [.int v_thrown, .int v_wires, .int v_isOpen, .int v_isEmpty, .int v_came, .int v_there, .int v_halves, .ref h_this_number, .ref h_this_set, .ref h_this_constant, .int v_rules, .ref h_this_ruleKind, .ref h_this_ruleBit, .ref h_this_ruleOther, .int v_alone, .int v_halfBits, .ref h_this_oldSet, .ref h_this_oldNumber, .ref h_this_allSets, .ref h_this_allNumbers, .int v_allMany, .ref h_this_root])), (h_this_number, .inl (cI, 15625, .inl v_number)), (h_this_set, .inl (cI, 6, .inl v_set)), (h_this_constant, .inl (cI, 6, .inl q.2))] 36 [(0, .ref h_this), (1, .int x1), (2, .int x2), (3, .int q.1)] []) (K := (fun q => ZV p l e rm_Md_begin s m args below meth c 4 D (some (.int rr)) [(h_this, .inr (5, [.int o_thrown, .int o_wires, .int o_isOpen, .int o_isEmpty, .int o_came, .int o_there, .int o_halves, .ref h_this_number, .ref h_this_set, .ref h_this_constant, .int o_rules, .ref h_this_ruleKind, .ref h_this_ruleBit, .ref h_this_ruleOther, .int v_alone, .int v_halfBits, .ref h_this_oldSet, .ref h_this_oldNumber, .ref h_this_allSets, .ref h_this_allNumbers, .int v_allMany, .ref h_this_root])), (h_this_number, .inl (cI, 15625, .inl o_number)), (h_this_set, .inl (cI, 6, .inl o_set)), (h_this_constant, .inl (cI, 6, .inl o_constant))] [h_this, h_this_number, h_this_set, h_this_constant] [(h_this, .inr (5, [.int v_thrown, .int v_wires, .int v_isOpen, .int v_isEmpty, .int v_came, .int v_there, .int v_halves, .ref h_this_number, .ref h_this_set, .ref h_this_constant, .int v_rules, .ref h_this_ruleKind, .ref h_this_ruleBit, .ref h_this_ruleOther, .int v_alone, .int v_halfBits, .ref h_this_oldSet, .ref h_this_oldNumber, .ref h_this_allSets, .ref h_this_allNumbers, .int v_allMany, .ref h_this_root])), (h_this_number, .inl (cI, 15625, .inl v_number)), (h_this_set, .inl (cI, 6, .inl v_set)), (h_this_constant, .inl (cI, 6, .inl q))] 58 [] [])) (fun q z hz hK => k_Md_begin_l36 C hr hz hK) zF _ (o0) hf hK
/-- PathSumsModel.begin(II)Z -/
def f_Md_begin (x1 : Int32) (x2 : Int32) (v_thrown : Int32) (v_wires : Int32) (v_isOpen : Int32) (v_isEmpty : Int32) (v_came : Int32) (v_there : Int32) (v_halves : Int32) (v_rules : Int32) (v_number : Nat → Int32) (v_set : Nat → Int32) (v_constant : Nat → Int32) : Option (Int32 × Int32 × Int32 × Int32 × Int32 × Int32 × Int32 × Int32 × Int32 × (Nat → Int32) × (Nat → Int32) × (Nat → Int32)) :=
  if x1 < (1 : Int32) then (
    some ((0 : Int32), (0 : Int32), v_wires, v_isOpen, v_isEmpty, v_came, v_there, v_halves, v_rules, v_number, v_set, v_constant))
  else (
    if (6 : Int32) < x1 then (
      some ((0 : Int32), (0 : Int32), v_wires, v_isOpen, v_isEmpty, v_came, v_there, v_halves, v_rules, v_number, v_set, v_constant))
    else (
      if x2 < 0 then (
        some ((0 : Int32), (0 : Int32), v_wires, v_isOpen, v_isEmpty, v_came, v_there, v_halves, v_rules, v_number, v_set, v_constant))
      else (
        if x2 < ((1 : Int32) <<< (x1 &&& 31)) then (
          zb10 (f_Md_start x1 v_wires v_isOpen v_isEmpty v_came v_there v_halves v_rules v_number v_set v_constant) fun q_6 q_7 q_8 q_9 q_10 q_11 q_12 q_13 q_14 q_15 =>
          zb1 (zloop (fun q => f_Md_begin_l36 x1 x2 (0 : Int32) q_6 q_7 q_8 q_9 q_10 q_11 q_12 q_13 q_14 q.1 q.2) zF ((0 : Int32), q_15)) fun q_16 =>
          some ((1 : Int32), (0 : Int32), q_6, q_7, q_8, q_9, q_10, q_11, q_12, q_13, q_14, q_16))
        else (
          some ((0 : Int32), (0 : Int32), v_wires, v_isOpen, v_isEmpty, v_came, v_there, v_halves, v_rules, v_number, v_set, v_constant)))))
set_option maxRecDepth 100000 in
set_option maxHeartbeats 4000000 in
theorem k_Md_begin {p : Program} {l : Launch} {e : Env} {s : State} {m : MethodId} {args : Array Value} {below : List Frame} {meth : Method} {c : Code} {D : va_G} {cI cL : ClassId} {h_this h_this_number h_this_set h_this_constant h_this_ruleKind h_this_ruleBit h_this_ruleOther h_this_oldSet h_this_oldNumber h_this_allSets h_this_allNumbers h_this_root : Nat} {v_thrown v_wires v_isOpen v_isEmpty v_came v_there v_halves v_rules v_alone v_halfBits v_allMany rr o_thrown o_wires o_isOpen o_isEmpty o_came o_there o_halves o_rules x1 x2 : Int32} {v_number v_set v_constant o_number o_set o_constant : Nat → Int32} (C : zC p s m args meth c b_Md_begin 4 R_Md D vwCl [(cI, .int), (cL, .long)] (zA [h_this, h_this_number, h_this_set, h_this_constant] s.heap.size)) (hr : meth.sig.returnType = some .boolean) (hf : f_Md_begin x1 x2 v_thrown v_wires v_isOpen v_isEmpty v_came v_there v_halves v_rules v_number v_set v_constant = some (rr, o_thrown, o_wires, o_isOpen, o_isEmpty, o_came, o_there, o_halves, o_rules, o_number, o_set, o_constant)) : ZV p l e rm_Md_begin s m args below meth c 4 D (some (.int rr)) [(h_this, .inr (5, [.int o_thrown, .int o_wires, .int o_isOpen, .int o_isEmpty, .int o_came, .int o_there, .int o_halves, .ref h_this_number, .ref h_this_set, .ref h_this_constant, .int o_rules, .ref h_this_ruleKind, .ref h_this_ruleBit, .ref h_this_ruleOther, .int v_alone, .int v_halfBits, .ref h_this_oldSet, .ref h_this_oldNumber, .ref h_this_allSets, .ref h_this_allNumbers, .int v_allMany, .ref h_this_root])), (h_this_number, .inl (cI, 15625, .inl o_number)), (h_this_set, .inl (cI, 6, .inl o_set)), (h_this_constant, .inl (cI, 6, .inl o_constant))] [h_this, h_this_number, h_this_set, h_this_constant] [(h_this, .inr (5, [.int v_thrown, .int v_wires, .int v_isOpen, .int v_isEmpty, .int v_came, .int v_there, .int v_halves, .ref h_this_number, .ref h_this_set, .ref h_this_constant, .int v_rules, .ref h_this_ruleKind, .ref h_this_ruleBit, .ref h_this_ruleOther, .int v_alone, .int v_halfBits, .ref h_this_oldSet, .ref h_this_oldNumber, .ref h_this_allSets, .ref h_this_allNumbers, .int v_allMany, .ref h_this_root])), (h_this_number, .inl (cI, 15625, .inl v_number)), (h_this_set, .inl (cI, 6, .inl v_set)), (h_this_constant, .inl (cI, 6, .inl v_constant))] 0 [(0, .ref h_this), (1, .int x1), (2, .int x2)] [] := by
  unfold f_Md_begin at hf
  refine z_aload_n C d_Md_begin_0 rfl 0 rfl ?_
  refine z_iconst (v := 0) C d_Md_begin_1 (by decide) ?_
  refine z_put (ws' := [(h_this, .inr (5, [.int (0 : Int32), .int v_wires, .int v_isOpen, .int v_isEmpty, .int v_came, .int v_there, .int v_halves, .ref h_this_number, .ref h_this_set, .ref h_this_constant, .int v_rules, .ref h_this_ruleKind, .ref h_this_ruleBit, .ref h_this_ruleOther, .int v_alone, .int v_halfBits, .ref h_this_oldSet, .ref h_this_oldNumber, .ref h_this_allSets, .ref h_this_allNumbers, .int v_allMany, .ref h_this_root])), (h_this_number, .inl (cI, 15625, .inl v_number)), (h_this_set, .inl (cI, 6, .inl v_set)), (h_this_constant, .inl (cI, 6, .inl v_constant))]) C iw_Md t_Md t_Md_ok n_Md 0 rfl rfl 0 (by decide) zw_498 rfl (ty := .int) rfl rfl rfl (by simp) d_Md_begin_2 rfl ?_
  refine z_iload_n C d_Md_begin_5 rfl 1 rfl ?_
  refine z_iconst (v := 1) C d_Md_begin_6 (by decide) ?_
  refine z_icmp_lt (tgt := 27) C d_Md_begin_7 (by decide) (fun c_1 => ?_) (fun c_1 => ?_)
  · have hf := zif_pos c_1 hf
    refine z_iconst (v := 0) C d_Md_begin_27 (by decide) ?_
    cases hf
    exact z_zret C hr rfl d_Md_begin_28
  · have hf := zif_neg c_1 hf
    refine z_iload_n C d_Md_begin_10 rfl 1 rfl ?_
    refine z_bipush (v := 6) C d_Md_begin_11 (by decide) ?_
    refine z_icmp_gt (tgt := 27) C d_Md_begin_13 (by decide) (fun c_2 => ?_) (fun c_2 => ?_)
    · have hf := zif_pos c_2 hf
      refine z_iconst (v := 0) C d_Md_begin_27 (by decide) ?_
      cases hf
      exact z_zret C hr rfl d_Md_begin_28
    · have hf := zif_neg c_2 hf
      refine z_iload_n C d_Md_begin_16 rfl 2 rfl ?_
      refine z_if_lt (tgt := 27) C d_Md_begin_17 (by decide) (fun c_3 => ?_) (fun c_3 => ?_)
      · have hf := zif_pos c_3 hf
        refine z_iconst (v := 0) C d_Md_begin_27 (by decide) ?_
        cases hf
        exact z_zret C hr rfl d_Md_begin_28
      · have hf := zif_neg c_3 hf
        refine z_iload_n C d_Md_begin_20 rfl 2 rfl ?_
        refine z_iconst (v := 1) C d_Md_begin_21 (by decide) ?_
        refine z_iload_n C d_Md_begin_22 rfl 1 rfl ?_
        refine z_ishl C d_Md_begin_23 ?_
        refine z_icmp_lt (tgt := 29) C d_Md_begin_24 (by decide) (fun c_4 => ?_) (fun c_4 => ?_)
        · have hf := zif_pos c_4 hf
          refine z_aload_n C d_Md_begin_29 rfl 0 rfl ?_
          refine z_iload_n C d_Md_begin_30 rfl 1 rfl ?_
          obtain ⟨q_6, q_7, q_8, q_9, q_10, q_11, q_12, q_13, q_14, q_15, h_5, hf⟩ := zb10_elim hf
          refine z_callV (As := [.int x1]) (rest := []) (ws' := [(h_this, .inr (5, [.int (0 : Int32), .int q_6, .int q_7, .int q_8, .int q_9, .int q_10, .int q_11, .ref h_this_number, .ref h_this_set, .ref h_this_constant, .int q_12, .ref h_this_ruleKind, .ref h_this_ruleBit, .ref h_this_ruleOther, .int v_alone, .int v_halfBits, .ref h_this_oldSet, .ref h_this_oldNumber, .ref h_this_allSets, .ref h_this_allNumbers, .int v_allMany, .ref h_this_root])), (h_this_number, .inl (cI, 15625, .inl q_13)), (h_this_set, .inl (cI, 6, .inl q_14)), (h_this_constant, .inl (cI, 6, .inl q_15))]) C (c_Md_start h_5) mi_Md_start zw_494 (by decide) 0 rfl rfl [0, 1, 2, 3] (by decide) rfl rfl rfl rfl rfl (by decide) ⟨Nat.zero_le _, Nat.zero_le _⟩ d_Md_begin_31 ?_
          refine z_iconst (v := 0) C d_Md_begin_34 (by decide) ?_
          refine z_istore_n (lv' := [(3, .int (0 : Int32)), (0, .ref h_this), (1, .int x1), (2, .int x2)]) C d_Md_begin_35 rfl (by decide) rfl ?_
          refine z_lv [1, 2, 3, 0] rfl ?_
          obtain ⟨q_16, h_17, hf⟩ := zb1_elim hf
          refine k_Md_begin_l36_run C hr h_17 ?_
          refine z_iconst (v := 1) C d_Md_begin_58 (by decide) ?_
          cases hf
          exact z_zret C hr rfl d_Md_begin_59
        · have hf := zif_neg c_4 hf
          refine z_iconst (v := 0) C d_Md_begin_27 (by decide) ?_
          cases hf
          exact z_zret C hr rfl d_Md_begin_28
theorem c_Md_begin {l : Launch} {D : va_G} {cI cL : ClassId} {h_this h_this_number h_this_set h_this_constant h_this_ruleKind h_this_ruleBit h_this_ruleOther h_this_oldSet h_this_oldNumber h_this_allSets h_this_allNumbers h_this_root : Nat} {v_thrown v_wires v_isOpen v_isEmpty v_came v_there v_halves v_rules v_alone v_halfBits v_allMany rr o_thrown o_wires o_isOpen o_isEmpty o_came o_there o_halves o_rules x1 x2 : Int32} {v_number v_set v_constant o_number o_set o_constant : Nat → Int32} (hf : f_Md_begin x1 x2 v_thrown v_wires v_isOpen v_isEmpty v_came v_there v_halves v_rules v_number v_set v_constant = some (rr, o_thrown, o_wires, o_isOpen, o_isEmpty, o_came, o_there, o_halves, o_rules, o_number, o_set, o_constant)) : zM l y_Md_begin (Cond.code y_Md_begin b_Md_begin 4 (some .boolean) :: zT) rm_Md_begin D vwCl [(cI, .int), (cL, .long)] [.ref h_this, .int x1, .int x2] [(h_this, .inr (5, [.int v_thrown, .int v_wires, .int v_isOpen, .int v_isEmpty, .int v_came, .int v_there, .int v_halves, .ref h_this_number, .ref h_this_set, .ref h_this_constant, .int v_rules, .ref h_this_ruleKind, .ref h_this_ruleBit, .ref h_this_ruleOther, .int v_alone, .int v_halfBits, .ref h_this_oldSet, .ref h_this_oldNumber, .ref h_this_allSets, .ref h_this_allNumbers, .int v_allMany, .ref h_this_root])), (h_this_number, .inl (cI, 15625, .inl v_number)), (h_this_set, .inl (cI, 6, .inl v_set)), (h_this_constant, .inl (cI, 6, .inl v_constant))] [(h_this, .inr (5, [.int o_thrown, .int o_wires, .int o_isOpen, .int o_isEmpty, .int o_came, .int o_there, .int o_halves, .ref h_this_number, .ref h_this_set, .ref h_this_constant, .int o_rules, .ref h_this_ruleKind, .ref h_this_ruleBit, .ref h_this_ruleOther, .int v_alone, .int v_halfBits, .ref h_this_oldSet, .ref h_this_oldNumber, .ref h_this_allSets, .ref h_this_allNumbers, .int v_allMany, .ref h_this_root])), (h_this_number, .inl (cI, 15625, .inl o_number)), (h_this_set, .inl (cI, 6, .inl o_set)), (h_this_constant, .inl (cI, 6, .inl o_constant))] (some (.int rr)) :=
  zM.intro (by decide) rfl (fun _ h => List.mem_cons_of_mem _ h) (Nat.le_of_ble_eq_true rfl) (fun _ _ _ _ _ _ _ C hr _ => k_Md_begin C hr hf)
def rm_Md_open : Room := { frames := 1, cells := 0, slots := 0, locals := 22 }
def f_Md_open_l44 (x1 : Int32) (v_thrown : Int32) (v_wires : Int32) (v_isOpen : Int32) (v_isEmpty : Int32) (v_came : Int32) (v_there : Int32) (v_halves : Int32) (v_rules : Int32) (v_number : Nat → Int32) (v_constant : Nat → Int32) (x2 : Int32) (v_set : Nat → Int32) : Option ((Int32 × (Nat → Int32)) ⊕ ((Nat → Int32))) :=
  if x1 ≤ x2 then (
    some (.inr (v_set)))
  else (
    if x2 < 0 ∨ 6 ≤ x2.toNatClampNeg then none else
    zlet (upd v_set x2.toNatClampNeg ((1 : Int32) <<< (x2 &&& 31))) fun u_3 =>
    zlet (x2 + 1) fun y_4 =>
    some (.inl (y_4, u_3)))
set_option maxRecDepth 100000 in
set_option maxHeartbeats 4000000 in
theorem k_Md_open_l44 {p : Program} {l : Launch} {e : Env} {s : State} {m : MethodId} {args : Array Value} {below : List Frame} {meth : Method} {c : Code} {D : va_G} {cI cL : ClassId} {h_this h_this_number h_this_set h_this_constant h_this_ruleKind h_this_ruleBit h_this_ruleOther h_this_oldSet h_this_oldNumber h_this_allSets h_this_allNumbers h_this_root : Nat} {v_thrown v_wires v_isOpen v_isEmpty v_came v_there v_halves v_rules v_alone v_halfBits v_allMany rr o_thrown o_wires o_isOpen o_isEmpty o_came o_there o_halves o_rules x1 x2 : Int32} {v_number v_set v_constant o_number o_set o_constant : Nat → Int32} (C : zC p s m args meth c b_Md_open 3 R_Md D vwCl [(cI, .int), (cL, .long)] (zA [h_this, h_this_number, h_this_set, h_this_constant] s.heap.size)) (hr : meth.sig.returnType = some .boolean) {z : (Int32 × (Nat → Int32)) ⊕ ((Nat → Int32))} (hf : f_Md_open_l44 x1 v_thrown v_wires v_isOpen v_isEmpty v_came v_there v_halves v_rules v_number v_constant x2 v_set = some z) (hK : zcase (fun q => ZV p l e rm_Md_open s m args below meth c 3 D (some (.int rr)) [(h_this, .inr (5, [.int o_thrown, .int o_wires, .int o_isOpen, .int o_isEmpty, .int o_came, .int o_there, .int o_halves, .ref h_this_number, .ref h_this_set, .ref h_this_constant, .int o_rules, .ref h_this_ruleKind, .ref h_this_ruleBit, .ref h_this_ruleOther, .int v_alone, .int v_halfBits, .ref h_this_oldSet, .ref h_this_oldNumber, .ref h_this_allSets, .ref h_this_allNumbers, .int v_allMany, .ref h_this_root])), (h_this_number, .inl (cI, 15625, .inl o_number)), (h_this_set, .inl (cI, 6, .inl o_set)), (h_this_constant, .inl (cI, 6, .inl o_constant))] [h_this, h_this_number, h_this_set, h_this_constant] [(h_this, .inr (5, [.int v_thrown, .int v_wires, .int v_isOpen, .int v_isEmpty, .int v_came, .int v_there, .int v_halves, .ref h_this_number, .ref h_this_set, .ref h_this_constant, .int v_rules, .ref h_this_ruleKind, .ref h_this_ruleBit, .ref h_this_ruleOther, .int v_alone, .int v_halfBits, .ref h_this_oldSet, .ref h_this_oldNumber, .ref h_this_allSets, .ref h_this_allNumbers, .int v_allMany, .ref h_this_root])), (h_this_number, .inl (cI, 15625, .inl v_number)), (h_this_set, .inl (cI, 6, .inl q.2)), (h_this_constant, .inl (cI, 6, .inl v_constant))] 44 [(0, .ref h_this), (1, .int x1), (2, .int q.1)] []) (fun q => ZV p l e rm_Md_open s m args below meth c 3 D (some (.int rr)) [(h_this, .inr (5, [.int o_thrown, .int o_wires, .int o_isOpen, .int o_isEmpty, .int o_came, .int o_there, .int o_halves, .ref h_this_number, .ref h_this_set, .ref h_this_constant, .int o_rules, .ref h_this_ruleKind, .ref h_this_ruleBit, .ref h_this_ruleOther, .int v_alone, .int v_halfBits, .ref h_this_oldSet, .ref h_this_oldNumber, .ref h_this_allSets, .ref h_this_allNumbers, .int v_allMany, .ref h_this_root])), (h_this_number, .inl (cI, 15625, .inl o_number)), (h_this_set, .inl (cI, 6, .inl o_set)), (h_this_constant, .inl (cI, 6, .inl o_constant))] [h_this, h_this_number, h_this_set, h_this_constant] [(h_this, .inr (5, [.int v_thrown, .int v_wires, .int v_isOpen, .int v_isEmpty, .int v_came, .int v_there, .int v_halves, .ref h_this_number, .ref h_this_set, .ref h_this_constant, .int v_rules, .ref h_this_ruleKind, .ref h_this_ruleBit, .ref h_this_ruleOther, .int v_alone, .int v_halfBits, .ref h_this_oldSet, .ref h_this_oldNumber, .ref h_this_allSets, .ref h_this_allNumbers, .int v_allMany, .ref h_this_root])), (h_this_number, .inl (cI, 15625, .inl v_number)), (h_this_set, .inl (cI, 6, .inl q)), (h_this_constant, .inl (cI, 6, .inl v_constant))] 64 [] []) z) : ZV p l e rm_Md_open s m args below meth c 3 D (some (.int rr)) [(h_this, .inr (5, [.int o_thrown, .int o_wires, .int o_isOpen, .int o_isEmpty, .int o_came, .int o_there, .int o_halves, .ref h_this_number, .ref h_this_set, .ref h_this_constant, .int o_rules, .ref h_this_ruleKind, .ref h_this_ruleBit, .ref h_this_ruleOther, .int v_alone, .int v_halfBits, .ref h_this_oldSet, .ref h_this_oldNumber, .ref h_this_allSets, .ref h_this_allNumbers, .int v_allMany, .ref h_this_root])), (h_this_number, .inl (cI, 15625, .inl o_number)), (h_this_set, .inl (cI, 6, .inl o_set)), (h_this_constant, .inl (cI, 6, .inl o_constant))] [h_this, h_this_number, h_this_set, h_this_constant] [(h_this, .inr (5, [.int v_thrown, .int v_wires, .int v_isOpen, .int v_isEmpty, .int v_came, .int v_there, .int v_halves, .ref h_this_number, .ref h_this_set, .ref h_this_constant, .int v_rules, .ref h_this_ruleKind, .ref h_this_ruleBit, .ref h_this_ruleOther, .int v_alone, .int v_halfBits, .ref h_this_oldSet, .ref h_this_oldNumber, .ref h_this_allSets, .ref h_this_allNumbers, .int v_allMany, .ref h_this_root])), (h_this_number, .inl (cI, 15625, .inl v_number)), (h_this_set, .inl (cI, 6, .inl v_set)), (h_this_constant, .inl (cI, 6, .inl v_constant))] 44 [(0, .ref h_this), (1, .int x1), (2, .int x2)] [] := by
  unfold f_Md_open_l44 at hf
  refine z_iload_n C d_Md_open_44 rfl 2 rfl ?_
  refine z_iload_n C d_Md_open_45 rfl 1 rfl ?_
  refine z_icmp_ge (tgt := 64) C d_Md_open_46 (by decide) (fun c_1 => ?_) (fun c_1 => ?_)
  · have hf := zif_pos c_1 hf
    refine z_lv [] rfl ?_
    cases hf
    exact hK
  · have hf := zif_neg c_1 hf
    refine z_aload_n C d_Md_open_49 rfl 0 rfl ?_
    refine z_get C iw_Md 0 rfl rfl 8 (by decide) zw_506 rfl d_Md_open_50 ?_
    refine z_iload_n C d_Md_open_53 rfl 2 rfl ?_
    refine z_iconst (v := 1) C d_Md_open_54 (by decide) ?_
    refine z_iload_n C d_Md_open_55 rfl 2 rfl ?_
    refine z_ishl C d_Md_open_56 ?_
    obtain ⟨g_2, hf⟩ := zguard hf
    obtain ⟨u_3, eu_3⟩ : ∃ u : Nat → Int32, u = upd v_set x2.toNatClampNeg ((1 : Int32) <<< (x2 &&& 31)) := ⟨_, rfl⟩
    have hf := zlet_at eu_3 hf
    refine z_iast (ws' := [(h_this, .inr (5, [.int v_thrown, .int v_wires, .int v_isOpen, .int v_isEmpty, .int v_came, .int v_there, .int v_halves, .ref h_this_number, .ref h_this_set, .ref h_this_constant, .int v_rules, .ref h_this_ruleKind, .ref h_this_ruleBit, .ref h_this_ruleOther, .int v_alone, .int v_halfBits, .ref h_this_oldSet, .ref h_this_oldNumber, .ref h_this_allSets, .ref h_this_allNumbers, .int v_allMany, .ref h_this_root])), (h_this_number, .inl (cI, 15625, .inl v_number)), (h_this_set, .inl (cI, 6, .inl u_3)), (h_this_constant, .inl (cI, 6, .inl v_constant))]) C 2 0 rfl rfl g_2 d_Md_open_57 (by rw [eu_3]; rfl) ?_
    obtain ⟨y_4, ey_4⟩ : ∃ y : Int32, y = x2 + 1 := ⟨_, rfl⟩
    have hf := zlet_at ey_4 hf
    refine z_iinc (v := y_4) (lv' := [(2, .int y_4), (0, .ref h_this), (1, .int x1)]) C d_Md_open_58 (k := 2) rfl (by rw [ey_4]; rfl) (by decide) rfl ?_
    refine z_goto (tgt := 44) C d_Md_open_61 (by decide) ?_
    refine z_lv [1, 2, 0] rfl ?_
    cases hf
    exact hK
theorem k_Md_open_l44_run {p : Program} {l : Launch} {e : Env} {s : State} {m : MethodId} {args : Array Value} {below : List Frame} {meth : Method} {c : Code} {D : va_G} {cI cL : ClassId} {h_this h_this_number h_this_set h_this_constant h_this_ruleKind h_this_ruleBit h_this_ruleOther h_this_oldSet h_this_oldNumber h_this_allSets h_this_allNumbers h_this_root : Nat} {v_thrown v_wires v_isOpen v_isEmpty v_came v_there v_halves v_rules v_alone v_halfBits v_allMany rr o_thrown o_wires o_isOpen o_isEmpty o_came o_there o_halves o_rules x1 x2 : Int32} {v_number v_set v_constant o_number o_set o_constant : Nat → Int32} (C : zC p s m args meth c b_Md_open 3 R_Md D vwCl [(cI, .int), (cL, .long)] (zA [h_this, h_this_number, h_this_set, h_this_constant] s.heap.size)) (hr : meth.sig.returnType = some .boolean) {o0 : Nat → Int32} (hf : zloop (fun q => f_Md_open_l44 x1 v_thrown v_wires v_isOpen v_isEmpty v_came v_there v_halves v_rules v_number v_constant q.1 q.2) zF (x2, v_set) = some o0) (hK : ZV p l e rm_Md_open s m args below meth c 3 D (some (.int rr)) [(h_this, .inr (5, [.int o_thrown, .int o_wires, .int o_isOpen, .int o_isEmpty, .int o_came, .int o_there, .int o_halves, .ref h_this_number, .ref h_this_set, .ref h_this_constant, .int o_rules, .ref h_this_ruleKind, .ref h_this_ruleBit, .ref h_this_ruleOther, .int v_alone, .int v_halfBits, .ref h_this_oldSet, .ref h_this_oldNumber, .ref h_this_allSets, .ref h_this_allNumbers, .int v_allMany, .ref h_this_root])), (h_this_number, .inl (cI, 15625, .inl o_number)), (h_this_set, .inl (cI, 6, .inl o_set)), (h_this_constant, .inl (cI, 6, .inl o_constant))] [h_this, h_this_number, h_this_set, h_this_constant] [(h_this, .inr (5, [.int v_thrown, .int v_wires, .int v_isOpen, .int v_isEmpty, .int v_came, .int v_there, .int v_halves, .ref h_this_number, .ref h_this_set, .ref h_this_constant, .int v_rules, .ref h_this_ruleKind, .ref h_this_ruleBit, .ref h_this_ruleOther, .int v_alone, .int v_halfBits, .ref h_this_oldSet, .ref h_this_oldNumber, .ref h_this_allSets, .ref h_this_allNumbers, .int v_allMany, .ref h_this_root])), (h_this_number, .inl (cI, 15625, .inl v_number)), (h_this_set, .inl (cI, 6, .inl o0)), (h_this_constant, .inl (cI, 6, .inl v_constant))] 64 [] []) : ZV p l e rm_Md_open s m args below meth c 3 D (some (.int rr)) [(h_this, .inr (5, [.int o_thrown, .int o_wires, .int o_isOpen, .int o_isEmpty, .int o_came, .int o_there, .int o_halves, .ref h_this_number, .ref h_this_set, .ref h_this_constant, .int o_rules, .ref h_this_ruleKind, .ref h_this_ruleBit, .ref h_this_ruleOther, .int v_alone, .int v_halfBits, .ref h_this_oldSet, .ref h_this_oldNumber, .ref h_this_allSets, .ref h_this_allNumbers, .int v_allMany, .ref h_this_root])), (h_this_number, .inl (cI, 15625, .inl o_number)), (h_this_set, .inl (cI, 6, .inl o_set)), (h_this_constant, .inl (cI, 6, .inl o_constant))] [h_this, h_this_number, h_this_set, h_this_constant] [(h_this, .inr (5, [.int v_thrown, .int v_wires, .int v_isOpen, .int v_isEmpty, .int v_came, .int v_there, .int v_halves, .ref h_this_number, .ref h_this_set, .ref h_this_constant, .int v_rules, .ref h_this_ruleKind, .ref h_this_ruleBit, .ref h_this_ruleOther, .int v_alone, .int v_halfBits, .ref h_this_oldSet, .ref h_this_oldNumber, .ref h_this_allSets, .ref h_this_allNumbers, .int v_allMany, .ref h_this_root])), (h_this_number, .inl (cI, 15625, .inl v_number)), (h_this_set, .inl (cI, 6, .inl v_set)), (h_this_constant, .inl (cI, 6, .inl v_constant))] 44 [(0, .ref h_this), (1, .int x1), (2, .int x2)] [] :=
  zloop_run (P := fun q => ZV p l e rm_Md_open s m args below meth c 3 D (some (.int rr)) [(h_this, .inr (5, [.int o_thrown, .int o_wires, .int o_isOpen, .int o_isEmpty, .int o_came, .int o_there, .int o_halves, .ref h_this_number, .ref h_this_set, .ref h_this_constant, .int o_rules, .ref h_this_ruleKind, .ref h_this_ruleBit, .ref h_this_ruleOther, .int v_alone, .int v_halfBits, .ref h_this_oldSet, .ref h_this_oldNumber, .ref h_this_allSets, .ref h_this_allNumbers, .int v_allMany, .ref h_this_root])), (h_this_number, .inl (cI, 15625, .inl o_number)), (h_this_set, .inl (cI, 6, .inl o_set)), (h_this_constant, .inl (cI, 6, .inl o_constant))] [h_this, h_this_number, h_this_set, h_this_constant] [(h_this, .inr (5, [.int v_thrown, .int v_wires, .int v_isOpen, .int v_isEmpty, .int v_came, .int v_there, .int v_halves, .ref h_this_number, .ref h_this_set, .ref h_this_constant, .int v_rules, .ref h_this_ruleKind, .ref h_this_ruleBit, .ref h_this_ruleOther, .int v_alone, .int v_halfBits, .ref h_this_oldSet, .ref h_this_oldNumber, .ref h_this_allSets, .ref h_this_allNumbers, .int v_allMany, .ref h_this_root])), (h_this_number, .inl (cI, 15625, .inl v_number)), (h_this_set, .inl (cI, 6, .inl q.2)), (h_this_constant, .inl (cI, 6, .inl v_constant))] 44 [(0, .ref h_this), (1, .int x1), (2, .int q.1)] []) (K := (fun q => ZV p l e rm_Md_open s m args below meth c 3 D (some (.int rr)) [(h_this, .inr (5, [.int o_thrown, .int o_wires, .int o_isOpen, .int o_isEmpty, .int o_came, .int o_there, .int o_halves, .ref h_this_number, .ref h_this_set, .ref h_this_constant, .int o_rules, .ref h_this_ruleKind, .ref h_this_ruleBit, .ref h_this_ruleOther, .int v_alone, .int v_halfBits, .ref h_this_oldSet, .ref h_this_oldNumber, .ref h_this_allSets, .ref h_this_allNumbers, .int v_allMany, .ref h_this_root])), (h_this_number, .inl (cI, 15625, .inl o_number)), (h_this_set, .inl (cI, 6, .inl o_set)), (h_this_constant, .inl (cI, 6, .inl o_constant))] [h_this, h_this_number, h_this_set, h_this_constant] [(h_this, .inr (5, [.int v_thrown, .int v_wires, .int v_isOpen, .int v_isEmpty, .int v_came, .int v_there, .int v_halves, .ref h_this_number, .ref h_this_set, .ref h_this_constant, .int v_rules, .ref h_this_ruleKind, .ref h_this_ruleBit, .ref h_this_ruleOther, .int v_alone, .int v_halfBits, .ref h_this_oldSet, .ref h_this_oldNumber, .ref h_this_allSets, .ref h_this_allNumbers, .int v_allMany, .ref h_this_root])), (h_this_number, .inl (cI, 15625, .inl v_number)), (h_this_set, .inl (cI, 6, .inl q)), (h_this_constant, .inl (cI, 6, .inl v_constant))] 64 [] [])) (fun q z hz hK => k_Md_open_l44 C hr hz hK) zF _ (o0) hf hK
/-- PathSumsModel.open(I)Z -/
def f_Md_open (x1 : Int32) (v_thrown : Int32) (v_wires : Int32) (v_isOpen : Int32) (v_isEmpty : Int32) (v_came : Int32) (v_there : Int32) (v_halves : Int32) (v_rules : Int32) (v_number : Nat → Int32) (v_set : Nat → Int32) (v_constant : Nat → Int32) : Option (Int32 × Int32 × Int32 × Int32 × Int32 × Int32 × Int32 × Int32 × Int32 × (Nat → Int32) × (Nat → Int32) × (Nat → Int32)) :=
  if x1 < (1 : Int32) then (
    some ((0 : Int32), (0 : Int32), v_wires, v_isOpen, v_isEmpty, v_came, v_there, v_halves, v_rules, v_number, v_set, v_constant))
  else (
    if x1 ≤ (6 : Int32) then (
      zb10 (f_Md_start x1 v_wires v_isOpen v_isEmpty v_came v_there v_halves v_rules v_number v_set v_constant) fun q_4 q_5 q_6 q_7 q_8 q_9 q_10 q_11 q_12 q_13 =>
      zlet (((1 : Int32) <<< (x1 &&& 31)) - (1 : Int32)) fun y_14 =>
      zb1 (zloop (fun q => f_Md_open_l44 x1 (0 : Int32) q_4 (1 : Int32) q_6 x1 y_14 q_9 q_10 q_11 q_13 q.1 q.2) zF ((0 : Int32), q_12)) fun q_15 =>
      some ((1 : Int32), (0 : Int32), q_4, (1 : Int32), q_6, x1, y_14, q_9, q_10, q_11, q_15, q_13))
    else (
      some ((0 : Int32), (0 : Int32), v_wires, v_isOpen, v_isEmpty, v_came, v_there, v_halves, v_rules, v_number, v_set, v_constant)))
set_option maxRecDepth 100000 in
set_option maxHeartbeats 4000000 in
theorem k_Md_open {p : Program} {l : Launch} {e : Env} {s : State} {m : MethodId} {args : Array Value} {below : List Frame} {meth : Method} {c : Code} {D : va_G} {cI cL : ClassId} {h_this h_this_number h_this_set h_this_constant h_this_ruleKind h_this_ruleBit h_this_ruleOther h_this_oldSet h_this_oldNumber h_this_allSets h_this_allNumbers h_this_root : Nat} {v_thrown v_wires v_isOpen v_isEmpty v_came v_there v_halves v_rules v_alone v_halfBits v_allMany rr o_thrown o_wires o_isOpen o_isEmpty o_came o_there o_halves o_rules x1 : Int32} {v_number v_set v_constant o_number o_set o_constant : Nat → Int32} (C : zC p s m args meth c b_Md_open 3 R_Md D vwCl [(cI, .int), (cL, .long)] (zA [h_this, h_this_number, h_this_set, h_this_constant] s.heap.size)) (hr : meth.sig.returnType = some .boolean) (hf : f_Md_open x1 v_thrown v_wires v_isOpen v_isEmpty v_came v_there v_halves v_rules v_number v_set v_constant = some (rr, o_thrown, o_wires, o_isOpen, o_isEmpty, o_came, o_there, o_halves, o_rules, o_number, o_set, o_constant)) : ZV p l e rm_Md_open s m args below meth c 3 D (some (.int rr)) [(h_this, .inr (5, [.int o_thrown, .int o_wires, .int o_isOpen, .int o_isEmpty, .int o_came, .int o_there, .int o_halves, .ref h_this_number, .ref h_this_set, .ref h_this_constant, .int o_rules, .ref h_this_ruleKind, .ref h_this_ruleBit, .ref h_this_ruleOther, .int v_alone, .int v_halfBits, .ref h_this_oldSet, .ref h_this_oldNumber, .ref h_this_allSets, .ref h_this_allNumbers, .int v_allMany, .ref h_this_root])), (h_this_number, .inl (cI, 15625, .inl o_number)), (h_this_set, .inl (cI, 6, .inl o_set)), (h_this_constant, .inl (cI, 6, .inl o_constant))] [h_this, h_this_number, h_this_set, h_this_constant] [(h_this, .inr (5, [.int v_thrown, .int v_wires, .int v_isOpen, .int v_isEmpty, .int v_came, .int v_there, .int v_halves, .ref h_this_number, .ref h_this_set, .ref h_this_constant, .int v_rules, .ref h_this_ruleKind, .ref h_this_ruleBit, .ref h_this_ruleOther, .int v_alone, .int v_halfBits, .ref h_this_oldSet, .ref h_this_oldNumber, .ref h_this_allSets, .ref h_this_allNumbers, .int v_allMany, .ref h_this_root])), (h_this_number, .inl (cI, 15625, .inl v_number)), (h_this_set, .inl (cI, 6, .inl v_set)), (h_this_constant, .inl (cI, 6, .inl v_constant))] 0 [(0, .ref h_this), (1, .int x1)] [] := by
  unfold f_Md_open at hf
  refine z_aload_n C d_Md_open_0 rfl 0 rfl ?_
  refine z_iconst (v := 0) C d_Md_open_1 (by decide) ?_
  refine z_put (ws' := [(h_this, .inr (5, [.int (0 : Int32), .int v_wires, .int v_isOpen, .int v_isEmpty, .int v_came, .int v_there, .int v_halves, .ref h_this_number, .ref h_this_set, .ref h_this_constant, .int v_rules, .ref h_this_ruleKind, .ref h_this_ruleBit, .ref h_this_ruleOther, .int v_alone, .int v_halfBits, .ref h_this_oldSet, .ref h_this_oldNumber, .ref h_this_allSets, .ref h_this_allNumbers, .int v_allMany, .ref h_this_root])), (h_this_number, .inl (cI, 15625, .inl v_number)), (h_this_set, .inl (cI, 6, .inl v_set)), (h_this_constant, .inl (cI, 6, .inl v_constant))]) C iw_Md t_Md t_Md_ok n_Md 0 rfl rfl 0 (by decide) zw_498 rfl (ty := .int) rfl rfl rfl (by simp) d_Md_open_2 rfl ?_
  refine z_iload_n C d_Md_open_5 rfl 1 rfl ?_
  refine z_iconst (v := 1) C d_Md_open_6 (by decide) ?_
  refine z_icmp_lt (tgt := 16) C d_Md_open_7 (by decide) (fun c_1 => ?_) (fun c_1 => ?_)
  · have hf := zif_pos c_1 hf
    refine z_iconst (v := 0) C d_Md_open_16 (by decide) ?_
    cases hf
    exact z_zret C hr rfl d_Md_open_17
  · have hf := zif_neg c_1 hf
    refine z_iload_n C d_Md_open_10 rfl 1 rfl ?_
    refine z_bipush (v := 6) C d_Md_open_11 (by decide) ?_
    refine z_icmp_le (tgt := 18) C d_Md_open_13 (by decide) (fun c_2 => ?_) (fun c_2 => ?_)
    · have hf := zif_pos c_2 hf
      refine z_aload_n C d_Md_open_18 rfl 0 rfl ?_
      refine z_iload_n C d_Md_open_19 rfl 1 rfl ?_
      obtain ⟨q_4, q_5, q_6, q_7, q_8, q_9, q_10, q_11, q_12, q_13, h_3, hf⟩ := zb10_elim hf
      refine z_callV (As := [.int x1]) (rest := []) (ws' := [(h_this, .inr (5, [.int (0 : Int32), .int q_4, .int q_5, .int q_6, .int q_7, .int q_8, .int q_9, .ref h_this_number, .ref h_this_set, .ref h_this_constant, .int q_10, .ref h_this_ruleKind, .ref h_this_ruleBit, .ref h_this_ruleOther, .int v_alone, .int v_halfBits, .ref h_this_oldSet, .ref h_this_oldNumber, .ref h_this_allSets, .ref h_this_allNumbers, .int v_allMany, .ref h_this_root])), (h_this_number, .inl (cI, 15625, .inl q_11)), (h_this_set, .inl (cI, 6, .inl q_12)), (h_this_constant, .inl (cI, 6, .inl q_13))]) C (c_Md_start h_3) mi_Md_start zw_494 (by decide) 0 rfl rfl [0, 1, 2, 3] (by decide) rfl rfl rfl rfl rfl (by decide) ⟨Nat.zero_le _, Nat.zero_le _⟩ d_Md_open_20 ?_
      refine z_aload_n C d_Md_open_23 rfl 0 rfl ?_
      refine z_iconst (v := 1) C d_Md_open_24 (by decide) ?_
      refine z_put (ws' := [(h_this, .inr (5, [.int (0 : Int32), .int q_4, .int (1 : Int32), .int q_6, .int q_7, .int q_8, .int q_9, .ref h_this_number, .ref h_this_set, .ref h_this_constant, .int q_10, .ref h_this_ruleKind, .ref h_this_ruleBit, .ref h_this_ruleOther, .int v_alone, .int v_halfBits, .ref h_this_oldSet, .ref h_this_oldNumber, .ref h_this_allSets, .ref h_this_allNumbers, .int v_allMany, .ref h_this_root])), (h_this_number, .inl (cI, 15625, .inl q_11)), (h_this_set, .inl (cI, 6, .inl q_12)), (h_this_constant, .inl (cI, 6, .inl q_13))]) C iw_Md t_Md t_Md_ok n_Md 0 rfl rfl 2 (by decide) zw_500 rfl (ty := .boolean) rfl rfl rfl (by simp) d_Md_open_25 rfl ?_
      refine z_aload_n C d_Md_open_28 rfl 0 rfl ?_
      refine z_iload_n C d_Md_open_29 rfl 1 rfl ?_
      refine z_put (ws' := [(h_this, .inr (5, [.int (0 : Int32), .int q_4, .int (1 : Int32), .int q_6, .int x1, .int q_8, .int q_9, .ref h_this_number, .ref h_this_set, .ref h_this_constant, .int q_10, .ref h_this_ruleKind, .ref h_this_ruleBit, .ref h_this_ruleOther, .int v_alone, .int v_halfBits, .ref h_this_oldSet, .ref h_this_oldNumber, .ref h_this_allSets, .ref h_this_allNumbers, .int v_allMany, .ref h_this_root])), (h_this_number, .inl (cI, 15625, .inl q_11)), (h_this_set, .inl (cI, 6, .inl q_12)), (h_this_constant, .inl (cI, 6, .inl q_13))]) C iw_Md t_Md t_Md_ok n_Md 0 rfl rfl 4 (by decide) zw_502 rfl (ty := .int) rfl rfl rfl (by simp) d_Md_open_30 rfl ?_
      refine z_aload_n C d_Md_open_33 rfl 0 rfl ?_
      refine z_iconst (v := 1) C d_Md_open_34 (by decide) ?_
      refine z_iload_n C d_Md_open_35 rfl 1 rfl ?_
      refine z_ishl C d_Md_open_36 ?_
      refine z_iconst (v := 1) C d_Md_open_37 (by decide) ?_
      refine z_isub C d_Md_open_38 ?_
      refine z_topi (fun y_14 ey_14 => ?_)
      have hf := zlet_at ey_14 hf
      refine z_put (ws' := [(h_this, .inr (5, [.int (0 : Int32), .int q_4, .int (1 : Int32), .int q_6, .int x1, .int y_14, .int q_9, .ref h_this_number, .ref h_this_set, .ref h_this_constant, .int q_10, .ref h_this_ruleKind, .ref h_this_ruleBit, .ref h_this_ruleOther, .int v_alone, .int v_halfBits, .ref h_this_oldSet, .ref h_this_oldNumber, .ref h_this_allSets, .ref h_this_allNumbers, .int v_allMany, .ref h_this_root])), (h_this_number, .inl (cI, 15625, .inl q_11)), (h_this_set, .inl (cI, 6, .inl q_12)), (h_this_constant, .inl (cI, 6, .inl q_13))]) C iw_Md t_Md t_Md_ok n_Md 0 rfl rfl 5 (by decide) zw_503 rfl (ty := .int) rfl rfl rfl (by simp) d_Md_open_39 rfl ?_
      refine z_iconst (v := 0) C d_Md_open_42 (by decide) ?_
      refine z_istore_n (lv' := [(2, .int (0 : Int32)), (0, .ref h_this), (1, .int x1)]) C d_Md_open_43 rfl (by decide) rfl ?_
      refine z_lv [1, 2, 0] rfl ?_
      obtain ⟨q_15, h_16, hf⟩ := zb1_elim hf
      refine k_Md_open_l44_run C hr h_16 ?_
      refine z_iconst (v := 1) C d_Md_open_64 (by decide) ?_
      cases hf
      exact z_zret C hr rfl d_Md_open_65
    · have hf := zif_neg c_2 hf
      refine z_iconst (v := 0) C d_Md_open_16 (by decide) ?_
      cases hf
      exact z_zret C hr rfl d_Md_open_17
theorem c_Md_open {l : Launch} {D : va_G} {cI cL : ClassId} {h_this h_this_number h_this_set h_this_constant h_this_ruleKind h_this_ruleBit h_this_ruleOther h_this_oldSet h_this_oldNumber h_this_allSets h_this_allNumbers h_this_root : Nat} {v_thrown v_wires v_isOpen v_isEmpty v_came v_there v_halves v_rules v_alone v_halfBits v_allMany rr o_thrown o_wires o_isOpen o_isEmpty o_came o_there o_halves o_rules x1 : Int32} {v_number v_set v_constant o_number o_set o_constant : Nat → Int32} (hf : f_Md_open x1 v_thrown v_wires v_isOpen v_isEmpty v_came v_there v_halves v_rules v_number v_set v_constant = some (rr, o_thrown, o_wires, o_isOpen, o_isEmpty, o_came, o_there, o_halves, o_rules, o_number, o_set, o_constant)) : zM l y_Md_open (Cond.code y_Md_open b_Md_open 3 (some .boolean) :: zT) rm_Md_open D vwCl [(cI, .int), (cL, .long)] [.ref h_this, .int x1] [(h_this, .inr (5, [.int v_thrown, .int v_wires, .int v_isOpen, .int v_isEmpty, .int v_came, .int v_there, .int v_halves, .ref h_this_number, .ref h_this_set, .ref h_this_constant, .int v_rules, .ref h_this_ruleKind, .ref h_this_ruleBit, .ref h_this_ruleOther, .int v_alone, .int v_halfBits, .ref h_this_oldSet, .ref h_this_oldNumber, .ref h_this_allSets, .ref h_this_allNumbers, .int v_allMany, .ref h_this_root])), (h_this_number, .inl (cI, 15625, .inl v_number)), (h_this_set, .inl (cI, 6, .inl v_set)), (h_this_constant, .inl (cI, 6, .inl v_constant))] [(h_this, .inr (5, [.int o_thrown, .int o_wires, .int o_isOpen, .int o_isEmpty, .int o_came, .int o_there, .int o_halves, .ref h_this_number, .ref h_this_set, .ref h_this_constant, .int o_rules, .ref h_this_ruleKind, .ref h_this_ruleBit, .ref h_this_ruleOther, .int v_alone, .int v_halfBits, .ref h_this_oldSet, .ref h_this_oldNumber, .ref h_this_allSets, .ref h_this_allNumbers, .int v_allMany, .ref h_this_root])), (h_this_number, .inl (cI, 15625, .inl o_number)), (h_this_set, .inl (cI, 6, .inl o_set)), (h_this_constant, .inl (cI, 6, .inl o_constant))] (some (.int rr)) :=
  zM.intro (by decide) rfl (fun _ h => List.mem_cons_of_mem _ h) (Nat.le_of_ble_eq_true rfl) (fun _ _ _ _ _ _ _ C hr _ => k_Md_open C hr hf)
def rm_Md_isWire : Room := { frames := 0, cells := 0, slots := 0, locals := 0 }
/-- PathSumsModel.isWire(I)Z -/
def f_Md_isWire (x1 : Int32) (v_wires : Int32) : Int32 :=
  if x1 < 0 then (
    (0 : Int32))
  else (
    if v_wires ≤ x1 then (
      (0 : Int32))
    else (
      (1 : Int32)))
set_option maxRecDepth 100000 in
set_option maxHeartbeats 4000000 in
theorem k_Md_isWire {p : Program} {l : Launch} {e : Env} {s : State} {m : MethodId} {args : Array Value} {below : List Frame} {meth : Method} {c : Code} {D : va_G} {cI cL : ClassId} {h_this h_this_number h_this_set h_this_constant h_this_ruleKind h_this_ruleBit h_this_ruleOther h_this_oldSet h_this_oldNumber h_this_allSets h_this_allNumbers h_this_root : Nat} {v_thrown v_wires v_isOpen v_isEmpty v_came v_there v_halves v_rules v_alone v_halfBits v_allMany rr x1 : Int32} (C : zC p s m args meth c b_Md_isWire 2 R_Md D vwCl [(cI, .int), (cL, .long)] (zA [h_this] s.heap.size)) (hr : meth.sig.returnType = some .boolean) (hf : f_Md_isWire x1 v_wires = rr) : ZV p l e rm_Md_isWire s m args below meth c 2 D (some (.int rr)) [(h_this, .inr (5, [.int v_thrown, .int v_wires, .int v_isOpen, .int v_isEmpty, .int v_came, .int v_there, .int v_halves, .ref h_this_number, .ref h_this_set, .ref h_this_constant, .int v_rules, .ref h_this_ruleKind, .ref h_this_ruleBit, .ref h_this_ruleOther, .int v_alone, .int v_halfBits, .ref h_this_oldSet, .ref h_this_oldNumber, .ref h_this_allSets, .ref h_this_allNumbers, .int v_allMany, .ref h_this_root]))] [h_this] [(h_this, .inr (5, [.int v_thrown, .int v_wires, .int v_isOpen, .int v_isEmpty, .int v_came, .int v_there, .int v_halves, .ref h_this_number, .ref h_this_set, .ref h_this_constant, .int v_rules, .ref h_this_ruleKind, .ref h_this_ruleBit, .ref h_this_ruleOther, .int v_alone, .int v_halfBits, .ref h_this_oldSet, .ref h_this_oldNumber, .ref h_this_allSets, .ref h_this_allNumbers, .int v_allMany, .ref h_this_root]))] 0 [(0, .ref h_this), (1, .int x1)] [] := by
  unfold f_Md_isWire at hf
  refine z_iload_n C d_Md_isWire_0 rfl 1 rfl ?_
  refine z_if_lt (tgt := 16) C d_Md_isWire_1 (by decide) (fun c_1 => ?_) (fun c_1 => ?_)
  · have hf := zif_pos c_1 hf
    refine z_iconst (v := 0) C d_Md_isWire_16 (by decide) ?_
    subst hf
    exact z_zret C hr rfl d_Md_isWire_17
  · have hf := zif_neg c_1 hf
    refine z_iload_n C d_Md_isWire_4 rfl 1 rfl ?_
    refine z_aload_n C d_Md_isWire_5 rfl 0 rfl ?_
    refine z_get C iw_Md 0 rfl rfl 1 (by decide) zw_499 rfl d_Md_isWire_6 ?_
    refine z_icmp_ge (tgt := 16) C d_Md_isWire_9 (by decide) (fun c_2 => ?_) (fun c_2 => ?_)
    · have hf := zif_pos c_2 hf
      refine z_iconst (v := 0) C d_Md_isWire_16 (by decide) ?_
      subst hf
      exact z_zret C hr rfl d_Md_isWire_17
    · have hf := zif_neg c_2 hf
      refine z_iconst (v := 1) C d_Md_isWire_12 (by decide) ?_
      refine z_goto (tgt := 17) C d_Md_isWire_13 (by decide) ?_
      subst hf
      exact z_zret C hr rfl d_Md_isWire_17
theorem c_Md_isWire {l : Launch} {D : va_G} {cI cL : ClassId} {h_this h_this_number h_this_set h_this_constant h_this_ruleKind h_this_ruleBit h_this_ruleOther h_this_oldSet h_this_oldNumber h_this_allSets h_this_allNumbers h_this_root : Nat} {v_thrown v_wires v_isOpen v_isEmpty v_came v_there v_halves v_rules v_alone v_halfBits v_allMany rr x1 : Int32} (hf : f_Md_isWire x1 v_wires = rr) : zM l y_Md_isWire (Cond.code y_Md_isWire b_Md_isWire 2 (some .boolean) :: zT) rm_Md_isWire D vwCl [(cI, .int), (cL, .long)] [.ref h_this, .int x1] [(h_this, .inr (5, [.int v_thrown, .int v_wires, .int v_isOpen, .int v_isEmpty, .int v_came, .int v_there, .int v_halves, .ref h_this_number, .ref h_this_set, .ref h_this_constant, .int v_rules, .ref h_this_ruleKind, .ref h_this_ruleBit, .ref h_this_ruleOther, .int v_alone, .int v_halfBits, .ref h_this_oldSet, .ref h_this_oldNumber, .ref h_this_allSets, .ref h_this_allNumbers, .int v_allMany, .ref h_this_root]))] [(h_this, .inr (5, [.int v_thrown, .int v_wires, .int v_isOpen, .int v_isEmpty, .int v_came, .int v_there, .int v_halves, .ref h_this_number, .ref h_this_set, .ref h_this_constant, .int v_rules, .ref h_this_ruleKind, .ref h_this_ruleBit, .ref h_this_ruleOther, .int v_alone, .int v_halfBits, .ref h_this_oldSet, .ref h_this_oldNumber, .ref h_this_allSets, .ref h_this_allNumbers, .int v_allMany, .ref h_this_root]))] (some (.int rr)) :=
  zM.intro (by decide) rfl (fun _ h => List.mem_cons_of_mem _ h) (Nat.le_of_ble_eq_true rfl) (fun _ _ _ _ _ _ _ C hr _ => k_Md_isWire C hr hf)
def rm_Md_wiresOf : Room := { frames := 0, cells := 0, slots := 0, locals := 0 }
/-- PathSumsModel.wiresOf(I)I -/
def f_Md_wiresOf (x0 : Int32) : Int32 :=
  if x0 = (9 : Int32) then (
    (3 : Int32))
  else (
    if x0 = (1 : Int32) then (
      (2 : Int32))
    else (
      if x0 = (2 : Int32) then (
        (2 : Int32))
      else (
        if x0 = (8 : Int32) then (
          (2 : Int32))
        else (
          (1 : Int32)))))
set_option maxRecDepth 100000 in
set_option maxHeartbeats 4000000 in
theorem k_Md_wiresOf {p : Program} {l : Launch} {e : Env} {s : State} {m : MethodId} {args : Array Value} {below : List Frame} {meth : Method} {c : Code} {D : va_G} {cI cL : ClassId} {rr x0 : Int32} (C : zC p s m args meth c b_Md_wiresOf 1 R_Md D vwCl [(cI, .int), (cL, .long)] (zA [] s.heap.size)) (hr : meth.sig.returnType = some .int) (hf : f_Md_wiresOf x0 = rr) : ZV p l e rm_Md_wiresOf s m args below meth c 1 D (some (.int rr)) [] [] [] 0 [(0, .int x0)] [] := by
  unfold f_Md_wiresOf at hf
  refine z_iload_n C d_Md_wiresOf_0 rfl 0 rfl ?_
  refine z_bipush (v := 9) C d_Md_wiresOf_1 (by decide) ?_
  refine z_icmp_ne (tgt := 10) C d_Md_wiresOf_3 (by decide) (fun c_1 => ?_) (fun c_1 => ?_)
  · have hf := zif_neg c_1 hf
    refine z_iload_n C d_Md_wiresOf_10 rfl 0 rfl ?_
    refine z_iconst (v := 1) C d_Md_wiresOf_11 (by decide) ?_
    refine z_icmp_eq (tgt := 26) C d_Md_wiresOf_12 (by decide) (fun c_2 => ?_) (fun c_2 => ?_)
    · have hf := zif_pos c_2 hf
      refine z_iconst (v := 2) C d_Md_wiresOf_26 (by decide) ?_
      refine z_goto (tgt := 31) C d_Md_wiresOf_27 (by decide) ?_
      subst hf
      exact z_iret C hr d_Md_wiresOf_31
    · have hf := zif_neg c_2 hf
      refine z_iload_n C d_Md_wiresOf_15 rfl 0 rfl ?_
      refine z_iconst (v := 2) C d_Md_wiresOf_16 (by decide) ?_
      refine z_icmp_eq (tgt := 26) C d_Md_wiresOf_17 (by decide) (fun c_3 => ?_) (fun c_3 => ?_)
      · have hf := zif_pos c_3 hf
        refine z_iconst (v := 2) C d_Md_wiresOf_26 (by decide) ?_
        refine z_goto (tgt := 31) C d_Md_wiresOf_27 (by decide) ?_
        subst hf
        exact z_iret C hr d_Md_wiresOf_31
      · have hf := zif_neg c_3 hf
        refine z_iload_n C d_Md_wiresOf_20 rfl 0 rfl ?_
        refine z_bipush (v := 8) C d_Md_wiresOf_21 (by decide) ?_
        refine z_icmp_ne (tgt := 30) C d_Md_wiresOf_23 (by decide) (fun c_4 => ?_) (fun c_4 => ?_)
        · have hf := zif_neg c_4 hf
          refine z_iconst (v := 1) C d_Md_wiresOf_30 (by decide) ?_
          subst hf
          exact z_iret C hr d_Md_wiresOf_31
        · have hf := zif_pos c_4 hf
          refine z_iconst (v := 2) C d_Md_wiresOf_26 (by decide) ?_
          refine z_goto (tgt := 31) C d_Md_wiresOf_27 (by decide) ?_
          subst hf
          exact z_iret C hr d_Md_wiresOf_31
  · have hf := zif_pos c_1 hf
    refine z_iconst (v := 3) C d_Md_wiresOf_6 (by decide) ?_
    refine z_goto (tgt := 31) C d_Md_wiresOf_7 (by decide) ?_
    subst hf
    exact z_iret C hr d_Md_wiresOf_31
theorem c_Md_wiresOf {l : Launch} {D : va_G} {cI cL : ClassId} {rr x0 : Int32} (hf : f_Md_wiresOf x0 = rr) : zM l y_Md_wiresOf (Cond.code y_Md_wiresOf b_Md_wiresOf 1 (some .int) :: zT) rm_Md_wiresOf D vwCl [(cI, .int), (cL, .long)] [.int x0] [] [] (some (.int rr)) :=
  zM.intro (by decide) rfl (fun _ h => List.mem_cons_of_mem _ h) (Nat.le_of_ble_eq_true rfl) (fun _ _ _ _ _ _ _ C hr _ => k_Md_wiresOf C hr hf)
def rm_Md_eighthsOf : Room := { frames := 0, cells := 0, slots := 0, locals := 0 }
/-- PathSumsModel.eighthsOf(I)I -/
def f_Md_eighthsOf (x0 : Int32) : Int32 :=
  if x0 = (3 : Int32) then (
    (4 : Int32))
  else (
    if x0 = (4 : Int32) then (
      (2 : Int32))
    else (
      if x0 = (5 : Int32) then (
        (1 : Int32))
      else (
        if x0 = (6 : Int32) then (
          (6 : Int32))
        else (
          (7 : Int32)))))
set_option maxRecDepth 100000 in
set_option maxHeartbeats 4000000 in
theorem k_Md_eighthsOf {p : Program} {l : Launch} {e : Env} {s : State} {m : MethodId} {args : Array Value} {below : List Frame} {meth : Method} {c : Code} {D : va_G} {cI cL : ClassId} {rr x0 : Int32} (C : zC p s m args meth c b_Md_eighthsOf 1 R_Md D vwCl [(cI, .int), (cL, .long)] (zA [] s.heap.size)) (hr : meth.sig.returnType = some .int) (hf : f_Md_eighthsOf x0 = rr) : ZV p l e rm_Md_eighthsOf s m args below meth c 1 D (some (.int rr)) [] [] [] 0 [(0, .int x0)] [] := by
  unfold f_Md_eighthsOf at hf
  refine z_iload_n C d_Md_eighthsOf_0 rfl 0 rfl ?_
  refine z_iconst (v := 3) C d_Md_eighthsOf_1 (by decide) ?_
  refine z_icmp_ne (tgt := 9) C d_Md_eighthsOf_2 (by decide) (fun c_1 => ?_) (fun c_1 => ?_)
  · have hf := zif_neg c_1 hf
    refine z_iload_n C d_Md_eighthsOf_9 rfl 0 rfl ?_
    refine z_iconst (v := 4) C d_Md_eighthsOf_10 (by decide) ?_
    refine z_icmp_ne (tgt := 18) C d_Md_eighthsOf_11 (by decide) (fun c_2 => ?_) (fun c_2 => ?_)
    · have hf := zif_neg c_2 hf
      refine z_iload_n C d_Md_eighthsOf_18 rfl 0 rfl ?_
      refine z_iconst (v := 5) C d_Md_eighthsOf_19 (by decide) ?_
      refine z_icmp_ne (tgt := 27) C d_Md_eighthsOf_20 (by decide) (fun c_3 => ?_) (fun c_3 => ?_)
      · have hf := zif_neg c_3 hf
        refine z_iload_n C d_Md_eighthsOf_27 rfl 0 rfl ?_
        refine z_bipush (v := 6) C d_Md_eighthsOf_28 (by decide) ?_
        refine z_icmp_ne (tgt := 38) C d_Md_eighthsOf_30 (by decide) (fun c_4 => ?_) (fun c_4 => ?_)
        · have hf := zif_neg c_4 hf
          refine z_bipush (v := 7) C d_Md_eighthsOf_38 (by decide) ?_
          subst hf
          exact z_iret C hr d_Md_eighthsOf_40
        · have hf := zif_pos c_4 hf
          refine z_bipush (v := 6) C d_Md_eighthsOf_33 (by decide) ?_
          refine z_goto (tgt := 40) C d_Md_eighthsOf_35 (by decide) ?_
          subst hf
          exact z_iret C hr d_Md_eighthsOf_40
      · have hf := zif_pos c_3 hf
        refine z_iconst (v := 1) C d_Md_eighthsOf_23 (by decide) ?_
        refine z_goto (tgt := 40) C d_Md_eighthsOf_24 (by decide) ?_
        subst hf
        exact z_iret C hr d_Md_eighthsOf_40
    · have hf := zif_pos c_2 hf
      refine z_iconst (v := 2) C d_Md_eighthsOf_14 (by decide) ?_
      refine z_goto (tgt := 40) C d_Md_eighthsOf_15 (by decide) ?_
      subst hf
      exact z_iret C hr d_Md_eighthsOf_40
  · have hf := zif_pos c_1 hf
    refine z_iconst (v := 4) C d_Md_eighthsOf_5 (by decide) ?_
    refine z_goto (tgt := 40) C d_Md_eighthsOf_6 (by decide) ?_
    subst hf
    exact z_iret C hr d_Md_eighthsOf_40
theorem c_Md_eighthsOf {l : Launch} {D : va_G} {cI cL : ClassId} {rr x0 : Int32} (hf : f_Md_eighthsOf x0 = rr) : zM l y_Md_eighthsOf (Cond.code y_Md_eighthsOf b_Md_eighthsOf 1 (some .int) :: zT) rm_Md_eighthsOf D vwCl [(cI, .int), (cL, .long)] [.int x0] [] [] (some (.int rr)) :=
  zM.intro (by decide) rfl (fun _ h => List.mem_cons_of_mem _ h) (Nat.le_of_ble_eq_true rfl) (fun _ _ _ _ _ _ _ C hr _ => k_Md_eighthsOf C hr hf)
def rm_Md_exchange : Room := { frames := 0, cells := 0, slots := 0, locals := 0 }
/-- PathSumsModel.exchange(II)V -/
def f_Md_exchange (x1 : Int32) (x2 : Int32) (v_set : Nat → Int32) (v_constant : Nat → Int32) : Option ((Nat → Int32) × (Nat → Int32)) :=
  if x1 < 0 ∨ 6 ≤ x1.toNatClampNeg then none else
  zlet (v_set x1.toNatClampNeg) fun y_2 =>
  if x2 < 0 ∨ 6 ≤ x2.toNatClampNeg then none else
  if x1 < 0 ∨ 6 ≤ x1.toNatClampNeg then none else
  zlet (upd v_set x1.toNatClampNeg (v_set x2.toNatClampNeg)) fun u_5 =>
  if x2 < 0 ∨ 6 ≤ x2.toNatClampNeg then none else
  zlet (upd u_5 x2.toNatClampNeg y_2) fun u_7 =>
  if x1 < 0 ∨ 6 ≤ x1.toNatClampNeg then none else
  zlet (v_constant x1.toNatClampNeg) fun y_9 =>
  if x2 < 0 ∨ 6 ≤ x2.toNatClampNeg then none else
  if x1 < 0 ∨ 6 ≤ x1.toNatClampNeg then none else
  zlet (upd v_constant x1.toNatClampNeg (v_constant x2.toNatClampNeg)) fun u_12 =>
  if x2 < 0 ∨ 6 ≤ x2.toNatClampNeg then none else
  zlet (upd u_12 x2.toNatClampNeg y_9) fun u_14 =>
  some (u_7, u_14)
set_option maxRecDepth 100000 in
set_option maxHeartbeats 4000000 in
theorem k_Md_exchange {p : Program} {l : Launch} {e : Env} {s : State} {m : MethodId} {args : Array Value} {below : List Frame} {meth : Method} {c : Code} {D : va_G} {cI cL : ClassId} {h_this h_this_number h_this_set h_this_constant h_this_ruleKind h_this_ruleBit h_this_ruleOther h_this_oldSet h_this_oldNumber h_this_allSets h_this_allNumbers h_this_root : Nat} {v_thrown v_wires v_isOpen v_isEmpty v_came v_there v_halves v_rules v_alone v_halfBits v_allMany x1 x2 : Int32} {v_set v_constant o_set o_constant : Nat → Int32} (C : zC p s m args meth c b_Md_exchange 5 R_Md D vwCl [(cI, .int), (cL, .long)] (zA [h_this, h_this_set, h_this_constant] s.heap.size)) (hr : meth.sig.returnType = none) (hf : f_Md_exchange x1 x2 v_set v_constant = some (o_set, o_constant)) : ZV p l e rm_Md_exchange s m args below meth c 5 D (none) [(h_this, .inr (5, [.int v_thrown, .int v_wires, .int v_isOpen, .int v_isEmpty, .int v_came, .int v_there, .int v_halves, .ref h_this_number, .ref h_this_set, .ref h_this_constant, .int v_rules, .ref h_this_ruleKind, .ref h_this_ruleBit, .ref h_this_ruleOther, .int v_alone, .int v_halfBits, .ref h_this_oldSet, .ref h_this_oldNumber, .ref h_this_allSets, .ref h_this_allNumbers, .int v_allMany, .ref h_this_root])), (h_this_set, .inl (cI, 6, .inl o_set)), (h_this_constant, .inl (cI, 6, .inl o_constant))] [h_this, h_this_set, h_this_constant] [(h_this, .inr (5, [.int v_thrown, .int v_wires, .int v_isOpen, .int v_isEmpty, .int v_came, .int v_there, .int v_halves, .ref h_this_number, .ref h_this_set, .ref h_this_constant, .int v_rules, .ref h_this_ruleKind, .ref h_this_ruleBit, .ref h_this_ruleOther, .int v_alone, .int v_halfBits, .ref h_this_oldSet, .ref h_this_oldNumber, .ref h_this_allSets, .ref h_this_allNumbers, .int v_allMany, .ref h_this_root])), (h_this_set, .inl (cI, 6, .inl v_set)), (h_this_constant, .inl (cI, 6, .inl v_constant))] 0 [(0, .ref h_this), (1, .int x1), (2, .int x2)] [] := by
  unfold f_Md_exchange at hf
  refine z_aload_n C d_Md_exchange_0 rfl 0 rfl ?_
  refine z_get C iw_Md 0 rfl rfl 8 (by decide) zw_506 rfl d_Md_exchange_1 ?_
  refine z_iload_n C d_Md_exchange_4 rfl 1 rfl ?_
  obtain ⟨g_1, hf⟩ := zguard hf
  refine z_iald C 1 0 rfl rfl g_1 d_Md_exchange_5 ?_
  refine z_topi (fun y_2 ey_2 => ?_)
  have hf := zlet_at ey_2 hf
  refine z_istore_n (lv' := [(3, .int y_2), (0, .ref h_this), (1, .int x1), (2, .int x2)]) C d_Md_exchange_6 rfl (by decide) rfl ?_
  refine z_aload_n C d_Md_exchange_7 rfl 1 rfl ?_
  refine z_get C iw_Md 0 rfl rfl 8 (by decide) zw_506 rfl d_Md_exchange_8 ?_
  refine z_iload_n C d_Md_exchange_11 rfl 2 rfl ?_
  refine z_aload_n C d_Md_exchange_12 rfl 1 rfl ?_
  refine z_get C iw_Md 0 rfl rfl 8 (by decide) zw_506 rfl d_Md_exchange_13 ?_
  refine z_iload_n C d_Md_exchange_16 rfl 3 rfl ?_
  obtain ⟨g_3, hf⟩ := zguard hf
  refine z_iald C 1 0 rfl rfl g_3 d_Md_exchange_17 ?_
  obtain ⟨g_4, hf⟩ := zguard hf
  obtain ⟨u_5, eu_5⟩ : ∃ u : Nat → Int32, u = upd v_set x1.toNatClampNeg (v_set x2.toNatClampNeg) := ⟨_, rfl⟩
  have hf := zlet_at eu_5 hf
  refine z_iast (ws' := [(h_this, .inr (5, [.int v_thrown, .int v_wires, .int v_isOpen, .int v_isEmpty, .int v_came, .int v_there, .int v_halves, .ref h_this_number, .ref h_this_set, .ref h_this_constant, .int v_rules, .ref h_this_ruleKind, .ref h_this_ruleBit, .ref h_this_ruleOther, .int v_alone, .int v_halfBits, .ref h_this_oldSet, .ref h_this_oldNumber, .ref h_this_allSets, .ref h_this_allNumbers, .int v_allMany, .ref h_this_root])), (h_this_set, .inl (cI, 6, .inl u_5)), (h_this_constant, .inl (cI, 6, .inl v_constant))]) C 1 0 rfl rfl g_4 d_Md_exchange_18 (by rw [eu_5]; rfl) ?_
  refine z_aload_n C d_Md_exchange_19 rfl 1 rfl ?_
  refine z_get C iw_Md 0 rfl rfl 8 (by decide) zw_506 rfl d_Md_exchange_20 ?_
  refine z_iload_n C d_Md_exchange_23 rfl 3 rfl ?_
  refine z_iload_n C d_Md_exchange_24 rfl 0 rfl ?_
  obtain ⟨g_6, hf⟩ := zguard hf
  obtain ⟨u_7, eu_7⟩ : ∃ u : Nat → Int32, u = upd u_5 x2.toNatClampNeg y_2 := ⟨_, rfl⟩
  have hf := zlet_at eu_7 hf
  refine z_iast (ws' := [(h_this, .inr (5, [.int v_thrown, .int v_wires, .int v_isOpen, .int v_isEmpty, .int v_came, .int v_there, .int v_halves, .ref h_this_number, .ref h_this_set, .ref h_this_constant, .int v_rules, .ref h_this_ruleKind, .ref h_this_ruleBit, .ref h_this_ruleOther, .int v_alone, .int v_halfBits, .ref h_this_oldSet, .ref h_this_oldNumber, .ref h_this_allSets, .ref h_this_allNumbers, .int v_allMany, .ref h_this_root])), (h_this_set, .inl (cI, 6, .inl u_7)), (h_this_constant, .inl (cI, 6, .inl v_constant))]) C 1 0 rfl rfl g_6 d_Md_exchange_25 (by rw [eu_7]; rfl) ?_
  refine z_aload_n C d_Md_exchange_26 rfl 1 rfl ?_
  refine z_get C iw_Md 0 rfl rfl 9 (by decide) zw_507 rfl d_Md_exchange_27 ?_
  refine z_iload_n C d_Md_exchange_30 rfl 2 rfl ?_
  obtain ⟨g_8, hf⟩ := zguard hf
  refine z_iald C 2 0 rfl rfl g_8 d_Md_exchange_31 ?_
  refine z_topi (fun y_9 ey_9 => ?_)
  have hf := zlet_at ey_9 hf
  refine z_istore (lv' := [(4, .int y_9), (3, .int y_2), (0, .ref h_this), (1, .int x1), (2, .int x2)]) C d_Md_exchange_32 (by decide) rfl ?_
  refine z_aload_n C d_Md_exchange_34 rfl 2 rfl ?_
  refine z_get C iw_Md 0 rfl rfl 9 (by decide) zw_507 rfl d_Md_exchange_35 ?_
  refine z_iload_n C d_Md_exchange_38 rfl 3 rfl ?_
  refine z_aload_n C d_Md_exchange_39 rfl 2 rfl ?_
  refine z_get C iw_Md 0 rfl rfl 9 (by decide) zw_507 rfl d_Md_exchange_40 ?_
  refine z_iload_n C d_Md_exchange_43 rfl 4 rfl ?_
  obtain ⟨g_10, hf⟩ := zguard hf
  refine z_iald C 2 0 rfl rfl g_10 d_Md_exchange_44 ?_
  obtain ⟨g_11, hf⟩ := zguard hf
  obtain ⟨u_12, eu_12⟩ : ∃ u : Nat → Int32, u = upd v_constant x1.toNatClampNeg (v_constant x2.toNatClampNeg) := ⟨_, rfl⟩
  have hf := zlet_at eu_12 hf
  refine z_iast (ws' := [(h_this, .inr (5, [.int v_thrown, .int v_wires, .int v_isOpen, .int v_isEmpty, .int v_came, .int v_there, .int v_halves, .ref h_this_number, .ref h_this_set, .ref h_this_constant, .int v_rules, .ref h_this_ruleKind, .ref h_this_ruleBit, .ref h_this_ruleOther, .int v_alone, .int v_halfBits, .ref h_this_oldSet, .ref h_this_oldNumber, .ref h_this_allSets, .ref h_this_allNumbers, .int v_allMany, .ref h_this_root])), (h_this_set, .inl (cI, 6, .inl u_7)), (h_this_constant, .inl (cI, 6, .inl u_12))]) C 2 0 rfl rfl g_11 d_Md_exchange_45 (by rw [eu_12]; rfl) ?_
  refine z_aload_n C d_Md_exchange_46 rfl 2 rfl ?_
  refine z_get C iw_Md 0 rfl rfl 9 (by decide) zw_507 rfl d_Md_exchange_47 ?_
  refine z_iload_n C d_Md_exchange_50 rfl 4 rfl ?_
  refine z_iload C d_Md_exchange_51 0 rfl ?_
  obtain ⟨g_13, hf⟩ := zguard hf
  obtain ⟨u_14, eu_14⟩ : ∃ u : Nat → Int32, u = upd u_12 x2.toNatClampNeg y_9 := ⟨_, rfl⟩
  have hf := zlet_at eu_14 hf
  refine z_iast (ws' := [(h_this, .inr (5, [.int v_thrown, .int v_wires, .int v_isOpen, .int v_isEmpty, .int v_came, .int v_there, .int v_halves, .ref h_this_number, .ref h_this_set, .ref h_this_constant, .int v_rules, .ref h_this_ruleKind, .ref h_this_ruleBit, .ref h_this_ruleOther, .int v_alone, .int v_halfBits, .ref h_this_oldSet, .ref h_this_oldNumber, .ref h_this_allSets, .ref h_this_allNumbers, .int v_allMany, .ref h_this_root])), (h_this_set, .inl (cI, 6, .inl u_7)), (h_this_constant, .inl (cI, 6, .inl u_14))]) C 2 0 rfl rfl g_13 d_Md_exchange_53 (by rw [eu_14]; rfl) ?_
  cases hf
  exact z_vret C hr d_Md_exchange_54
theorem c_Md_exchange {l : Launch} {D : va_G} {cI cL : ClassId} {h_this h_this_number h_this_set h_this_constant h_this_ruleKind h_this_ruleBit h_this_ruleOther h_this_oldSet h_this_oldNumber h_this_allSets h_this_allNumbers h_this_root : Nat} {v_thrown v_wires v_isOpen v_isEmpty v_came v_there v_halves v_rules v_alone v_halfBits v_allMany x1 x2 : Int32} {v_set v_constant o_set o_constant : Nat → Int32} (hf : f_Md_exchange x1 x2 v_set v_constant = some (o_set, o_constant)) : zM l y_Md_exchange (Cond.code y_Md_exchange b_Md_exchange 5 none :: zT) rm_Md_exchange D vwCl [(cI, .int), (cL, .long)] [.ref h_this, .int x1, .int x2] [(h_this, .inr (5, [.int v_thrown, .int v_wires, .int v_isOpen, .int v_isEmpty, .int v_came, .int v_there, .int v_halves, .ref h_this_number, .ref h_this_set, .ref h_this_constant, .int v_rules, .ref h_this_ruleKind, .ref h_this_ruleBit, .ref h_this_ruleOther, .int v_alone, .int v_halfBits, .ref h_this_oldSet, .ref h_this_oldNumber, .ref h_this_allSets, .ref h_this_allNumbers, .int v_allMany, .ref h_this_root])), (h_this_set, .inl (cI, 6, .inl v_set)), (h_this_constant, .inl (cI, 6, .inl v_constant))] [(h_this, .inr (5, [.int v_thrown, .int v_wires, .int v_isOpen, .int v_isEmpty, .int v_came, .int v_there, .int v_halves, .ref h_this_number, .ref h_this_set, .ref h_this_constant, .int v_rules, .ref h_this_ruleKind, .ref h_this_ruleBit, .ref h_this_ruleOther, .int v_alone, .int v_halfBits, .ref h_this_oldSet, .ref h_this_oldNumber, .ref h_this_allSets, .ref h_this_allNumbers, .int v_allMany, .ref h_this_root])), (h_this_set, .inl (cI, 6, .inl o_set)), (h_this_constant, .inl (cI, 6, .inl o_constant))] (none) :=
  zM.intro (by decide) rfl (fun _ h => List.mem_cons_of_mem _ h) (Nat.le_of_ble_eq_true rfl) (fun _ _ _ _ _ _ _ C hr _ => k_Md_exchange C hr hf)
def rm_Md_newBit : Room := { frames := 3, cells := 0, slots := 0, locals := 69 }
/-- PathSumsModel.newBit(II)V -/
def f_Md_newBit (x1 : Int32) (x2 : Int32) (v_came : Int32) (v_there : Int32) (v_halves : Int32) (v_constant : Nat → Int32) (v_number : Nat → Int32) (v_set : Nat → Int32) : Option (Int32 × Int32 × Int32 × (Nat → Int32)) :=
  zb1 (f_Md_addHalf x1 ((1 : Int32) <<< (v_came &&& 31)) v_constant v_number v_set) fun q_2 =>
  zlet (v_there ||| ((1 : Int32) <<< (v_came &&& 31))) fun y_3 =>
  zlet (v_came + (1 : Int32)) fun y_4 =>
  zlet (v_halves + x2) fun y_5 =>
  some (y_4, y_3, y_5, q_2)
set_option maxRecDepth 100000 in
set_option maxHeartbeats 4000000 in
theorem k_Md_newBit {p : Program} {l : Launch} {e : Env} {s : State} {m : MethodId} {args : Array Value} {below : List Frame} {meth : Method} {c : Code} {D : va_G} {cI cL : ClassId} {h_this h_this_number h_this_set h_this_constant h_this_ruleKind h_this_ruleBit h_this_ruleOther h_this_oldSet h_this_oldNumber h_this_allSets h_this_allNumbers h_this_root : Nat} {v_thrown v_wires v_isOpen v_isEmpty v_came v_there v_halves v_rules v_alone v_halfBits v_allMany o_came o_there o_halves x1 x2 : Int32} {v_constant v_number v_set o_number : Nat → Int32} (C : zC p s m args meth c b_Md_newBit 3 R_Md D vwCl [(cI, .int), (cL, .long)] (zA [h_this, h_this_constant, h_this_number, h_this_set] s.heap.size)) (hr : meth.sig.returnType = none) (hf : f_Md_newBit x1 x2 v_came v_there v_halves v_constant v_number v_set = some (o_came, o_there, o_halves, o_number)) : ZV p l e rm_Md_newBit s m args below meth c 3 D (none) [(h_this, .inr (5, [.int v_thrown, .int v_wires, .int v_isOpen, .int v_isEmpty, .int o_came, .int o_there, .int o_halves, .ref h_this_number, .ref h_this_set, .ref h_this_constant, .int v_rules, .ref h_this_ruleKind, .ref h_this_ruleBit, .ref h_this_ruleOther, .int v_alone, .int v_halfBits, .ref h_this_oldSet, .ref h_this_oldNumber, .ref h_this_allSets, .ref h_this_allNumbers, .int v_allMany, .ref h_this_root])), (h_this_constant, .inl (cI, 6, .inl v_constant)), (h_this_number, .inl (cI, 15625, .inl o_number)), (h_this_set, .inl (cI, 6, .inl v_set))] [h_this, h_this_constant, h_this_number, h_this_set] [(h_this, .inr (5, [.int v_thrown, .int v_wires, .int v_isOpen, .int v_isEmpty, .int v_came, .int v_there, .int v_halves, .ref h_this_number, .ref h_this_set, .ref h_this_constant, .int v_rules, .ref h_this_ruleKind, .ref h_this_ruleBit, .ref h_this_ruleOther, .int v_alone, .int v_halfBits, .ref h_this_oldSet, .ref h_this_oldNumber, .ref h_this_allSets, .ref h_this_allNumbers, .int v_allMany, .ref h_this_root])), (h_this_constant, .inl (cI, 6, .inl v_constant)), (h_this_number, .inl (cI, 15625, .inl v_number)), (h_this_set, .inl (cI, 6, .inl v_set))] 0 [(0, .ref h_this), (1, .int x1), (2, .int x2)] [] := by
  unfold f_Md_newBit at hf
  refine z_aload_n C d_Md_newBit_0 rfl 0 rfl ?_
  refine z_iload_n C d_Md_newBit_1 rfl 1 rfl ?_
  refine z_iconst (v := 1) C d_Md_newBit_2 (by decide) ?_
  refine z_aload_n C d_Md_newBit_3 rfl 0 rfl ?_
  refine z_get C iw_Md 0 rfl rfl 4 (by decide) zw_502 rfl d_Md_newBit_4 ?_
  refine z_ishl C d_Md_newBit_7 ?_
  obtain ⟨q_2, h_1, hf⟩ := zb1_elim hf
  refine z_callV (As := [.int x1, .int ((1 : Int32) <<< (v_came &&& 31))]) (rest := []) (ws' := [(h_this, .inr (5, [.int v_thrown, .int v_wires, .int v_isOpen, .int v_isEmpty, .int v_came, .int v_there, .int v_halves, .ref h_this_number, .ref h_this_set, .ref h_this_constant, .int v_rules, .ref h_this_ruleKind, .ref h_this_ruleBit, .ref h_this_ruleOther, .int v_alone, .int v_halfBits, .ref h_this_oldSet, .ref h_this_oldNumber, .ref h_this_allSets, .ref h_this_allNumbers, .int v_allMany, .ref h_this_root])), (h_this_constant, .inl (cI, 6, .inl v_constant)), (h_this_number, .inl (cI, 15625, .inl q_2)), (h_this_set, .inl (cI, 6, .inl v_set))]) C (c_Md_addHalf h_1) mi_Md_addHalf zw_597 (by decide) 0 rfl rfl [0, 1, 2, 3] (by decide) rfl rfl rfl rfl rfl (by decide) ⟨Nat.zero_le _, Nat.zero_le _⟩ d_Md_newBit_8 ?_
  refine z_aload_n C d_Md_newBit_11 rfl 0 rfl ?_
  refine z_dup C d_Md_newBit_12 rfl ?_
  refine z_get C iw_Md 0 rfl rfl 5 (by decide) zw_503 rfl d_Md_newBit_13 ?_
  refine z_iconst (v := 1) C d_Md_newBit_16 (by decide) ?_
  refine z_aload_n C d_Md_newBit_17 rfl 0 rfl ?_
  refine z_get C iw_Md 0 rfl rfl 4 (by decide) zw_502 rfl d_Md_newBit_18 ?_
  refine z_ishl C d_Md_newBit_21 ?_
  refine z_ior C d_Md_newBit_22 ?_
  refine z_topi (fun y_3 ey_3 => ?_)
  have hf := zlet_at ey_3 hf
  refine z_put (ws' := [(h_this, .inr (5, [.int v_thrown, .int v_wires, .int v_isOpen, .int v_isEmpty, .int v_came, .int y_3, .int v_halves, .ref h_this_number, .ref h_this_set, .ref h_this_constant, .int v_rules, .ref h_this_ruleKind, .ref h_this_ruleBit, .ref h_this_ruleOther, .int v_alone, .int v_halfBits, .ref h_this_oldSet, .ref h_this_oldNumber, .ref h_this_allSets, .ref h_this_allNumbers, .int v_allMany, .ref h_this_root])), (h_this_constant, .inl (cI, 6, .inl v_constant)), (h_this_number, .inl (cI, 15625, .inl q_2)), (h_this_set, .inl (cI, 6, .inl v_set))]) C iw_Md t_Md t_Md_ok n_Md 0 rfl rfl 5 (by decide) zw_503 rfl (ty := .int) rfl rfl rfl (by simp) d_Md_newBit_23 rfl ?_
  refine z_aload_n C d_Md_newBit_26 rfl 0 rfl ?_
  refine z_dup C d_Md_newBit_27 rfl ?_
  refine z_get C iw_Md 0 rfl rfl 4 (by decide) zw_502 rfl d_Md_newBit_28 ?_
  refine z_iconst (v := 1) C d_Md_newBit_31 (by decide) ?_
  refine z_iadd C d_Md_newBit_32 ?_
  refine z_topi (fun y_4 ey_4 => ?_)
  have hf := zlet_at ey_4 hf
  refine z_put (ws' := [(h_this, .inr (5, [.int v_thrown, .int v_wires, .int v_isOpen, .int v_isEmpty, .int y_4, .int y_3, .int v_halves, .ref h_this_number, .ref h_this_set, .ref h_this_constant, .int v_rules, .ref h_this_ruleKind, .ref h_this_ruleBit, .ref h_this_ruleOther, .int v_alone, .int v_halfBits, .ref h_this_oldSet, .ref h_this_oldNumber, .ref h_this_allSets, .ref h_this_allNumbers, .int v_allMany, .ref h_this_root])), (h_this_constant, .inl (cI, 6, .inl v_constant)), (h_this_number, .inl (cI, 15625, .inl q_2)), (h_this_set, .inl (cI, 6, .inl v_set))]) C iw_Md t_Md t_Md_ok n_Md 0 rfl rfl 4 (by decide) zw_502 rfl (ty := .int) rfl rfl rfl (by simp) d_Md_newBit_33 rfl ?_
  refine z_aload_n C d_Md_newBit_36 rfl 0 rfl ?_
  refine z_dup C d_Md_newBit_37 rfl ?_
  refine z_get C iw_Md 0 rfl rfl 6 (by decide) zw_504 rfl d_Md_newBit_38 ?_
  refine z_iload_n C d_Md_newBit_41 rfl 2 rfl ?_
  refine z_iadd C d_Md_newBit_42 ?_
  refine z_topi (fun y_5 ey_5 => ?_)
  have hf := zlet_at ey_5 hf
  refine z_put (ws' := [(h_this, .inr (5, [.int v_thrown, .int v_wires, .int v_isOpen, .int v_isEmpty, .int y_4, .int y_3, .int y_5, .ref h_this_number, .ref h_this_set, .ref h_this_constant, .int v_rules, .ref h_this_ruleKind, .ref h_this_ruleBit, .ref h_this_ruleOther, .int v_alone, .int v_halfBits, .ref h_this_oldSet, .ref h_this_oldNumber, .ref h_this_allSets, .ref h_this_allNumbers, .int v_allMany, .ref h_this_root])), (h_this_constant, .inl (cI, 6, .inl v_constant)), (h_this_number, .inl (cI, 15625, .inl q_2)), (h_this_set, .inl (cI, 6, .inl v_set))]) C iw_Md t_Md t_Md_ok n_Md 0 rfl rfl 6 (by decide) zw_504 rfl (ty := .int) rfl rfl rfl (by simp) d_Md_newBit_43 rfl ?_
  cases hf
  exact z_vret C hr d_Md_newBit_46
theorem c_Md_newBit {l : Launch} {D : va_G} {cI cL : ClassId} {h_this h_this_number h_this_set h_this_constant h_this_ruleKind h_this_ruleBit h_this_ruleOther h_this_oldSet h_this_oldNumber h_this_allSets h_this_allNumbers h_this_root : Nat} {v_thrown v_wires v_isOpen v_isEmpty v_came v_there v_halves v_rules v_alone v_halfBits v_allMany o_came o_there o_halves x1 x2 : Int32} {v_constant v_number v_set o_number : Nat → Int32} (hf : f_Md_newBit x1 x2 v_came v_there v_halves v_constant v_number v_set = some (o_came, o_there, o_halves, o_number)) : zM l y_Md_newBit (Cond.code y_Md_newBit b_Md_newBit 3 none :: zT) rm_Md_newBit D vwCl [(cI, .int), (cL, .long)] [.ref h_this, .int x1, .int x2] [(h_this, .inr (5, [.int v_thrown, .int v_wires, .int v_isOpen, .int v_isEmpty, .int v_came, .int v_there, .int v_halves, .ref h_this_number, .ref h_this_set, .ref h_this_constant, .int v_rules, .ref h_this_ruleKind, .ref h_this_ruleBit, .ref h_this_ruleOther, .int v_alone, .int v_halfBits, .ref h_this_oldSet, .ref h_this_oldNumber, .ref h_this_allSets, .ref h_this_allNumbers, .int v_allMany, .ref h_this_root])), (h_this_constant, .inl (cI, 6, .inl v_constant)), (h_this_number, .inl (cI, 15625, .inl v_number)), (h_this_set, .inl (cI, 6, .inl v_set))] [(h_this, .inr (5, [.int v_thrown, .int v_wires, .int v_isOpen, .int v_isEmpty, .int o_came, .int o_there, .int o_halves, .ref h_this_number, .ref h_this_set, .ref h_this_constant, .int v_rules, .ref h_this_ruleKind, .ref h_this_ruleBit, .ref h_this_ruleOther, .int v_alone, .int v_halfBits, .ref h_this_oldSet, .ref h_this_oldNumber, .ref h_this_allSets, .ref h_this_allNumbers, .int v_allMany, .ref h_this_root])), (h_this_constant, .inl (cI, 6, .inl v_constant)), (h_this_number, .inl (cI, 15625, .inl o_number)), (h_this_set, .inl (cI, 6, .inl v_set))] (none) :=
  zM.intro (by decide) rfl (fun _ h => List.mem_cons_of_mem _ h) (Nat.le_of_ble_eq_true rfl) (fun _ _ _ _ _ _ _ C hr _ => k_Md_newBit C hr hf)
def rm_Md_gate : Room := { frames := 5, cells := 0, slots := 0, locals := 117 }
def f_Md_gate_j101 (x1 : Int32) (x2 : Int32) (x3 : Int32) (x4 : Int32) (v_thrown : Int32) (v_wires : Int32) (v_isEmpty : Int32) (v_came : Int32) (v_there : Int32) (v_halves : Int32) (v_constant : Nat → Int32) (v_set : Nat → Int32) (v_number : Nat → Int32) : Option (Int32 × Int32 × Int32 × Int32 × Int32 × (Nat → Int32) × (Nat → Int32) × (Nat → Int32)) :=
  if x1 = 0 then (
    if x2 < 0 ∨ 6 ≤ x2.toNatClampNeg then none else
    if x2 < 0 ∨ 6 ≤ x2.toNatClampNeg then none else
    zlet (upd v_constant x2.toNatClampNeg ((v_constant x2.toNatClampNeg) ^^^ (1 : Int32))) fun u_4 =>
    some ((1 : Int32), v_thrown, v_came, v_there, v_halves, u_4, v_set, v_number))
  else (
  if x1 = 1 then (
    if x2 < 0 ∨ 6 ≤ x2.toNatClampNeg then none else
    if x3 < 0 ∨ 6 ≤ x3.toNatClampNeg then none else
    if x2 < 0 ∨ 6 ≤ x2.toNatClampNeg then none else
    zlet (upd v_set x2.toNatClampNeg ((v_set x2.toNatClampNeg) ^^^ (v_set x3.toNatClampNeg))) fun u_9 =>
    if x2 < 0 ∨ 6 ≤ x2.toNatClampNeg then none else
    if x3 < 0 ∨ 6 ≤ x3.toNatClampNeg then none else
    if x2 < 0 ∨ 6 ≤ x2.toNatClampNeg then none else
    zlet (upd v_constant x2.toNatClampNeg ((v_constant x2.toNatClampNeg) ^^^ (v_constant x3.toNatClampNeg))) fun u_13 =>
    some ((1 : Int32), v_thrown, v_came, v_there, v_halves, u_13, u_9, v_number))
  else (
  if x1 = 2 then (
    zb2 (f_Md_exchange x2 x3 v_set v_constant) fun q_16 q_17 =>
    some ((1 : Int32), v_thrown, v_came, v_there, v_halves, q_17, q_16, v_number))
  else (
  if x1 = 3 then (
    if x2 < 0 ∨ 6 ≤ x2.toNatClampNeg then none else
    if x2 < 0 ∨ 6 ≤ x2.toNatClampNeg then none else
    zb1 (f_Md_addOr (v_set x2.toNatClampNeg) (v_constant x2.toNatClampNeg) (f_Md_eighthsOf x1) (0 : Int32) v_number) fun q_23 =>
    some ((1 : Int32), v_thrown, v_came, v_there, v_halves, v_constant, v_set, q_23))
  else (
  if x1 = 4 then (
    if x2 < 0 ∨ 6 ≤ x2.toNatClampNeg then none else
    if x2 < 0 ∨ 6 ≤ x2.toNatClampNeg then none else
    zb1 (f_Md_addOr (v_set x2.toNatClampNeg) (v_constant x2.toNatClampNeg) (f_Md_eighthsOf x1) (0 : Int32) v_number) fun q_29 =>
    some ((1 : Int32), v_thrown, v_came, v_there, v_halves, v_constant, v_set, q_29))
  else (
  if x1 = 5 then (
    if x2 < 0 ∨ 6 ≤ x2.toNatClampNeg then none else
    if x2 < 0 ∨ 6 ≤ x2.toNatClampNeg then none else
    zb1 (f_Md_addOr (v_set x2.toNatClampNeg) (v_constant x2.toNatClampNeg) (f_Md_eighthsOf x1) (0 : Int32) v_number) fun q_35 =>
    some ((1 : Int32), v_thrown, v_came, v_there, v_halves, v_constant, v_set, q_35))
  else (
  if x1 = 6 then (
    if x2 < 0 ∨ 6 ≤ x2.toNatClampNeg then none else
    if x2 < 0 ∨ 6 ≤ x2.toNatClampNeg then none else
    zb1 (f_Md_addOr (v_set x2.toNatClampNeg) (v_constant x2.toNatClampNeg) (f_Md_eighthsOf x1) (0 : Int32) v_number) fun q_41 =>
    some ((1 : Int32), v_thrown, v_came, v_there, v_halves, v_constant, v_set, q_41))
  else (
  if x1 = 7 then (
    if x2 < 0 ∨ 6 ≤ x2.toNatClampNeg then none else
    if x2 < 0 ∨ 6 ≤ x2.toNatClampNeg then none else
    zb1 (f_Md_addOr (v_set x2.toNatClampNeg) (v_constant x2.toNatClampNeg) (f_Md_eighthsOf x1) (0 : Int32) v_number) fun q_47 =>
    some ((1 : Int32), v_thrown, v_came, v_there, v_halves, v_constant, v_set, q_47))
  else (
  if x1 = 8 then (
    zb1 (f_Md_addTwo x2 x3 (0 : Int32) v_constant v_number v_set) fun q_50 =>
    some ((1 : Int32), v_thrown, v_came, v_there, v_halves, v_constant, v_set, q_50))
  else (
  if x1 = 9 then (
    zb1 (f_Md_addThree x2 x3 x4 v_constant v_number v_set) fun q_53 =>
    some ((1 : Int32), v_thrown, v_came, v_there, v_halves, v_constant, v_set, q_53))
  else (
  if x1 = 10 then (
    zb4 (f_Md_newBit x2 (1 : Int32) v_came v_there v_halves v_constant v_number v_set) fun q_56 q_57 q_58 q_59 =>
    if x2 < 0 ∨ 6 ≤ x2.toNatClampNeg then none else
    zlet (upd v_set x2.toNatClampNeg ((1 : Int32) <<< ((q_56 - (1 : Int32)) &&& 31))) fun u_61 =>
    if x2 < 0 ∨ 6 ≤ x2.toNatClampNeg then none else
    zlet (upd v_constant x2.toNatClampNeg (0 : Int32)) fun u_63 =>
    some ((1 : Int32), v_thrown, q_56, q_57, q_58, u_63, u_61, q_59))
  else (
  if x1 = 11 then (
    zb4 (f_Md_newBit x2 (2 : Int32) v_came v_there v_halves v_constant v_number v_set) fun q_66 q_67 q_68 q_69 =>
    some ((1 : Int32), v_thrown, q_66, q_67, q_68, v_constant, v_set, q_69))
  else (
  if x1 = 12 then (
    zb4 (f_Md_newBit x2 (2 : Int32) v_came v_there v_halves v_constant v_number v_set) fun q_72 q_73 q_74 q_75 =>
    zb1 (f_Md_add ((1 : Int32) <<< ((q_72 - (1 : Int32)) &&& 31)) (4 : Int32) q_75) fun q_77 =>
    some ((1 : Int32), v_thrown, q_72, q_73, q_74, v_constant, v_set, q_77))
  else (
  if x2 < 0 ∨ 6 ≤ x2.toNatClampNeg then none else
  if x2 < 0 ∨ 6 ≤ x2.toNatClampNeg then none else
  zb1 (f_Md_addOr (v_set x2.toNatClampNeg) (v_constant x2.toNatClampNeg) (f_Md_eighthsOf x1) (0 : Int32) v_number) fun q_82 =>
  some ((1 : Int32), v_thrown, v_came, v_there, v_halves, v_constant, v_set, q_82))))))))))))))
set_option maxRecDepth 100000 in
set_option maxHeartbeats 4000000 in
theorem k_Md_gate_j101 {p : Program} {l : Launch} {e : Env} {s : State} {m : MethodId} {args : Array Value} {below : List Frame} {meth : Method} {c : Code} {D : va_G} {cI cL : ClassId} {h_this h_this_number h_this_set h_this_constant h_this_ruleKind h_this_ruleBit h_this_ruleOther h_this_oldSet h_this_oldNumber h_this_allSets h_this_allNumbers h_this_root : Nat} {v_thrown v_wires v_isOpen v_isEmpty v_came v_there v_halves v_rules v_alone v_halfBits v_allMany rr o_thrown o_came o_there o_halves x1 x2 x3 x4 : Int32} {v_constant v_set v_number o_constant o_set o_number : Nat → Int32}  (C : zC p s m args meth c b_Md_gate 6 R_Md D vwCl [(cI, .int), (cL, .long)] (zA [h_this, h_this_constant, h_this_set, h_this_number] s.heap.size)) (hr : meth.sig.returnType = some .boolean) (hf : f_Md_gate_j101 x1 x2 x3 x4 v_thrown v_wires v_isEmpty v_came v_there v_halves v_constant v_set v_number = some (rr, o_thrown, o_came, o_there, o_halves, o_constant, o_set, o_number)) : ZV p l e rm_Md_gate s m args below meth c 6 D (some (.int rr)) [(h_this, .inr (5, [.int o_thrown, .int v_wires, .int v_isOpen, .int v_isEmpty, .int o_came, .int o_there, .int o_halves, .ref h_this_number, .ref h_this_set, .ref h_this_constant, .int v_rules, .ref h_this_ruleKind, .ref h_this_ruleBit, .ref h_this_ruleOther, .int v_alone, .int v_halfBits, .ref h_this_oldSet, .ref h_this_oldNumber, .ref h_this_allSets, .ref h_this_allNumbers, .int v_allMany, .ref h_this_root])), (h_this_constant, .inl (cI, 6, .inl o_constant)), (h_this_set, .inl (cI, 6, .inl o_set)), (h_this_number, .inl (cI, 15625, .inl o_number))] [h_this, h_this_constant, h_this_set, h_this_number] [(h_this, .inr (5, [.int v_thrown, .int v_wires, .int v_isOpen, .int v_isEmpty, .int v_came, .int v_there, .int v_halves, .ref h_this_number, .ref h_this_set, .ref h_this_constant, .int v_rules, .ref h_this_ruleKind, .ref h_this_ruleBit, .ref h_this_ruleOther, .int v_alone, .int v_halfBits, .ref h_this_oldSet, .ref h_this_oldNumber, .ref h_this_allSets, .ref h_this_allNumbers, .int v_allMany, .ref h_this_root])), (h_this_constant, .inl (cI, 6, .inl v_constant)), (h_this_set, .inl (cI, 6, .inl v_set)), (h_this_number, .inl (cI, 15625, .inl v_number))] 101 [(0, .ref h_this), (1, .int x1), (2, .int x2), (3, .int x3), (4, .int x4)] [] := by
  unfold f_Md_gate_j101 at hf
  refine z_iload_n C d_Md_gate_101 rfl 1 rfl ?_
  by_cases c_1 : x1 = 0
  · have hf := zif_pos c_1 hf
    refine z_tableIn (tgt := 168) C d_Md_gate_102 (0) c_1 (by decide) (by decide) rfl (by decide) ?_
    refine z_aload_n C d_Md_gate_168 rfl 0 rfl ?_
    refine z_get C iw_Md 0 rfl rfl 9 (by decide) zw_507 rfl d_Md_gate_169 ?_
    refine z_iload_n C d_Md_gate_172 rfl 2 rfl ?_
    refine z_dup2_11 C d_Md_gate_173 rfl rfl ?_
    obtain ⟨g_2, hf⟩ := zguard hf
    refine z_iald C 1 0 rfl rfl g_2 d_Md_gate_174 ?_
    refine z_iconst (v := 1) C d_Md_gate_175 (by decide) ?_
    refine z_ixor C d_Md_gate_176 ?_
    obtain ⟨g_3, hf⟩ := zguard hf
    obtain ⟨u_4, eu_4⟩ : ∃ u : Nat → Int32, u = upd v_constant x2.toNatClampNeg ((v_constant x2.toNatClampNeg) ^^^ (1 : Int32)) := ⟨_, rfl⟩
    have hf := zlet_at eu_4 hf
    refine z_iast (ws' := [(h_this, .inr (5, [.int v_thrown, .int v_wires, .int v_isOpen, .int v_isEmpty, .int v_came, .int v_there, .int v_halves, .ref h_this_number, .ref h_this_set, .ref h_this_constant, .int v_rules, .ref h_this_ruleKind, .ref h_this_ruleBit, .ref h_this_ruleOther, .int v_alone, .int v_halfBits, .ref h_this_oldSet, .ref h_this_oldNumber, .ref h_this_allSets, .ref h_this_allNumbers, .int v_allMany, .ref h_this_root])), (h_this_constant, .inl (cI, 6, .inl u_4)), (h_this_set, .inl (cI, 6, .inl v_set)), (h_this_number, .inl (cI, 15625, .inl v_number))]) C 1 0 rfl rfl g_3 d_Md_gate_177 (by rw [eu_4]; rfl) ?_
    refine z_goto (tgt := 326) C d_Md_gate_178 (by decide) ?_
    refine z_iconst (v := 1) C d_Md_gate_326 (by decide) ?_
    cases hf
    exact z_zret C hr rfl d_Md_gate_327
  · have hf := zif_neg c_1 hf
    by_cases c_5 : x1 = 1
    · have hf := zif_pos c_5 hf
      refine z_tableIn (tgt := 181) C d_Md_gate_102 (1) c_5 (by decide) (by decide) rfl (by decide) ?_
      refine z_aload_n C d_Md_gate_181 rfl 0 rfl ?_
      refine z_get C iw_Md 0 rfl rfl 8 (by decide) zw_506 rfl d_Md_gate_182 ?_
      refine z_iload_n C d_Md_gate_185 rfl 2 rfl ?_
      refine z_dup2_11 C d_Md_gate_186 rfl rfl ?_
      obtain ⟨g_6, hf⟩ := zguard hf
      refine z_iald C 2 0 rfl rfl g_6 d_Md_gate_187 ?_
      refine z_aload_n C d_Md_gate_188 rfl 0 rfl ?_
      refine z_get C iw_Md 0 rfl rfl 8 (by decide) zw_506 rfl d_Md_gate_189 ?_
      refine z_iload_n C d_Md_gate_192 rfl 3 rfl ?_
      obtain ⟨g_7, hf⟩ := zguard hf
      refine z_iald C 2 0 rfl rfl g_7 d_Md_gate_193 ?_
      refine z_ixor C d_Md_gate_194 ?_
      obtain ⟨g_8, hf⟩ := zguard hf
      obtain ⟨u_9, eu_9⟩ : ∃ u : Nat → Int32, u = upd v_set x2.toNatClampNeg ((v_set x2.toNatClampNeg) ^^^ (v_set x3.toNatClampNeg)) := ⟨_, rfl⟩
      have hf := zlet_at eu_9 hf
      refine z_iast (ws' := [(h_this, .inr (5, [.int v_thrown, .int v_wires, .int v_isOpen, .int v_isEmpty, .int v_came, .int v_there, .int v_halves, .ref h_this_number, .ref h_this_set, .ref h_this_constant, .int v_rules, .ref h_this_ruleKind, .ref h_this_ruleBit, .ref h_this_ruleOther, .int v_alone, .int v_halfBits, .ref h_this_oldSet, .ref h_this_oldNumber, .ref h_this_allSets, .ref h_this_allNumbers, .int v_allMany, .ref h_this_root])), (h_this_constant, .inl (cI, 6, .inl v_constant)), (h_this_set, .inl (cI, 6, .inl u_9)), (h_this_number, .inl (cI, 15625, .inl v_number))]) C 2 0 rfl rfl g_8 d_Md_gate_195 (by rw [eu_9]; rfl) ?_
      refine z_aload_n C d_Md_gate_196 rfl 0 rfl ?_
      refine z_get C iw_Md 0 rfl rfl 9 (by decide) zw_507 rfl d_Md_gate_197 ?_
      refine z_iload_n C d_Md_gate_200 rfl 2 rfl ?_
      refine z_dup2_11 C d_Md_gate_201 rfl rfl ?_
      obtain ⟨g_10, hf⟩ := zguard hf
      refine z_iald C 1 0 rfl rfl g_10 d_Md_gate_202 ?_
      refine z_aload_n C d_Md_gate_203 rfl 0 rfl ?_
      refine z_get C iw_Md 0 rfl rfl 9 (by decide) zw_507 rfl d_Md_gate_204 ?_
      refine z_iload_n C d_Md_gate_207 rfl 3 rfl ?_
      obtain ⟨g_11, hf⟩ := zguard hf
      refine z_iald C 1 0 rfl rfl g_11 d_Md_gate_208 ?_
      refine z_ixor C d_Md_gate_209 ?_
      obtain ⟨g_12, hf⟩ := zguard hf
      obtain ⟨u_13, eu_13⟩ : ∃ u : Nat → Int32, u = upd v_constant x2.toNatClampNeg ((v_constant x2.toNatClampNeg) ^^^ (v_constant x3.toNatClampNeg)) := ⟨_, rfl⟩
      have hf := zlet_at eu_13 hf
      refine z_iast (ws' := [(h_this, .inr (5, [.int v_thrown, .int v_wires, .int v_isOpen, .int v_isEmpty, .int v_came, .int v_there, .int v_halves, .ref h_this_number, .ref h_this_set, .ref h_this_constant, .int v_rules, .ref h_this_ruleKind, .ref h_this_ruleBit, .ref h_this_ruleOther, .int v_alone, .int v_halfBits, .ref h_this_oldSet, .ref h_this_oldNumber, .ref h_this_allSets, .ref h_this_allNumbers, .int v_allMany, .ref h_this_root])), (h_this_constant, .inl (cI, 6, .inl u_13)), (h_this_set, .inl (cI, 6, .inl u_9)), (h_this_number, .inl (cI, 15625, .inl v_number))]) C 1 0 rfl rfl g_12 d_Md_gate_210 (by rw [eu_13]; rfl) ?_
      refine z_goto (tgt := 326) C d_Md_gate_211 (by decide) ?_
      refine z_iconst (v := 1) C d_Md_gate_326 (by decide) ?_
      cases hf
      exact z_zret C hr rfl d_Md_gate_327
    · have hf := zif_neg c_5 hf
      by_cases c_14 : x1 = 2
      · have hf := zif_pos c_14 hf
        refine z_tableIn (tgt := 214) C d_Md_gate_102 (2) c_14 (by decide) (by decide) rfl (by decide) ?_
        refine z_aload_n C d_Md_gate_214 rfl 0 rfl ?_
        refine z_iload_n C d_Md_gate_215 rfl 2 rfl ?_
        refine z_iload_n C d_Md_gate_216 rfl 3 rfl ?_
        obtain ⟨q_16, q_17, h_15, hf⟩ := zb2_elim hf
        refine z_callV (As := [.int x2, .int x3]) (rest := []) (ws' := [(h_this, .inr (5, [.int v_thrown, .int v_wires, .int v_isOpen, .int v_isEmpty, .int v_came, .int v_there, .int v_halves, .ref h_this_number, .ref h_this_set, .ref h_this_constant, .int v_rules, .ref h_this_ruleKind, .ref h_this_ruleBit, .ref h_this_ruleOther, .int v_alone, .int v_halfBits, .ref h_this_oldSet, .ref h_this_oldNumber, .ref h_this_allSets, .ref h_this_allNumbers, .int v_allMany, .ref h_this_root])), (h_this_constant, .inl (cI, 6, .inl q_17)), (h_this_set, .inl (cI, 6, .inl q_16)), (h_this_number, .inl (cI, 15625, .inl v_number))]) C (c_Md_exchange h_15) mi_Md_exchange zw_589 (by decide) 0 rfl rfl [0, 2, 1] (by decide) rfl rfl rfl rfl rfl (by decide) ⟨Nat.zero_le _, Nat.zero_le _⟩ d_Md_gate_217 ?_
        refine z_goto (tgt := 326) C d_Md_gate_220 (by decide) ?_
        refine z_iconst (v := 1) C d_Md_gate_326 (by decide) ?_
        cases hf
        exact z_zret C hr rfl d_Md_gate_327
      · have hf := zif_neg c_14 hf
        by_cases c_18 : x1 = 3
        · have hf := zif_pos c_18 hf
          refine z_tableIn (tgt := 305) C d_Md_gate_102 (3) c_18 (by decide) (by decide) rfl (by decide) ?_
          refine z_aload_n C d_Md_gate_305 rfl 0 rfl ?_
          refine z_aload_n C d_Md_gate_306 rfl 0 rfl ?_
          refine z_get C iw_Md 0 rfl rfl 8 (by decide) zw_506 rfl d_Md_gate_307 ?_
          refine z_iload_n C d_Md_gate_310 rfl 2 rfl ?_
          obtain ⟨g_19, hf⟩ := zguard hf
          refine z_iald C 2 0 rfl rfl g_19 d_Md_gate_311 ?_
          refine z_aload_n C d_Md_gate_312 rfl 0 rfl ?_
          refine z_get C iw_Md 0 rfl rfl 9 (by decide) zw_507 rfl d_Md_gate_313 ?_
          refine z_iload_n C d_Md_gate_316 rfl 2 rfl ?_
          obtain ⟨g_20, hf⟩ := zguard hf
          refine z_iald C 1 0 rfl rfl g_20 d_Md_gate_317 ?_
          refine z_iload_n C d_Md_gate_318 rfl 1 rfl ?_
          refine z_callS (As := [.int x1]) (rest := [.int (v_constant x2.toNatClampNeg), .int (v_set x2.toNatClampNeg), .ref h_this]) (ws' := [(h_this, .inr (5, [.int v_thrown, .int v_wires, .int v_isOpen, .int v_isEmpty, .int v_came, .int v_there, .int v_halves, .ref h_this_number, .ref h_this_set, .ref h_this_constant, .int v_rules, .ref h_this_ruleKind, .ref h_this_ruleBit, .ref h_this_ruleOther, .int v_alone, .int v_halfBits, .ref h_this_oldSet, .ref h_this_oldNumber, .ref h_this_allSets, .ref h_this_allNumbers, .int v_allMany, .ref h_this_root])), (h_this_constant, .inl (cI, 6, .inl v_constant)), (h_this_set, .inl (cI, 6, .inl v_set)), (h_this_number, .inl (cI, 15625, .inl v_number))]) C (c_Md_eighthsOf rfl) mi_Md_eighthsOf zw_619 (by decide) [] (by decide) rfl rfl rfl rfl rfl (by decide) ⟨Nat.zero_le _, Nat.zero_le _⟩ d_Md_gate_319 ?_
          refine z_iconst (v := 0) C d_Md_gate_322 (by decide) ?_
          obtain ⟨q_23, h_22, hf⟩ := zb1_elim hf
          refine z_callV (As := [.int (v_set x2.toNatClampNeg), .int (v_constant x2.toNatClampNeg), .int (f_Md_eighthsOf x1), .int (0 : Int32)]) (rest := []) (ws' := [(h_this, .inr (5, [.int v_thrown, .int v_wires, .int v_isOpen, .int v_isEmpty, .int v_came, .int v_there, .int v_halves, .ref h_this_number, .ref h_this_set, .ref h_this_constant, .int v_rules, .ref h_this_ruleKind, .ref h_this_ruleBit, .ref h_this_ruleOther, .int v_alone, .int v_halfBits, .ref h_this_oldSet, .ref h_this_oldNumber, .ref h_this_allSets, .ref h_this_allNumbers, .int v_allMany, .ref h_this_root])), (h_this_constant, .inl (cI, 6, .inl v_constant)), (h_this_set, .inl (cI, 6, .inl v_set)), (h_this_number, .inl (cI, 15625, .inl q_23))]) C (c_Md_addOr h_22) mi_Md_addOr zw_622 (by decide) 0 rfl rfl [0, 3] (by decide) rfl rfl rfl rfl rfl (by decide) ⟨Nat.zero_le _, Nat.zero_le _⟩ d_Md_gate_323 ?_
          refine z_iconst (v := 1) C d_Md_gate_326 (by decide) ?_
          cases hf
          exact z_zret C hr rfl d_Md_gate_327
        · have hf := zif_neg c_18 hf
          by_cases c_24 : x1 = 4
          · have hf := zif_pos c_24 hf
            refine z_tableIn (tgt := 305) C d_Md_gate_102 (4) c_24 (by decide) (by decide) rfl (by decide) ?_
            refine z_aload_n C d_Md_gate_305 rfl 0 rfl ?_
            refine z_aload_n C d_Md_gate_306 rfl 0 rfl ?_
            refine z_get C iw_Md 0 rfl rfl 8 (by decide) zw_506 rfl d_Md_gate_307 ?_
            refine z_iload_n C d_Md_gate_310 rfl 2 rfl ?_
            obtain ⟨g_25, hf⟩ := zguard hf
            refine z_iald C 2 0 rfl rfl g_25 d_Md_gate_311 ?_
            refine z_aload_n C d_Md_gate_312 rfl 0 rfl ?_
            refine z_get C iw_Md 0 rfl rfl 9 (by decide) zw_507 rfl d_Md_gate_313 ?_
            refine z_iload_n C d_Md_gate_316 rfl 2 rfl ?_
            obtain ⟨g_26, hf⟩ := zguard hf
            refine z_iald C 1 0 rfl rfl g_26 d_Md_gate_317 ?_
            refine z_iload_n C d_Md_gate_318 rfl 1 rfl ?_
            refine z_callS (As := [.int x1]) (rest := [.int (v_constant x2.toNatClampNeg), .int (v_set x2.toNatClampNeg), .ref h_this]) (ws' := [(h_this, .inr (5, [.int v_thrown, .int v_wires, .int v_isOpen, .int v_isEmpty, .int v_came, .int v_there, .int v_halves, .ref h_this_number, .ref h_this_set, .ref h_this_constant, .int v_rules, .ref h_this_ruleKind, .ref h_this_ruleBit, .ref h_this_ruleOther, .int v_alone, .int v_halfBits, .ref h_this_oldSet, .ref h_this_oldNumber, .ref h_this_allSets, .ref h_this_allNumbers, .int v_allMany, .ref h_this_root])), (h_this_constant, .inl (cI, 6, .inl v_constant)), (h_this_set, .inl (cI, 6, .inl v_set)), (h_this_number, .inl (cI, 15625, .inl v_number))]) C (c_Md_eighthsOf rfl) mi_Md_eighthsOf zw_619 (by decide) [] (by decide) rfl rfl rfl rfl rfl (by decide) ⟨Nat.zero_le _, Nat.zero_le _⟩ d_Md_gate_319 ?_
            refine z_iconst (v := 0) C d_Md_gate_322 (by decide) ?_
            obtain ⟨q_29, h_28, hf⟩ := zb1_elim hf
            refine z_callV (As := [.int (v_set x2.toNatClampNeg), .int (v_constant x2.toNatClampNeg), .int (f_Md_eighthsOf x1), .int (0 : Int32)]) (rest := []) (ws' := [(h_this, .inr (5, [.int v_thrown, .int v_wires, .int v_isOpen, .int v_isEmpty, .int v_came, .int v_there, .int v_halves, .ref h_this_number, .ref h_this_set, .ref h_this_constant, .int v_rules, .ref h_this_ruleKind, .ref h_this_ruleBit, .ref h_this_ruleOther, .int v_alone, .int v_halfBits, .ref h_this_oldSet, .ref h_this_oldNumber, .ref h_this_allSets, .ref h_this_allNumbers, .int v_allMany, .ref h_this_root])), (h_this_constant, .inl (cI, 6, .inl v_constant)), (h_this_set, .inl (cI, 6, .inl v_set)), (h_this_number, .inl (cI, 15625, .inl q_29))]) C (c_Md_addOr h_28) mi_Md_addOr zw_622 (by decide) 0 rfl rfl [0, 3] (by decide) rfl rfl rfl rfl rfl (by decide) ⟨Nat.zero_le _, Nat.zero_le _⟩ d_Md_gate_323 ?_
            refine z_iconst (v := 1) C d_Md_gate_326 (by decide) ?_
            cases hf
            exact z_zret C hr rfl d_Md_gate_327
          · have hf := zif_neg c_24 hf
            by_cases c_30 : x1 = 5
            · have hf := zif_pos c_30 hf
              refine z_tableIn (tgt := 305) C d_Md_gate_102 (5) c_30 (by decide) (by decide) rfl (by decide) ?_
              refine z_aload_n C d_Md_gate_305 rfl 0 rfl ?_
              refine z_aload_n C d_Md_gate_306 rfl 0 rfl ?_
              refine z_get C iw_Md 0 rfl rfl 8 (by decide) zw_506 rfl d_Md_gate_307 ?_
              refine z_iload_n C d_Md_gate_310 rfl 2 rfl ?_
              obtain ⟨g_31, hf⟩ := zguard hf
              refine z_iald C 2 0 rfl rfl g_31 d_Md_gate_311 ?_
              refine z_aload_n C d_Md_gate_312 rfl 0 rfl ?_
              refine z_get C iw_Md 0 rfl rfl 9 (by decide) zw_507 rfl d_Md_gate_313 ?_
              refine z_iload_n C d_Md_gate_316 rfl 2 rfl ?_
              obtain ⟨g_32, hf⟩ := zguard hf
              refine z_iald C 1 0 rfl rfl g_32 d_Md_gate_317 ?_
              refine z_iload_n C d_Md_gate_318 rfl 1 rfl ?_
              refine z_callS (As := [.int x1]) (rest := [.int (v_constant x2.toNatClampNeg), .int (v_set x2.toNatClampNeg), .ref h_this]) (ws' := [(h_this, .inr (5, [.int v_thrown, .int v_wires, .int v_isOpen, .int v_isEmpty, .int v_came, .int v_there, .int v_halves, .ref h_this_number, .ref h_this_set, .ref h_this_constant, .int v_rules, .ref h_this_ruleKind, .ref h_this_ruleBit, .ref h_this_ruleOther, .int v_alone, .int v_halfBits, .ref h_this_oldSet, .ref h_this_oldNumber, .ref h_this_allSets, .ref h_this_allNumbers, .int v_allMany, .ref h_this_root])), (h_this_constant, .inl (cI, 6, .inl v_constant)), (h_this_set, .inl (cI, 6, .inl v_set)), (h_this_number, .inl (cI, 15625, .inl v_number))]) C (c_Md_eighthsOf rfl) mi_Md_eighthsOf zw_619 (by decide) [] (by decide) rfl rfl rfl rfl rfl (by decide) ⟨Nat.zero_le _, Nat.zero_le _⟩ d_Md_gate_319 ?_
              refine z_iconst (v := 0) C d_Md_gate_322 (by decide) ?_
              obtain ⟨q_35, h_34, hf⟩ := zb1_elim hf
              refine z_callV (As := [.int (v_set x2.toNatClampNeg), .int (v_constant x2.toNatClampNeg), .int (f_Md_eighthsOf x1), .int (0 : Int32)]) (rest := []) (ws' := [(h_this, .inr (5, [.int v_thrown, .int v_wires, .int v_isOpen, .int v_isEmpty, .int v_came, .int v_there, .int v_halves, .ref h_this_number, .ref h_this_set, .ref h_this_constant, .int v_rules, .ref h_this_ruleKind, .ref h_this_ruleBit, .ref h_this_ruleOther, .int v_alone, .int v_halfBits, .ref h_this_oldSet, .ref h_this_oldNumber, .ref h_this_allSets, .ref h_this_allNumbers, .int v_allMany, .ref h_this_root])), (h_this_constant, .inl (cI, 6, .inl v_constant)), (h_this_set, .inl (cI, 6, .inl v_set)), (h_this_number, .inl (cI, 15625, .inl q_35))]) C (c_Md_addOr h_34) mi_Md_addOr zw_622 (by decide) 0 rfl rfl [0, 3] (by decide) rfl rfl rfl rfl rfl (by decide) ⟨Nat.zero_le _, Nat.zero_le _⟩ d_Md_gate_323 ?_
              refine z_iconst (v := 1) C d_Md_gate_326 (by decide) ?_
              cases hf
              exact z_zret C hr rfl d_Md_gate_327
            · have hf := zif_neg c_30 hf
              by_cases c_36 : x1 = 6
              · have hf := zif_pos c_36 hf
                refine z_tableIn (tgt := 305) C d_Md_gate_102 (6) c_36 (by decide) (by decide) rfl (by decide) ?_
                refine z_aload_n C d_Md_gate_305 rfl 0 rfl ?_
                refine z_aload_n C d_Md_gate_306 rfl 0 rfl ?_
                refine z_get C iw_Md 0 rfl rfl 8 (by decide) zw_506 rfl d_Md_gate_307 ?_
                refine z_iload_n C d_Md_gate_310 rfl 2 rfl ?_
                obtain ⟨g_37, hf⟩ := zguard hf
                refine z_iald C 2 0 rfl rfl g_37 d_Md_gate_311 ?_
                refine z_aload_n C d_Md_gate_312 rfl 0 rfl ?_
                refine z_get C iw_Md 0 rfl rfl 9 (by decide) zw_507 rfl d_Md_gate_313 ?_
                refine z_iload_n C d_Md_gate_316 rfl 2 rfl ?_
                obtain ⟨g_38, hf⟩ := zguard hf
                refine z_iald C 1 0 rfl rfl g_38 d_Md_gate_317 ?_
                refine z_iload_n C d_Md_gate_318 rfl 1 rfl ?_
                refine z_callS (As := [.int x1]) (rest := [.int (v_constant x2.toNatClampNeg), .int (v_set x2.toNatClampNeg), .ref h_this]) (ws' := [(h_this, .inr (5, [.int v_thrown, .int v_wires, .int v_isOpen, .int v_isEmpty, .int v_came, .int v_there, .int v_halves, .ref h_this_number, .ref h_this_set, .ref h_this_constant, .int v_rules, .ref h_this_ruleKind, .ref h_this_ruleBit, .ref h_this_ruleOther, .int v_alone, .int v_halfBits, .ref h_this_oldSet, .ref h_this_oldNumber, .ref h_this_allSets, .ref h_this_allNumbers, .int v_allMany, .ref h_this_root])), (h_this_constant, .inl (cI, 6, .inl v_constant)), (h_this_set, .inl (cI, 6, .inl v_set)), (h_this_number, .inl (cI, 15625, .inl v_number))]) C (c_Md_eighthsOf rfl) mi_Md_eighthsOf zw_619 (by decide) [] (by decide) rfl rfl rfl rfl rfl (by decide) ⟨Nat.zero_le _, Nat.zero_le _⟩ d_Md_gate_319 ?_
                refine z_iconst (v := 0) C d_Md_gate_322 (by decide) ?_
                obtain ⟨q_41, h_40, hf⟩ := zb1_elim hf
                refine z_callV (As := [.int (v_set x2.toNatClampNeg), .int (v_constant x2.toNatClampNeg), .int (f_Md_eighthsOf x1), .int (0 : Int32)]) (rest := []) (ws' := [(h_this, .inr (5, [.int v_thrown, .int v_wires, .int v_isOpen, .int v_isEmpty, .int v_came, .int v_there, .int v_halves, .ref h_this_number, .ref h_this_set, .ref h_this_constant, .int v_rules, .ref h_this_ruleKind, .ref h_this_ruleBit, .ref h_this_ruleOther, .int v_alone, .int v_halfBits, .ref h_this_oldSet, .ref h_this_oldNumber, .ref h_this_allSets, .ref h_this_allNumbers, .int v_allMany, .ref h_this_root])), (h_this_constant, .inl (cI, 6, .inl v_constant)), (h_this_set, .inl (cI, 6, .inl v_set)), (h_this_number, .inl (cI, 15625, .inl q_41))]) C (c_Md_addOr h_40) mi_Md_addOr zw_622 (by decide) 0 rfl rfl [0, 3] (by decide) rfl rfl rfl rfl rfl (by decide) ⟨Nat.zero_le _, Nat.zero_le _⟩ d_Md_gate_323 ?_
                refine z_iconst (v := 1) C d_Md_gate_326 (by decide) ?_
                cases hf
                exact z_zret C hr rfl d_Md_gate_327
              · have hf := zif_neg c_36 hf
                by_cases c_42 : x1 = 7
                · have hf := zif_pos c_42 hf
                  refine z_tableIn (tgt := 305) C d_Md_gate_102 (7) c_42 (by decide) (by decide) rfl (by decide) ?_
                  refine z_aload_n C d_Md_gate_305 rfl 0 rfl ?_
                  refine z_aload_n C d_Md_gate_306 rfl 0 rfl ?_
                  refine z_get C iw_Md 0 rfl rfl 8 (by decide) zw_506 rfl d_Md_gate_307 ?_
                  refine z_iload_n C d_Md_gate_310 rfl 2 rfl ?_
                  obtain ⟨g_43, hf⟩ := zguard hf
                  refine z_iald C 2 0 rfl rfl g_43 d_Md_gate_311 ?_
                  refine z_aload_n C d_Md_gate_312 rfl 0 rfl ?_
                  refine z_get C iw_Md 0 rfl rfl 9 (by decide) zw_507 rfl d_Md_gate_313 ?_
                  refine z_iload_n C d_Md_gate_316 rfl 2 rfl ?_
                  obtain ⟨g_44, hf⟩ := zguard hf
                  refine z_iald C 1 0 rfl rfl g_44 d_Md_gate_317 ?_
                  refine z_iload_n C d_Md_gate_318 rfl 1 rfl ?_
                  refine z_callS (As := [.int x1]) (rest := [.int (v_constant x2.toNatClampNeg), .int (v_set x2.toNatClampNeg), .ref h_this]) (ws' := [(h_this, .inr (5, [.int v_thrown, .int v_wires, .int v_isOpen, .int v_isEmpty, .int v_came, .int v_there, .int v_halves, .ref h_this_number, .ref h_this_set, .ref h_this_constant, .int v_rules, .ref h_this_ruleKind, .ref h_this_ruleBit, .ref h_this_ruleOther, .int v_alone, .int v_halfBits, .ref h_this_oldSet, .ref h_this_oldNumber, .ref h_this_allSets, .ref h_this_allNumbers, .int v_allMany, .ref h_this_root])), (h_this_constant, .inl (cI, 6, .inl v_constant)), (h_this_set, .inl (cI, 6, .inl v_set)), (h_this_number, .inl (cI, 15625, .inl v_number))]) C (c_Md_eighthsOf rfl) mi_Md_eighthsOf zw_619 (by decide) [] (by decide) rfl rfl rfl rfl rfl (by decide) ⟨Nat.zero_le _, Nat.zero_le _⟩ d_Md_gate_319 ?_
                  refine z_iconst (v := 0) C d_Md_gate_322 (by decide) ?_
                  obtain ⟨q_47, h_46, hf⟩ := zb1_elim hf
                  refine z_callV (As := [.int (v_set x2.toNatClampNeg), .int (v_constant x2.toNatClampNeg), .int (f_Md_eighthsOf x1), .int (0 : Int32)]) (rest := []) (ws' := [(h_this, .inr (5, [.int v_thrown, .int v_wires, .int v_isOpen, .int v_isEmpty, .int v_came, .int v_there, .int v_halves, .ref h_this_number, .ref h_this_set, .ref h_this_constant, .int v_rules, .ref h_this_ruleKind, .ref h_this_ruleBit, .ref h_this_ruleOther, .int v_alone, .int v_halfBits, .ref h_this_oldSet, .ref h_this_oldNumber, .ref h_this_allSets, .ref h_this_allNumbers, .int v_allMany, .ref h_this_root])), (h_this_constant, .inl (cI, 6, .inl v_constant)), (h_this_set, .inl (cI, 6, .inl v_set)), (h_this_number, .inl (cI, 15625, .inl q_47))]) C (c_Md_addOr h_46) mi_Md_addOr zw_622 (by decide) 0 rfl rfl [0, 3] (by decide) rfl rfl rfl rfl rfl (by decide) ⟨Nat.zero_le _, Nat.zero_le _⟩ d_Md_gate_323 ?_
                  refine z_iconst (v := 1) C d_Md_gate_326 (by decide) ?_
                  cases hf
                  exact z_zret C hr rfl d_Md_gate_327
                · have hf := zif_neg c_42 hf
                  by_cases c_48 : x1 = 8
                  · have hf := zif_pos c_48 hf
                    refine z_tableIn (tgt := 223) C d_Md_gate_102 (8) c_48 (by decide) (by decide) rfl (by decide) ?_
                    refine z_aload_n C d_Md_gate_223 rfl 0 rfl ?_
                    refine z_iload_n C d_Md_gate_224 rfl 2 rfl ?_
                    refine z_iload_n C d_Md_gate_225 rfl 3 rfl ?_
                    refine z_iconst (v := 0) C d_Md_gate_226 (by decide) ?_
                    obtain ⟨q_50, h_49, hf⟩ := zb1_elim hf
                    refine z_callV (As := [.int x2, .int x3, .int (0 : Int32)]) (rest := []) (ws' := [(h_this, .inr (5, [.int v_thrown, .int v_wires, .int v_isOpen, .int v_isEmpty, .int v_came, .int v_there, .int v_halves, .ref h_this_number, .ref h_this_set, .ref h_this_constant, .int v_rules, .ref h_this_ruleKind, .ref h_this_ruleBit, .ref h_this_ruleOther, .int v_alone, .int v_halfBits, .ref h_this_oldSet, .ref h_this_oldNumber, .ref h_this_allSets, .ref h_this_allNumbers, .int v_allMany, .ref h_this_root])), (h_this_constant, .inl (cI, 6, .inl v_constant)), (h_this_set, .inl (cI, 6, .inl v_set)), (h_this_number, .inl (cI, 15625, .inl q_50))]) C (c_Md_addTwo h_49) mi_Md_addTwo zw_593 (by decide) 0 rfl rfl [0, 1, 3, 2] (by decide) rfl rfl rfl rfl rfl (by decide) ⟨Nat.zero_le _, Nat.zero_le _⟩ d_Md_gate_227 ?_
                    refine z_goto (tgt := 326) C d_Md_gate_230 (by decide) ?_
                    refine z_iconst (v := 1) C d_Md_gate_326 (by decide) ?_
                    cases hf
                    exact z_zret C hr rfl d_Md_gate_327
                  · have hf := zif_neg c_48 hf
                    by_cases c_51 : x1 = 9
                    · have hf := zif_pos c_51 hf
                      refine z_tableIn (tgt := 233) C d_Md_gate_102 (9) c_51 (by decide) (by decide) rfl (by decide) ?_
                      refine z_aload_n C d_Md_gate_233 rfl 0 rfl ?_
                      refine z_iload_n C d_Md_gate_234 rfl 2 rfl ?_
                      refine z_iload_n C d_Md_gate_235 rfl 3 rfl ?_
                      refine z_iload C d_Md_gate_236 4 rfl ?_
                      obtain ⟨q_53, h_52, hf⟩ := zb1_elim hf
                      refine z_callV (As := [.int x2, .int x3, .int x4]) (rest := []) (ws' := [(h_this, .inr (5, [.int v_thrown, .int v_wires, .int v_isOpen, .int v_isEmpty, .int v_came, .int v_there, .int v_halves, .ref h_this_number, .ref h_this_set, .ref h_this_constant, .int v_rules, .ref h_this_ruleKind, .ref h_this_ruleBit, .ref h_this_ruleOther, .int v_alone, .int v_halfBits, .ref h_this_oldSet, .ref h_this_oldNumber, .ref h_this_allSets, .ref h_this_allNumbers, .int v_allMany, .ref h_this_root])), (h_this_constant, .inl (cI, 6, .inl v_constant)), (h_this_set, .inl (cI, 6, .inl v_set)), (h_this_number, .inl (cI, 15625, .inl q_53))]) C (c_Md_addThree h_52) mi_Md_addThree zw_611 (by decide) 0 rfl rfl [0, 1, 3, 2] (by decide) rfl rfl rfl rfl rfl (by decide) ⟨Nat.zero_le _, Nat.zero_le _⟩ d_Md_gate_238 ?_
                      refine z_goto (tgt := 326) C d_Md_gate_241 (by decide) ?_
                      refine z_iconst (v := 1) C d_Md_gate_326 (by decide) ?_
                      cases hf
                      exact z_zret C hr rfl d_Md_gate_327
                    · have hf := zif_neg c_51 hf
                      by_cases c_54 : x1 = 10
                      · have hf := zif_pos c_54 hf
                        refine z_tableIn (tgt := 244) C d_Md_gate_102 (10) c_54 (by decide) (by decide) rfl (by decide) ?_
                        refine z_aload_n C d_Md_gate_244 rfl 0 rfl ?_
                        refine z_iload_n C d_Md_gate_245 rfl 2 rfl ?_
                        refine z_iconst (v := 1) C d_Md_gate_246 (by decide) ?_
                        obtain ⟨q_56, q_57, q_58, q_59, h_55, hf⟩ := zb4_elim hf
                        refine z_callV (As := [.int x2, .int (1 : Int32)]) (rest := []) (ws' := [(h_this, .inr (5, [.int v_thrown, .int v_wires, .int v_isOpen, .int v_isEmpty, .int q_56, .int q_57, .int q_58, .ref h_this_number, .ref h_this_set, .ref h_this_constant, .int v_rules, .ref h_this_ruleKind, .ref h_this_ruleBit, .ref h_this_ruleOther, .int v_alone, .int v_halfBits, .ref h_this_oldSet, .ref h_this_oldNumber, .ref h_this_allSets, .ref h_this_allNumbers, .int v_allMany, .ref h_this_root])), (h_this_constant, .inl (cI, 6, .inl v_constant)), (h_this_set, .inl (cI, 6, .inl v_set)), (h_this_number, .inl (cI, 15625, .inl q_59))]) C (c_Md_newBit h_55) mi_Md_newBit zw_615 (by decide) 0 rfl rfl [0, 1, 3, 2] (by decide) rfl rfl rfl rfl rfl (by decide) ⟨Nat.zero_le _, Nat.zero_le _⟩ d_Md_gate_247 ?_
                        refine z_aload_n C d_Md_gate_250 rfl 0 rfl ?_
                        refine z_get C iw_Md 0 rfl rfl 8 (by decide) zw_506 rfl d_Md_gate_251 ?_
                        refine z_iload_n C d_Md_gate_254 rfl 2 rfl ?_
                        refine z_iconst (v := 1) C d_Md_gate_255 (by decide) ?_
                        refine z_aload_n C d_Md_gate_256 rfl 0 rfl ?_
                        refine z_get C iw_Md 0 rfl rfl 4 (by decide) zw_502 rfl d_Md_gate_257 ?_
                        refine z_iconst (v := 1) C d_Md_gate_260 (by decide) ?_
                        refine z_isub C d_Md_gate_261 ?_
                        refine z_ishl C d_Md_gate_262 ?_
                        obtain ⟨g_60, hf⟩ := zguard hf
                        obtain ⟨u_61, eu_61⟩ : ∃ u : Nat → Int32, u = upd v_set x2.toNatClampNeg ((1 : Int32) <<< ((q_56 - (1 : Int32)) &&& 31)) := ⟨_, rfl⟩
                        have hf := zlet_at eu_61 hf
                        refine z_iast (ws' := [(h_this, .inr (5, [.int v_thrown, .int v_wires, .int v_isOpen, .int v_isEmpty, .int q_56, .int q_57, .int q_58, .ref h_this_number, .ref h_this_set, .ref h_this_constant, .int v_rules, .ref h_this_ruleKind, .ref h_this_ruleBit, .ref h_this_ruleOther, .int v_alone, .int v_halfBits, .ref h_this_oldSet, .ref h_this_oldNumber, .ref h_this_allSets, .ref h_this_allNumbers, .int v_allMany, .ref h_this_root])), (h_this_constant, .inl (cI, 6, .inl v_constant)), (h_this_set, .inl (cI, 6, .inl u_61)), (h_this_number, .inl (cI, 15625, .inl q_59))]) C 2 0 rfl rfl g_60 d_Md_gate_263 (by rw [eu_61]; rfl) ?_
                        refine z_aload_n C d_Md_gate_264 rfl 0 rfl ?_
                        refine z_get C iw_Md 0 rfl rfl 9 (by decide) zw_507 rfl d_Md_gate_265 ?_
                        refine z_iload_n C d_Md_gate_268 rfl 2 rfl ?_
                        refine z_iconst (v := 0) C d_Md_gate_269 (by decide) ?_
                        obtain ⟨g_62, hf⟩ := zguard hf
                        obtain ⟨u_63, eu_63⟩ : ∃ u : Nat → Int32, u = upd v_constant x2.toNatClampNeg (0 : Int32) := ⟨_, rfl⟩
                        have hf := zlet_at eu_63 hf
                        refine z_iast (ws' := [(h_this, .inr (5, [.int v_thrown, .int v_wires, .int v_isOpen, .int v_isEmpty, .int q_56, .int q_57, .int q_58, .ref h_this_number, .ref h_this_set, .ref h_this_constant, .int v_rules, .ref h_this_ruleKind, .ref h_this_ruleBit, .ref h_this_ruleOther, .int v_alone, .int v_halfBits, .ref h_this_oldSet, .ref h_this_oldNumber, .ref h_this_allSets, .ref h_this_allNumbers, .int v_allMany, .ref h_this_root])), (h_this_constant, .inl (cI, 6, .inl u_63)), (h_this_set, .inl (cI, 6, .inl u_61)), (h_this_number, .inl (cI, 15625, .inl q_59))]) C 1 0 rfl rfl g_62 d_Md_gate_270 (by rw [eu_63]; rfl) ?_
                        refine z_goto (tgt := 326) C d_Md_gate_271 (by decide) ?_
                        refine z_iconst (v := 1) C d_Md_gate_326 (by decide) ?_
                        cases hf
                        exact z_zret C hr rfl d_Md_gate_327
                      · have hf := zif_neg c_54 hf
                        by_cases c_64 : x1 = 11
                        · have hf := zif_pos c_64 hf
                          refine z_tableIn (tgt := 274) C d_Md_gate_102 (11) c_64 (by decide) (by decide) rfl (by decide) ?_
                          refine z_aload_n C d_Md_gate_274 rfl 0 rfl ?_
                          refine z_iload_n C d_Md_gate_275 rfl 2 rfl ?_
                          refine z_iconst (v := 2) C d_Md_gate_276 (by decide) ?_
                          obtain ⟨q_66, q_67, q_68, q_69, h_65, hf⟩ := zb4_elim hf
                          refine z_callV (As := [.int x2, .int (2 : Int32)]) (rest := []) (ws' := [(h_this, .inr (5, [.int v_thrown, .int v_wires, .int v_isOpen, .int v_isEmpty, .int q_66, .int q_67, .int q_68, .ref h_this_number, .ref h_this_set, .ref h_this_constant, .int v_rules, .ref h_this_ruleKind, .ref h_this_ruleBit, .ref h_this_ruleOther, .int v_alone, .int v_halfBits, .ref h_this_oldSet, .ref h_this_oldNumber, .ref h_this_allSets, .ref h_this_allNumbers, .int v_allMany, .ref h_this_root])), (h_this_constant, .inl (cI, 6, .inl v_constant)), (h_this_set, .inl (cI, 6, .inl v_set)), (h_this_number, .inl (cI, 15625, .inl q_69))]) C (c_Md_newBit h_65) mi_Md_newBit zw_615 (by decide) 0 rfl rfl [0, 1, 3, 2] (by decide) rfl rfl rfl rfl rfl (by decide) ⟨Nat.zero_le _, Nat.zero_le _⟩ d_Md_gate_277 ?_
                          refine z_goto (tgt := 326) C d_Md_gate_280 (by decide) ?_
                          refine z_iconst (v := 1) C d_Md_gate_326 (by decide) ?_
                          cases hf
                          exact z_zret C hr rfl d_Md_gate_327
                        · have hf := zif_neg c_64 hf
                          by_cases c_70 : x1 = 12
                          · have hf := zif_pos c_70 hf
                            refine z_tableIn (tgt := 283) C d_Md_gate_102 (12) c_70 (by decide) (by decide) rfl (by decide) ?_
                            refine z_aload_n C d_Md_gate_283 rfl 0 rfl ?_
                            refine z_iload_n C d_Md_gate_284 rfl 2 rfl ?_
                            refine z_iconst (v := 2) C d_Md_gate_285 (by decide) ?_
                            obtain ⟨q_72, q_73, q_74, q_75, h_71, hf⟩ := zb4_elim hf
                            refine z_callV (As := [.int x2, .int (2 : Int32)]) (rest := []) (ws' := [(h_this, .inr (5, [.int v_thrown, .int v_wires, .int v_isOpen, .int v_isEmpty, .int q_72, .int q_73, .int q_74, .ref h_this_number, .ref h_this_set, .ref h_this_constant, .int v_rules, .ref h_this_ruleKind, .ref h_this_ruleBit, .ref h_this_ruleOther, .int v_alone, .int v_halfBits, .ref h_this_oldSet, .ref h_this_oldNumber, .ref h_this_allSets, .ref h_this_allNumbers, .int v_allMany, .ref h_this_root])), (h_this_constant, .inl (cI, 6, .inl v_constant)), (h_this_set, .inl (cI, 6, .inl v_set)), (h_this_number, .inl (cI, 15625, .inl q_75))]) C (c_Md_newBit h_71) mi_Md_newBit zw_615 (by decide) 0 rfl rfl [0, 1, 3, 2] (by decide) rfl rfl rfl rfl rfl (by decide) ⟨Nat.zero_le _, Nat.zero_le _⟩ d_Md_gate_286 ?_
                            refine z_aload_n C d_Md_gate_289 rfl 0 rfl ?_
                            refine z_iconst (v := 1) C d_Md_gate_290 (by decide) ?_
                            refine z_aload_n C d_Md_gate_291 rfl 0 rfl ?_
                            refine z_get C iw_Md 0 rfl rfl 4 (by decide) zw_502 rfl d_Md_gate_292 ?_
                            refine z_iconst (v := 1) C d_Md_gate_295 (by decide) ?_
                            refine z_isub C d_Md_gate_296 ?_
                            refine z_ishl C d_Md_gate_297 ?_
                            refine z_iconst (v := 4) C d_Md_gate_298 (by decide) ?_
                            obtain ⟨q_77, h_76, hf⟩ := zb1_elim hf
                            refine z_callV (As := [.int ((1 : Int32) <<< ((q_72 - (1 : Int32)) &&& 31)), .int (4 : Int32)]) (rest := []) (ws' := [(h_this, .inr (5, [.int v_thrown, .int v_wires, .int v_isOpen, .int v_isEmpty, .int q_72, .int q_73, .int q_74, .ref h_this_number, .ref h_this_set, .ref h_this_constant, .int v_rules, .ref h_this_ruleKind, .ref h_this_ruleBit, .ref h_this_ruleOther, .int v_alone, .int v_halfBits, .ref h_this_oldSet, .ref h_this_oldNumber, .ref h_this_allSets, .ref h_this_allNumbers, .int v_allMany, .ref h_this_root])), (h_this_constant, .inl (cI, 6, .inl v_constant)), (h_this_set, .inl (cI, 6, .inl v_set)), (h_this_number, .inl (cI, 15625, .inl q_77))]) C (c_Md_add h_76) mi_Md_add zw_601 (by decide) 0 rfl rfl [0, 3] (by decide) rfl rfl rfl rfl rfl (by decide) ⟨Nat.zero_le _, Nat.zero_le _⟩ d_Md_gate_299 ?_
                            refine z_goto (tgt := 326) C d_Md_gate_302 (by decide) ?_
                            refine z_iconst (v := 1) C d_Md_gate_326 (by decide) ?_
                            cases hf
                            exact z_zret C hr rfl d_Md_gate_327
                          · have hf := zif_neg c_70 hf
                            have nc_1 : ¬ x1.toInt = 0 := zne c_1
                            have nc_5 : ¬ x1.toInt = 1 := zne c_5
                            have nc_14 : ¬ x1.toInt = 2 := zne c_14
                            have nc_18 : ¬ x1.toInt = 3 := zne c_18
                            have nc_24 : ¬ x1.toInt = 4 := zne c_24
                            have nc_30 : ¬ x1.toInt = 5 := zne c_30
                            have nc_36 : ¬ x1.toInt = 6 := zne c_36
                            have nc_42 : ¬ x1.toInt = 7 := zne c_42
                            have nc_48 : ¬ x1.toInt = 8 := zne c_48
                            have nc_51 : ¬ x1.toInt = 9 := zne c_51
                            have nc_54 : ¬ x1.toInt = 10 := zne c_54
                            have nc_64 : ¬ x1.toInt = 11 := zne c_64
                            have nc_70 : ¬ x1.toInt = 12 := zne c_70
                            refine z_tableOut (tgt := 305) C d_Md_gate_102 (by omega) (by decide) ?_
                            refine z_aload_n C d_Md_gate_305 rfl 0 rfl ?_
                            refine z_aload_n C d_Md_gate_306 rfl 0 rfl ?_
                            refine z_get C iw_Md 0 rfl rfl 8 (by decide) zw_506 rfl d_Md_gate_307 ?_
                            refine z_iload_n C d_Md_gate_310 rfl 2 rfl ?_
                            obtain ⟨g_78, hf⟩ := zguard hf
                            refine z_iald C 2 0 rfl rfl g_78 d_Md_gate_311 ?_
                            refine z_aload_n C d_Md_gate_312 rfl 0 rfl ?_
                            refine z_get C iw_Md 0 rfl rfl 9 (by decide) zw_507 rfl d_Md_gate_313 ?_
                            refine z_iload_n C d_Md_gate_316 rfl 2 rfl ?_
                            obtain ⟨g_79, hf⟩ := zguard hf
                            refine z_iald C 1 0 rfl rfl g_79 d_Md_gate_317 ?_
                            refine z_iload_n C d_Md_gate_318 rfl 1 rfl ?_
                            refine z_callS (As := [.int x1]) (rest := [.int (v_constant x2.toNatClampNeg), .int (v_set x2.toNatClampNeg), .ref h_this]) (ws' := [(h_this, .inr (5, [.int v_thrown, .int v_wires, .int v_isOpen, .int v_isEmpty, .int v_came, .int v_there, .int v_halves, .ref h_this_number, .ref h_this_set, .ref h_this_constant, .int v_rules, .ref h_this_ruleKind, .ref h_this_ruleBit, .ref h_this_ruleOther, .int v_alone, .int v_halfBits, .ref h_this_oldSet, .ref h_this_oldNumber, .ref h_this_allSets, .ref h_this_allNumbers, .int v_allMany, .ref h_this_root])), (h_this_constant, .inl (cI, 6, .inl v_constant)), (h_this_set, .inl (cI, 6, .inl v_set)), (h_this_number, .inl (cI, 15625, .inl v_number))]) C (c_Md_eighthsOf rfl) mi_Md_eighthsOf zw_619 (by decide) [] (by decide) rfl rfl rfl rfl rfl (by decide) ⟨Nat.zero_le _, Nat.zero_le _⟩ d_Md_gate_319 ?_
                            refine z_iconst (v := 0) C d_Md_gate_322 (by decide) ?_
                            obtain ⟨q_82, h_81, hf⟩ := zb1_elim hf
                            refine z_callV (As := [.int (v_set x2.toNatClampNeg), .int (v_constant x2.toNatClampNeg), .int (f_Md_eighthsOf x1), .int (0 : Int32)]) (rest := []) (ws' := [(h_this, .inr (5, [.int v_thrown, .int v_wires, .int v_isOpen, .int v_isEmpty, .int v_came, .int v_there, .int v_halves, .ref h_this_number, .ref h_this_set, .ref h_this_constant, .int v_rules, .ref h_this_ruleKind, .ref h_this_ruleBit, .ref h_this_ruleOther, .int v_alone, .int v_halfBits, .ref h_this_oldSet, .ref h_this_oldNumber, .ref h_this_allSets, .ref h_this_allNumbers, .int v_allMany, .ref h_this_root])), (h_this_constant, .inl (cI, 6, .inl v_constant)), (h_this_set, .inl (cI, 6, .inl v_set)), (h_this_number, .inl (cI, 15625, .inl q_82))]) C (c_Md_addOr h_81) mi_Md_addOr zw_622 (by decide) 0 rfl rfl [0, 3] (by decide) rfl rfl rfl rfl rfl (by decide) ⟨Nat.zero_le _, Nat.zero_le _⟩ d_Md_gate_323 ?_
                            refine z_iconst (v := 1) C d_Md_gate_326 (by decide) ?_
                            cases hf
                            exact z_zret C hr rfl d_Md_gate_327
def f_Md_gate_j72 (x1 : Int32) (x2 : Int32) (x3 : Int32) (x4 : Int32) (x5 : Int32) (v_thrown : Int32) (v_wires : Int32) (v_isEmpty : Int32) (v_came : Int32) (v_there : Int32) (v_halves : Int32) (v_constant : Nat → Int32) (v_set : Nat → Int32) (v_number : Nat → Int32) : Option (Int32 × Int32 × Int32 × Int32 × Int32 × (Nat → Int32) × (Nat → Int32) × (Nat → Int32)) :=
  if x5 ≤ (2 : Int32) then (
    f_Md_gate_j101 x1 x2 x3 x4 v_thrown v_wires v_isEmpty v_came v_there v_halves v_constant v_set v_number)
  else (
    if (f_Md_isWire x4 v_wires) = 0 then (
      some ((0 : Int32), v_thrown, v_came, v_there, v_halves, v_constant, v_set, v_number))
    else (
      if x4 = x2 then (
        some ((0 : Int32), v_thrown, v_came, v_there, v_halves, v_constant, v_set, v_number))
      else (
        if x4 = x3 then (
          some ((0 : Int32), v_thrown, v_came, v_there, v_halves, v_constant, v_set, v_number))
        else (
          f_Md_gate_j101 x1 x2 x3 x4 v_thrown v_wires v_isEmpty v_came v_there v_halves v_constant v_set v_number))))
set_option maxRecDepth 100000 in
set_option maxHeartbeats 4000000 in
theorem k_Md_gate_j72 {p : Program} {l : Launch} {e : Env} {s : State} {m : MethodId} {args : Array Value} {below : List Frame} {meth : Method} {c : Code} {D : va_G} {cI cL : ClassId} {h_this h_this_number h_this_set h_this_constant h_this_ruleKind h_this_ruleBit h_this_ruleOther h_this_oldSet h_this_oldNumber h_this_allSets h_this_allNumbers h_this_root : Nat} {v_thrown v_wires v_isOpen v_isEmpty v_came v_there v_halves v_rules v_alone v_halfBits v_allMany rr o_thrown o_came o_there o_halves x1 x2 x3 x4 x5 : Int32} {v_constant v_set v_number o_constant o_set o_number : Nat → Int32}  (C : zC p s m args meth c b_Md_gate 6 R_Md D vwCl [(cI, .int), (cL, .long)] (zA [h_this, h_this_constant, h_this_set, h_this_number] s.heap.size)) (hr : meth.sig.returnType = some .boolean) (hf : f_Md_gate_j72 x1 x2 x3 x4 x5 v_thrown v_wires v_isEmpty v_came v_there v_halves v_constant v_set v_number = some (rr, o_thrown, o_came, o_there, o_halves, o_constant, o_set, o_number)) : ZV p l e rm_Md_gate s m args below meth c 6 D (some (.int rr)) [(h_this, .inr (5, [.int o_thrown, .int v_wires, .int v_isOpen, .int v_isEmpty, .int o_came, .int o_there, .int o_halves, .ref h_this_number, .ref h_this_set, .ref h_this_constant, .int v_rules, .ref h_this_ruleKind, .ref h_this_ruleBit, .ref h_this_ruleOther, .int v_alone, .int v_halfBits, .ref h_this_oldSet, .ref h_this_oldNumber, .ref h_this_allSets, .ref h_this_allNumbers, .int v_allMany, .ref h_this_root])), (h_this_constant, .inl (cI, 6, .inl o_constant)), (h_this_set, .inl (cI, 6, .inl o_set)), (h_this_number, .inl (cI, 15625, .inl o_number))] [h_this, h_this_constant, h_this_set, h_this_number] [(h_this, .inr (5, [.int v_thrown, .int v_wires, .int v_isOpen, .int v_isEmpty, .int v_came, .int v_there, .int v_halves, .ref h_this_number, .ref h_this_set, .ref h_this_constant, .int v_rules, .ref h_this_ruleKind, .ref h_this_ruleBit, .ref h_this_ruleOther, .int v_alone, .int v_halfBits, .ref h_this_oldSet, .ref h_this_oldNumber, .ref h_this_allSets, .ref h_this_allNumbers, .int v_allMany, .ref h_this_root])), (h_this_constant, .inl (cI, 6, .inl v_constant)), (h_this_set, .inl (cI, 6, .inl v_set)), (h_this_number, .inl (cI, 15625, .inl v_number))] 72 [(0, .ref h_this), (1, .int x1), (2, .int x2), (3, .int x3), (4, .int x4), (5, .int x5)] [] := by
  unfold f_Md_gate_j72 at hf
  refine z_iload C d_Md_gate_72 5 rfl ?_
  refine z_iconst (v := 2) C d_Md_gate_74 (by decide) ?_
  refine z_icmp_le (tgt := 101) C d_Md_gate_75 (by decide) (fun c_1 => ?_) (fun c_1 => ?_)
  · have hf := zif_pos c_1 hf
    refine z_lv [0, 1, 2, 3, 4] rfl ?_
    exact k_Md_gate_j101 C hr hf
  · have hf := zif_neg c_1 hf
    refine z_aload_n C d_Md_gate_78 rfl 0 rfl ?_
    refine z_iload C d_Md_gate_79 4 rfl ?_
    refine z_callV (As := [.int x4]) (rest := []) (ws' := [(h_this, .inr (5, [.int v_thrown, .int v_wires, .int v_isOpen, .int v_isEmpty, .int v_came, .int v_there, .int v_halves, .ref h_this_number, .ref h_this_set, .ref h_this_constant, .int v_rules, .ref h_this_ruleKind, .ref h_this_ruleBit, .ref h_this_ruleOther, .int v_alone, .int v_halfBits, .ref h_this_oldSet, .ref h_this_oldNumber, .ref h_this_allSets, .ref h_this_allNumbers, .int v_allMany, .ref h_this_root])), (h_this_constant, .inl (cI, 6, .inl v_constant)), (h_this_set, .inl (cI, 6, .inl v_set)), (h_this_number, .inl (cI, 15625, .inl v_number))]) C (c_Md_isWire rfl) mi_Md_isWire zw_585 (by decide) 0 rfl rfl [0] (by decide) rfl rfl rfl rfl rfl (by decide) ⟨Nat.zero_le _, Nat.zero_le _⟩ d_Md_gate_81 ?_
    refine z_if_eq (tgt := 99) C d_Md_gate_84 (by decide) (fun c_3 => ?_) (fun c_3 => ?_)
    · have hf := zif_pos c_3 hf
      refine z_iconst (v := 0) C d_Md_gate_99 (by decide) ?_
      cases hf
      exact z_zret C hr rfl d_Md_gate_100
    · have hf := zif_neg c_3 hf
      refine z_iload C d_Md_gate_87 4 rfl ?_
      refine z_iload_n C d_Md_gate_89 rfl 2 rfl ?_
      refine z_icmp_eq (tgt := 99) C d_Md_gate_90 (by decide) (fun c_4 => ?_) (fun c_4 => ?_)
      · have hf := zif_pos c_4 hf
        refine z_iconst (v := 0) C d_Md_gate_99 (by decide) ?_
        cases hf
        exact z_zret C hr rfl d_Md_gate_100
      · have hf := zif_neg c_4 hf
        refine z_iload C d_Md_gate_93 4 rfl ?_
        refine z_iload_n C d_Md_gate_95 rfl 3 rfl ?_
        refine z_icmp_ne (tgt := 101) C d_Md_gate_96 (by decide) (fun c_5 => ?_) (fun c_5 => ?_)
        · have hf := zif_neg c_5 hf
          refine z_lv [0, 1, 2, 3, 4] rfl ?_
          exact k_Md_gate_j101 C hr hf
        · have hf := zif_pos c_5 hf
          refine z_iconst (v := 0) C d_Md_gate_99 (by decide) ?_
          cases hf
          exact z_zret C hr rfl d_Md_gate_100
def f_Md_gate_j39 (x1 : Int32) (x2 : Int32) (x3 : Int32) (x4 : Int32) (v_thrown : Int32) (v_wires : Int32) (v_isEmpty : Int32) (v_came : Int32) (v_there : Int32) (v_halves : Int32) (v_constant : Nat → Int32) (v_set : Nat → Int32) (v_number : Nat → Int32) : Option (Int32 × Int32 × Int32 × Int32 × Int32 × (Nat → Int32) × (Nat → Int32) × (Nat → Int32)) :=
  zlet (f_Md_wiresOf x1) fun y_2 =>
  if (f_Md_isWire x2 v_wires) = 0 then (
    some ((0 : Int32), v_thrown, v_came, v_there, v_halves, v_constant, v_set, v_number))
  else (
    if y_2 ≤ (1 : Int32) then (
      f_Md_gate_j72 x1 x2 x3 x4 y_2 v_thrown v_wires v_isEmpty v_came v_there v_halves v_constant v_set v_number)
    else (
      if (f_Md_isWire x3 v_wires) = 0 then (
        some ((0 : Int32), v_thrown, v_came, v_there, v_halves, v_constant, v_set, v_number))
      else (
        if x2 = x3 then (
          some ((0 : Int32), v_thrown, v_came, v_there, v_halves, v_constant, v_set, v_number))
        else (
          f_Md_gate_j72 x1 x2 x3 x4 y_2 v_thrown v_wires v_isEmpty v_came v_there v_halves v_constant v_set v_number))))
set_option maxRecDepth 100000 in
set_option maxHeartbeats 4000000 in
theorem k_Md_gate_j39 {p : Program} {l : Launch} {e : Env} {s : State} {m : MethodId} {args : Array Value} {below : List Frame} {meth : Method} {c : Code} {D : va_G} {cI cL : ClassId} {h_this h_this_number h_this_set h_this_constant h_this_ruleKind h_this_ruleBit h_this_ruleOther h_this_oldSet h_this_oldNumber h_this_allSets h_this_allNumbers h_this_root : Nat} {v_thrown v_wires v_isOpen v_isEmpty v_came v_there v_halves v_rules v_alone v_halfBits v_allMany rr o_thrown o_came o_there o_halves x1 x2 x3 x4 : Int32} {v_constant v_set v_number o_constant o_set o_number : Nat → Int32}  (C : zC p s m args meth c b_Md_gate 6 R_Md D vwCl [(cI, .int), (cL, .long)] (zA [h_this, h_this_constant, h_this_set, h_this_number] s.heap.size)) (hr : meth.sig.returnType = some .boolean) (hf : f_Md_gate_j39 x1 x2 x3 x4 v_thrown v_wires v_isEmpty v_came v_there v_halves v_constant v_set v_number = some (rr, o_thrown, o_came, o_there, o_halves, o_constant, o_set, o_number)) : ZV p l e rm_Md_gate s m args below meth c 6 D (some (.int rr)) [(h_this, .inr (5, [.int o_thrown, .int v_wires, .int v_isOpen, .int v_isEmpty, .int o_came, .int o_there, .int o_halves, .ref h_this_number, .ref h_this_set, .ref h_this_constant, .int v_rules, .ref h_this_ruleKind, .ref h_this_ruleBit, .ref h_this_ruleOther, .int v_alone, .int v_halfBits, .ref h_this_oldSet, .ref h_this_oldNumber, .ref h_this_allSets, .ref h_this_allNumbers, .int v_allMany, .ref h_this_root])), (h_this_constant, .inl (cI, 6, .inl o_constant)), (h_this_set, .inl (cI, 6, .inl o_set)), (h_this_number, .inl (cI, 15625, .inl o_number))] [h_this, h_this_constant, h_this_set, h_this_number] [(h_this, .inr (5, [.int v_thrown, .int v_wires, .int v_isOpen, .int v_isEmpty, .int v_came, .int v_there, .int v_halves, .ref h_this_number, .ref h_this_set, .ref h_this_constant, .int v_rules, .ref h_this_ruleKind, .ref h_this_ruleBit, .ref h_this_ruleOther, .int v_alone, .int v_halfBits, .ref h_this_oldSet, .ref h_this_oldNumber, .ref h_this_allSets, .ref h_this_allNumbers, .int v_allMany, .ref h_this_root])), (h_this_constant, .inl (cI, 6, .inl v_constant)), (h_this_set, .inl (cI, 6, .inl v_set)), (h_this_number, .inl (cI, 15625, .inl v_number))] 39 [(0, .ref h_this), (1, .int x1), (2, .int x2), (3, .int x3), (4, .int x4)] [] := by
  unfold f_Md_gate_j39 at hf
  refine z_iload_n C d_Md_gate_39 rfl 1 rfl ?_
  refine z_callS (As := [.int x1]) (rest := []) (ws' := [(h_this, .inr (5, [.int v_thrown, .int v_wires, .int v_isOpen, .int v_isEmpty, .int v_came, .int v_there, .int v_halves, .ref h_this_number, .ref h_this_set, .ref h_this_constant, .int v_rules, .ref h_this_ruleKind, .ref h_this_ruleBit, .ref h_this_ruleOther, .int v_alone, .int v_halfBits, .ref h_this_oldSet, .ref h_this_oldNumber, .ref h_this_allSets, .ref h_this_allNumbers, .int v_allMany, .ref h_this_root])), (h_this_constant, .inl (cI, 6, .inl v_constant)), (h_this_set, .inl (cI, 6, .inl v_set)), (h_this_number, .inl (cI, 15625, .inl v_number))]) C (c_Md_wiresOf rfl) mi_Md_wiresOf zw_582 (by decide) [] (by decide) rfl rfl rfl rfl rfl (by decide) ⟨Nat.zero_le _, Nat.zero_le _⟩ d_Md_gate_40 ?_
  refine z_topi (fun y_2 ey_2 => ?_)
  have hf := zlet_at ey_2 hf
  refine z_istore (lv' := [(5, .int y_2), (0, .ref h_this), (1, .int x1), (2, .int x2), (3, .int x3), (4, .int x4)]) C d_Md_gate_43 (by decide) rfl ?_
  refine z_aload_n C d_Md_gate_45 rfl 1 rfl ?_
  refine z_iload_n C d_Md_gate_46 rfl 3 rfl ?_
  refine z_callV (As := [.int x2]) (rest := []) (ws' := [(h_this, .inr (5, [.int v_thrown, .int v_wires, .int v_isOpen, .int v_isEmpty, .int v_came, .int v_there, .int v_halves, .ref h_this_number, .ref h_this_set, .ref h_this_constant, .int v_rules, .ref h_this_ruleKind, .ref h_this_ruleBit, .ref h_this_ruleOther, .int v_alone, .int v_halfBits, .ref h_this_oldSet, .ref h_this_oldNumber, .ref h_this_allSets, .ref h_this_allNumbers, .int v_allMany, .ref h_this_root])), (h_this_constant, .inl (cI, 6, .inl v_constant)), (h_this_set, .inl (cI, 6, .inl v_set)), (h_this_number, .inl (cI, 15625, .inl v_number))]) C (c_Md_isWire rfl) mi_Md_isWire zw_585 (by decide) 0 rfl rfl [0] (by decide) rfl rfl rfl rfl rfl (by decide) ⟨Nat.zero_le _, Nat.zero_le _⟩ d_Md_gate_47 ?_
  refine z_if_eq (tgt := 99) C d_Md_gate_50 (by decide) (fun c_4 => ?_) (fun c_4 => ?_)
  · have hf := zif_pos c_4 hf
    refine z_iconst (v := 0) C d_Md_gate_99 (by decide) ?_
    cases hf
    exact z_zret C hr rfl d_Md_gate_100
  · have hf := zif_neg c_4 hf
    refine z_iload C d_Md_gate_53 0 rfl ?_
    refine z_iconst (v := 1) C d_Md_gate_55 (by decide) ?_
    refine z_icmp_le (tgt := 72) C d_Md_gate_56 (by decide) (fun c_5 => ?_) (fun c_5 => ?_)
    · have hf := zif_pos c_5 hf
      refine z_lv [1, 2, 3, 4, 5, 0] rfl ?_
      exact k_Md_gate_j72 C hr hf
    · have hf := zif_neg c_5 hf
      refine z_aload_n C d_Md_gate_59 rfl 1 rfl ?_
      refine z_iload_n C d_Md_gate_60 rfl 4 rfl ?_
      refine z_callV (As := [.int x3]) (rest := []) (ws' := [(h_this, .inr (5, [.int v_thrown, .int v_wires, .int v_isOpen, .int v_isEmpty, .int v_came, .int v_there, .int v_halves, .ref h_this_number, .ref h_this_set, .ref h_this_constant, .int v_rules, .ref h_this_ruleKind, .ref h_this_ruleBit, .ref h_this_ruleOther, .int v_alone, .int v_halfBits, .ref h_this_oldSet, .ref h_this_oldNumber, .ref h_this_allSets, .ref h_this_allNumbers, .int v_allMany, .ref h_this_root])), (h_this_constant, .inl (cI, 6, .inl v_constant)), (h_this_set, .inl (cI, 6, .inl v_set)), (h_this_number, .inl (cI, 15625, .inl v_number))]) C (c_Md_isWire rfl) mi_Md_isWire zw_585 (by decide) 0 rfl rfl [0] (by decide) rfl rfl rfl rfl rfl (by decide) ⟨Nat.zero_le _, Nat.zero_le _⟩ d_Md_gate_61 ?_
      refine z_if_eq (tgt := 99) C d_Md_gate_64 (by decide) (fun c_7 => ?_) (fun c_7 => ?_)
      · have hf := zif_pos c_7 hf
        refine z_iconst (v := 0) C d_Md_gate_99 (by decide) ?_
        cases hf
        exact z_zret C hr rfl d_Md_gate_100
      · have hf := zif_neg c_7 hf
        refine z_iload_n C d_Md_gate_67 rfl 3 rfl ?_
        refine z_iload_n C d_Md_gate_68 rfl 4 rfl ?_
        refine z_icmp_eq (tgt := 99) C d_Md_gate_69 (by decide) (fun c_8 => ?_) (fun c_8 => ?_)
        · have hf := zif_pos c_8 hf
          refine z_iconst (v := 0) C d_Md_gate_99 (by decide) ?_
          cases hf
          exact z_zret C hr rfl d_Md_gate_100
        · have hf := zif_neg c_8 hf
          refine z_lv [1, 2, 3, 4, 5, 0] rfl ?_
          exact k_Md_gate_j72 C hr hf
/-- PathSumsModel.gate(IIII)Z -/
def f_Md_gate (x1 : Int32) (x2 : Int32) (x3 : Int32) (x4 : Int32) (v_thrown : Int32) (v_wires : Int32) (v_isEmpty : Int32) (v_came : Int32) (v_there : Int32) (v_halves : Int32) (v_constant : Nat → Int32) (v_set : Nat → Int32) (v_number : Nat → Int32) : Option (Int32 × Int32 × Int32 × Int32 × Int32 × (Nat → Int32) × (Nat → Int32) × (Nat → Int32)) :=
  if x1 < 0 then (
    some ((0 : Int32), (0 : Int32), v_came, v_there, v_halves, v_constant, v_set, v_number))
  else (
    if (12 : Int32) < x1 then (
      some ((0 : Int32), (0 : Int32), v_came, v_there, v_halves, v_constant, v_set, v_number))
    else (
      if v_isEmpty = 0 then (
        if x1 ≤ (9 : Int32) then (
          f_Md_gate_j39 x1 x2 x3 x4 (0 : Int32) v_wires v_isEmpty v_came v_there v_halves v_constant v_set v_number)
        else (
          if v_came = (24 : Int32) then (
            some ((0 : Int32), (0 : Int32), v_came, v_there, v_halves, v_constant, v_set, v_number))
          else (
            f_Md_gate_j39 x1 x2 x3 x4 (0 : Int32) v_wires v_isEmpty v_came v_there v_halves v_constant v_set v_number)))
      else (
        some ((0 : Int32), (0 : Int32), v_came, v_there, v_halves, v_constant, v_set, v_number))))
set_option maxRecDepth 100000 in
set_option maxHeartbeats 4000000 in
theorem k_Md_gate {p : Program} {l : Launch} {e : Env} {s : State} {m : MethodId} {args : Array Value} {below : List Frame} {meth : Method} {c : Code} {D : va_G} {cI cL : ClassId} {h_this h_this_number h_this_set h_this_constant h_this_ruleKind h_this_ruleBit h_this_ruleOther h_this_oldSet h_this_oldNumber h_this_allSets h_this_allNumbers h_this_root : Nat} {v_thrown v_wires v_isOpen v_isEmpty v_came v_there v_halves v_rules v_alone v_halfBits v_allMany rr o_thrown o_came o_there o_halves x1 x2 x3 x4 : Int32} {v_constant v_set v_number o_constant o_set o_number : Nat → Int32} (C : zC p s m args meth c b_Md_gate 6 R_Md D vwCl [(cI, .int), (cL, .long)] (zA [h_this, h_this_constant, h_this_set, h_this_number] s.heap.size)) (hr : meth.sig.returnType = some .boolean) (hf : f_Md_gate x1 x2 x3 x4 v_thrown v_wires v_isEmpty v_came v_there v_halves v_constant v_set v_number = some (rr, o_thrown, o_came, o_there, o_halves, o_constant, o_set, o_number)) : ZV p l e rm_Md_gate s m args below meth c 6 D (some (.int rr)) [(h_this, .inr (5, [.int o_thrown, .int v_wires, .int v_isOpen, .int v_isEmpty, .int o_came, .int o_there, .int o_halves, .ref h_this_number, .ref h_this_set, .ref h_this_constant, .int v_rules, .ref h_this_ruleKind, .ref h_this_ruleBit, .ref h_this_ruleOther, .int v_alone, .int v_halfBits, .ref h_this_oldSet, .ref h_this_oldNumber, .ref h_this_allSets, .ref h_this_allNumbers, .int v_allMany, .ref h_this_root])), (h_this_constant, .inl (cI, 6, .inl o_constant)), (h_this_set, .inl (cI, 6, .inl o_set)), (h_this_number, .inl (cI, 15625, .inl o_number))] [h_this, h_this_constant, h_this_set, h_this_number] [(h_this, .inr (5, [.int v_thrown, .int v_wires, .int v_isOpen, .int v_isEmpty, .int v_came, .int v_there, .int v_halves, .ref h_this_number, .ref h_this_set, .ref h_this_constant, .int v_rules, .ref h_this_ruleKind, .ref h_this_ruleBit, .ref h_this_ruleOther, .int v_alone, .int v_halfBits, .ref h_this_oldSet, .ref h_this_oldNumber, .ref h_this_allSets, .ref h_this_allNumbers, .int v_allMany, .ref h_this_root])), (h_this_constant, .inl (cI, 6, .inl v_constant)), (h_this_set, .inl (cI, 6, .inl v_set)), (h_this_number, .inl (cI, 15625, .inl v_number))] 0 [(0, .ref h_this), (1, .int x1), (2, .int x2), (3, .int x3), (4, .int x4)] [] := by
  unfold f_Md_gate at hf
  refine z_aload_n C d_Md_gate_0 rfl 0 rfl ?_
  refine z_iconst (v := 0) C d_Md_gate_1 (by decide) ?_
  refine z_put (ws' := [(h_this, .inr (5, [.int (0 : Int32), .int v_wires, .int v_isOpen, .int v_isEmpty, .int v_came, .int v_there, .int v_halves, .ref h_this_number, .ref h_this_set, .ref h_this_constant, .int v_rules, .ref h_this_ruleKind, .ref h_this_ruleBit, .ref h_this_ruleOther, .int v_alone, .int v_halfBits, .ref h_this_oldSet, .ref h_this_oldNumber, .ref h_this_allSets, .ref h_this_allNumbers, .int v_allMany, .ref h_this_root])), (h_this_constant, .inl (cI, 6, .inl v_constant)), (h_this_set, .inl (cI, 6, .inl v_set)), (h_this_number, .inl (cI, 15625, .inl v_number))]) C iw_Md t_Md t_Md_ok n_Md 0 rfl rfl 0 (by decide) zw_498 rfl (ty := .int) rfl rfl rfl (by simp) d_Md_gate_2 rfl ?_
  refine z_iload_n C d_Md_gate_5 rfl 1 rfl ?_
  refine z_if_lt (tgt := 37) C d_Md_gate_6 (by decide) (fun c_1 => ?_) (fun c_1 => ?_)
  · have hf := zif_pos c_1 hf
    refine z_iconst (v := 0) C d_Md_gate_37 (by decide) ?_
    cases hf
    exact z_zret C hr rfl d_Md_gate_38
  · have hf := zif_neg c_1 hf
    refine z_iload_n C d_Md_gate_9 rfl 1 rfl ?_
    refine z_bipush (v := 12) C d_Md_gate_10 (by decide) ?_
    refine z_icmp_gt (tgt := 37) C d_Md_gate_12 (by decide) (fun c_2 => ?_) (fun c_2 => ?_)
    · have hf := zif_pos c_2 hf
      refine z_iconst (v := 0) C d_Md_gate_37 (by decide) ?_
      cases hf
      exact z_zret C hr rfl d_Md_gate_38
    · have hf := zif_neg c_2 hf
      refine z_aload_n C d_Md_gate_15 rfl 0 rfl ?_
      refine z_get C iw_Md 0 rfl rfl 3 (by decide) zw_501 rfl d_Md_gate_16 ?_
      refine z_if_ne (tgt := 37) C d_Md_gate_19 (by decide) (fun c_3 => ?_) (fun c_3 => ?_)
      · have hf := zif_neg c_3 hf
        refine z_iconst (v := 0) C d_Md_gate_37 (by decide) ?_
        cases hf
        exact z_zret C hr rfl d_Md_gate_38
      · have hf := zif_pos c_3 hf
        refine z_iload_n C d_Md_gate_22 rfl 1 rfl ?_
        refine z_bipush (v := 9) C d_Md_gate_23 (by decide) ?_
        refine z_icmp_le (tgt := 39) C d_Md_gate_25 (by decide) (fun c_4 => ?_) (fun c_4 => ?_)
        · have hf := zif_pos c_4 hf
          exact k_Md_gate_j39 C hr hf
        · have hf := zif_neg c_4 hf
          refine z_aload_n C d_Md_gate_28 rfl 0 rfl ?_
          refine z_get C iw_Md 0 rfl rfl 4 (by decide) zw_502 rfl d_Md_gate_29 ?_
          refine z_bipush (v := 24) C d_Md_gate_32 (by decide) ?_
          refine z_icmp_ne (tgt := 39) C d_Md_gate_34 (by decide) (fun c_5 => ?_) (fun c_5 => ?_)
          · have hf := zif_neg c_5 hf
            exact k_Md_gate_j39 C hr hf
          · have hf := zif_pos c_5 hf
            refine z_iconst (v := 0) C d_Md_gate_37 (by decide) ?_
            cases hf
            exact z_zret C hr rfl d_Md_gate_38
theorem c_Md_gate {l : Launch} {D : va_G} {cI cL : ClassId} {h_this h_this_number h_this_set h_this_constant h_this_ruleKind h_this_ruleBit h_this_ruleOther h_this_oldSet h_this_oldNumber h_this_allSets h_this_allNumbers h_this_root : Nat} {v_thrown v_wires v_isOpen v_isEmpty v_came v_there v_halves v_rules v_alone v_halfBits v_allMany rr o_thrown o_came o_there o_halves x1 x2 x3 x4 : Int32} {v_constant v_set v_number o_constant o_set o_number : Nat → Int32} (hf : f_Md_gate x1 x2 x3 x4 v_thrown v_wires v_isEmpty v_came v_there v_halves v_constant v_set v_number = some (rr, o_thrown, o_came, o_there, o_halves, o_constant, o_set, o_number)) : zM l y_Md_gate (Cond.code y_Md_gate b_Md_gate 6 (some .boolean) :: zT) rm_Md_gate D vwCl [(cI, .int), (cL, .long)] [.ref h_this, .int x1, .int x2, .int x3, .int x4] [(h_this, .inr (5, [.int v_thrown, .int v_wires, .int v_isOpen, .int v_isEmpty, .int v_came, .int v_there, .int v_halves, .ref h_this_number, .ref h_this_set, .ref h_this_constant, .int v_rules, .ref h_this_ruleKind, .ref h_this_ruleBit, .ref h_this_ruleOther, .int v_alone, .int v_halfBits, .ref h_this_oldSet, .ref h_this_oldNumber, .ref h_this_allSets, .ref h_this_allNumbers, .int v_allMany, .ref h_this_root])), (h_this_constant, .inl (cI, 6, .inl v_constant)), (h_this_set, .inl (cI, 6, .inl v_set)), (h_this_number, .inl (cI, 15625, .inl v_number))] [(h_this, .inr (5, [.int o_thrown, .int v_wires, .int v_isOpen, .int v_isEmpty, .int o_came, .int o_there, .int o_halves, .ref h_this_number, .ref h_this_set, .ref h_this_constant, .int v_rules, .ref h_this_ruleKind, .ref h_this_ruleBit, .ref h_this_ruleOther, .int v_alone, .int v_halfBits, .ref h_this_oldSet, .ref h_this_oldNumber, .ref h_this_allSets, .ref h_this_allNumbers, .int v_allMany, .ref h_this_root])), (h_this_constant, .inl (cI, 6, .inl o_constant)), (h_this_set, .inl (cI, 6, .inl o_set)), (h_this_number, .inl (cI, 15625, .inl o_number))] (some (.int rr)) :=
  zM.intro (by decide) rfl (fun _ h => List.mem_cons_of_mem _ h) (Nat.le_of_ble_eq_true rfl) (fun _ _ _ _ _ _ _ C hr _ => k_Md_gate C hr hf)
def rm_Md_inputs : Room := { frames := 0, cells := 0, slots := 0, locals := 0 }
/-- PathSumsModel.inputs()I -/
def f_Md_inputs (v_wires : Int32) (v_isOpen : Int32) : Int32 :=
  if v_isOpen = 0 then (
    (0 : Int32))
  else (
    ((1 : Int32) <<< (v_wires &&& 31)) - (1 : Int32))
set_option maxRecDepth 100000 in
set_option maxHeartbeats 4000000 in
theorem k_Md_inputs {p : Program} {l : Launch} {e : Env} {s : State} {m : MethodId} {args : Array Value} {below : List Frame} {meth : Method} {c : Code} {D : va_G} {cI cL : ClassId} {h_this h_this_number h_this_set h_this_constant h_this_ruleKind h_this_ruleBit h_this_ruleOther h_this_oldSet h_this_oldNumber h_this_allSets h_this_allNumbers h_this_root : Nat} {v_thrown v_wires v_isOpen v_isEmpty v_came v_there v_halves v_rules v_alone v_halfBits v_allMany rr : Int32} (C : zC p s m args meth c b_Md_inputs 1 R_Md D vwCl [(cI, .int), (cL, .long)] (zA [h_this] s.heap.size)) (hr : meth.sig.returnType = some .int) (hf : f_Md_inputs v_wires v_isOpen = rr) : ZV p l e rm_Md_inputs s m args below meth c 1 D (some (.int rr)) [(h_this, .inr (5, [.int v_thrown, .int v_wires, .int v_isOpen, .int v_isEmpty, .int v_came, .int v_there, .int v_halves, .ref h_this_number, .ref h_this_set, .ref h_this_constant, .int v_rules, .ref h_this_ruleKind, .ref h_this_ruleBit, .ref h_this_ruleOther, .int v_alone, .int v_halfBits, .ref h_this_oldSet, .ref h_this_oldNumber, .ref h_this_allSets, .ref h_this_allNumbers, .int v_allMany, .ref h_this_root]))] [h_this] [(h_this, .inr (5, [.int v_thrown, .int v_wires, .int v_isOpen, .int v_isEmpty, .int v_came, .int v_there, .int v_halves, .ref h_this_number, .ref h_this_set, .ref h_this_constant, .int v_rules, .ref h_this_ruleKind, .ref h_this_ruleBit, .ref h_this_ruleOther, .int v_alone, .int v_halfBits, .ref h_this_oldSet, .ref h_this_oldNumber, .ref h_this_allSets, .ref h_this_allNumbers, .int v_allMany, .ref h_this_root]))] 0 [(0, .ref h_this)] [] := by
  unfold f_Md_inputs at hf
  refine z_aload_n C d_Md_inputs_0 rfl 0 rfl ?_
  refine z_get C iw_Md 0 rfl rfl 2 (by decide) zw_500 rfl d_Md_inputs_1 ?_
  refine z_if_eq (tgt := 18) C d_Md_inputs_4 (by decide) (fun c_1 => ?_) (fun c_1 => ?_)
  · have hf := zif_pos c_1 hf
    refine z_iconst (v := 0) C d_Md_inputs_18 (by decide) ?_
    subst hf
    exact z_iret C hr d_Md_inputs_19
  · have hf := zif_neg c_1 hf
    refine z_iconst (v := 1) C d_Md_inputs_7 (by decide) ?_
    refine z_aload_n C d_Md_inputs_8 rfl 0 rfl ?_
    refine z_get C iw_Md 0 rfl rfl 1 (by decide) zw_499 rfl d_Md_inputs_9 ?_
    refine z_ishl C d_Md_inputs_12 ?_
    refine z_iconst (v := 1) C d_Md_inputs_13 (by decide) ?_
    refine z_isub C d_Md_inputs_14 ?_
    refine z_goto (tgt := 19) C d_Md_inputs_15 (by decide) ?_
    subst hf
    exact z_iret C hr d_Md_inputs_19
theorem c_Md_inputs {l : Launch} {D : va_G} {cI cL : ClassId} {h_this h_this_number h_this_set h_this_constant h_this_ruleKind h_this_ruleBit h_this_ruleOther h_this_oldSet h_this_oldNumber h_this_allSets h_this_allNumbers h_this_root : Nat} {v_thrown v_wires v_isOpen v_isEmpty v_came v_there v_halves v_rules v_alone v_halfBits v_allMany rr : Int32} (hf : f_Md_inputs v_wires v_isOpen = rr) : zM l y_Md_inputs (Cond.code y_Md_inputs b_Md_inputs 1 (some .int) :: zT) rm_Md_inputs D vwCl [(cI, .int), (cL, .long)] [.ref h_this] [(h_this, .inr (5, [.int v_thrown, .int v_wires, .int v_isOpen, .int v_isEmpty, .int v_came, .int v_there, .int v_halves, .ref h_this_number, .ref h_this_set, .ref h_this_constant, .int v_rules, .ref h_this_ruleKind, .ref h_this_ruleBit, .ref h_this_ruleOther, .int v_alone, .int v_halfBits, .ref h_this_oldSet, .ref h_this_oldNumber, .ref h_this_allSets, .ref h_this_allNumbers, .int v_allMany, .ref h_this_root]))] [(h_this, .inr (5, [.int v_thrown, .int v_wires, .int v_isOpen, .int v_isEmpty, .int v_came, .int v_there, .int v_halves, .ref h_this_number, .ref h_this_set, .ref h_this_constant, .int v_rules, .ref h_this_ruleKind, .ref h_this_ruleBit, .ref h_this_ruleOther, .int v_alone, .int v_halfBits, .ref h_this_oldSet, .ref h_this_oldNumber, .ref h_this_allSets, .ref h_this_allNumbers, .int v_allMany, .ref h_this_root]))] (some (.int rr)) :=
  zM.intro (by decide) rfl (fun _ h => List.mem_cons_of_mem _ h) (Nat.le_of_ble_eq_true rfl) (fun _ _ _ _ _ _ _ C hr _ => k_Md_inputs C hr hf)
def rm_Md_isHidden : Room := { frames := 1, cells := 0, slots := 0, locals := 20 }
def f_Md_isHidden_l27 (x1 : Int32) (v_wires : Int32) (v_isOpen : Int32) (v_there : Int32) (v_set : Nat → Int32) (x2 : Int32) : Option ((Int32) ⊕ ((Unit) ⊕ (Int32))) :=
  if v_wires ≤ x2 then (
    some (.inr (.inl ())))
  else (
    if x2 < 0 ∨ 6 ≤ x2.toNatClampNeg then none else
    if (((v_set x2.toNatClampNeg) >>> (x1 &&& 31)) &&& (1 : Int32)) = (1 : Int32) then (
      some (.inr (.inr (0 : Int32))))
    else (
      zlet (x2 + 1) fun y_4 =>
      some (.inl (y_4))))
set_option maxRecDepth 100000 in
set_option maxHeartbeats 4000000 in
theorem k_Md_isHidden_l27 {p : Program} {l : Launch} {e : Env} {s : State} {m : MethodId} {args : Array Value} {below : List Frame} {meth : Method} {c : Code} {D : va_G} {cI cL : ClassId} {h_this h_this_number h_this_set h_this_constant h_this_ruleKind h_this_ruleBit h_this_ruleOther h_this_oldSet h_this_oldNumber h_this_allSets h_this_allNumbers h_this_root : Nat} {v_thrown v_wires v_isOpen v_isEmpty v_came v_there v_halves v_rules v_alone v_halfBits v_allMany rr x1 x2 : Int32} {v_set : Nat → Int32} (C : zC p s m args meth c b_Md_isHidden 3 R_Md D vwCl [(cI, .int), (cL, .long)] (zA [h_this, h_this_set] s.heap.size)) (hr : meth.sig.returnType = some .boolean) {z : (Int32) ⊕ ((Unit) ⊕ (Int32))} (hf : f_Md_isHidden_l27 x1 v_wires v_isOpen v_there v_set x2 = some z) (hK : zcase (fun q => ZV p l e rm_Md_isHidden s m args below meth c 3 D (some (.int rr)) [(h_this, .inr (5, [.int v_thrown, .int v_wires, .int v_isOpen, .int v_isEmpty, .int v_came, .int v_there, .int v_halves, .ref h_this_number, .ref h_this_set, .ref h_this_constant, .int v_rules, .ref h_this_ruleKind, .ref h_this_ruleBit, .ref h_this_ruleOther, .int v_alone, .int v_halfBits, .ref h_this_oldSet, .ref h_this_oldNumber, .ref h_this_allSets, .ref h_this_allNumbers, .int v_allMany, .ref h_this_root])), (h_this_set, .inl (cI, 6, .inl v_set))] [h_this, h_this_set] [(h_this, .inr (5, [.int v_thrown, .int v_wires, .int v_isOpen, .int v_isEmpty, .int v_came, .int v_there, .int v_halves, .ref h_this_number, .ref h_this_set, .ref h_this_constant, .int v_rules, .ref h_this_ruleKind, .ref h_this_ruleBit, .ref h_this_ruleOther, .int v_alone, .int v_halfBits, .ref h_this_oldSet, .ref h_this_oldNumber, .ref h_this_allSets, .ref h_this_allNumbers, .int v_allMany, .ref h_this_root])), (h_this_set, .inl (cI, 6, .inl v_set))] 27 [(0, .ref h_this), (1, .int x1), (2, .int q)] []) (zcase (fun q => ZV p l e rm_Md_isHidden s m args below meth c 3 D (some (.int rr)) [(h_this, .inr (5, [.int v_thrown, .int v_wires, .int v_isOpen, .int v_isEmpty, .int v_came, .int v_there, .int v_halves, .ref h_this_number, .ref h_this_set, .ref h_this_constant, .int v_rules, .ref h_this_ruleKind, .ref h_this_ruleBit, .ref h_this_ruleOther, .int v_alone, .int v_halfBits, .ref h_this_oldSet, .ref h_this_oldNumber, .ref h_this_allSets, .ref h_this_allNumbers, .int v_allMany, .ref h_this_root])), (h_this_set, .inl (cI, 6, .inl v_set))] [h_this, h_this_set] [(h_this, .inr (5, [.int v_thrown, .int v_wires, .int v_isOpen, .int v_isEmpty, .int v_came, .int v_there, .int v_halves, .ref h_this_number, .ref h_this_set, .ref h_this_constant, .int v_rules, .ref h_this_ruleKind, .ref h_this_ruleBit, .ref h_this_ruleOther, .int v_alone, .int v_halfBits, .ref h_this_oldSet, .ref h_this_oldNumber, .ref h_this_allSets, .ref h_this_allNumbers, .int v_allMany, .ref h_this_root])), (h_this_set, .inl (cI, 6, .inl v_set))] 57 [] []) (fun w => w = rr)) z) : ZV p l e rm_Md_isHidden s m args below meth c 3 D (some (.int rr)) [(h_this, .inr (5, [.int v_thrown, .int v_wires, .int v_isOpen, .int v_isEmpty, .int v_came, .int v_there, .int v_halves, .ref h_this_number, .ref h_this_set, .ref h_this_constant, .int v_rules, .ref h_this_ruleKind, .ref h_this_ruleBit, .ref h_this_ruleOther, .int v_alone, .int v_halfBits, .ref h_this_oldSet, .ref h_this_oldNumber, .ref h_this_allSets, .ref h_this_allNumbers, .int v_allMany, .ref h_this_root])), (h_this_set, .inl (cI, 6, .inl v_set))] [h_this, h_this_set] [(h_this, .inr (5, [.int v_thrown, .int v_wires, .int v_isOpen, .int v_isEmpty, .int v_came, .int v_there, .int v_halves, .ref h_this_number, .ref h_this_set, .ref h_this_constant, .int v_rules, .ref h_this_ruleKind, .ref h_this_ruleBit, .ref h_this_ruleOther, .int v_alone, .int v_halfBits, .ref h_this_oldSet, .ref h_this_oldNumber, .ref h_this_allSets, .ref h_this_allNumbers, .int v_allMany, .ref h_this_root])), (h_this_set, .inl (cI, 6, .inl v_set))] 27 [(0, .ref h_this), (1, .int x1), (2, .int x2)] [] := by
  unfold f_Md_isHidden_l27 at hf
  refine z_iload_n C d_Md_isHidden_27 rfl 2 rfl ?_
  refine z_aload_n C d_Md_isHidden_28 rfl 0 rfl ?_
  refine z_get C iw_Md 0 rfl rfl 1 (by decide) zw_499 rfl d_Md_isHidden_29 ?_
  refine z_icmp_ge (tgt := 57) C d_Md_isHidden_32 (by decide) (fun c_1 => ?_) (fun c_1 => ?_)
  · have hf := zif_pos c_1 hf
    refine z_lv [] rfl ?_
    cases hf
    exact hK
  · have hf := zif_neg c_1 hf
    refine z_aload_n C d_Md_isHidden_35 rfl 0 rfl ?_
    refine z_get C iw_Md 0 rfl rfl 8 (by decide) zw_506 rfl d_Md_isHidden_36 ?_
    refine z_iload_n C d_Md_isHidden_39 rfl 2 rfl ?_
    obtain ⟨g_2, hf⟩ := zguard hf
    refine z_iald C 1 0 rfl rfl g_2 d_Md_isHidden_40 ?_
    refine z_iload_n C d_Md_isHidden_41 rfl 1 rfl ?_
    refine z_ishr C d_Md_isHidden_42 ?_
    refine z_iconst (v := 1) C d_Md_isHidden_43 (by decide) ?_
    refine z_iand C d_Md_isHidden_44 ?_
    refine z_iconst (v := 1) C d_Md_isHidden_45 (by decide) ?_
    refine z_icmp_ne (tgt := 51) C d_Md_isHidden_46 (by decide) (fun c_3 => ?_) (fun c_3 => ?_)
    · have hf := zif_neg c_3 hf
      obtain ⟨y_4, ey_4⟩ : ∃ y : Int32, y = x2 + 1 := ⟨_, rfl⟩
      have hf := zlet_at ey_4 hf
      refine z_iinc (v := y_4) (lv' := [(2, .int y_4), (0, .ref h_this), (1, .int x1)]) C d_Md_isHidden_51 (k := 2) rfl (by rw [ey_4]; rfl) (by decide) rfl ?_
      refine z_goto (tgt := 27) C d_Md_isHidden_54 (by decide) ?_
      refine z_lv [1, 2, 0] rfl ?_
      cases hf
      exact hK
    · have hf := zif_pos c_3 hf
      refine z_iconst (v := 0) C d_Md_isHidden_49 (by decide) ?_
      cases hf
      have hK : (0 : Int32) = rr := hK
      cases hK
      exact z_zret C hr rfl d_Md_isHidden_50
theorem k_Md_isHidden_l27_run {p : Program} {l : Launch} {e : Env} {s : State} {m : MethodId} {args : Array Value} {below : List Frame} {meth : Method} {c : Code} {D : va_G} {cI cL : ClassId} {h_this h_this_number h_this_set h_this_constant h_this_ruleKind h_this_ruleBit h_this_ruleOther h_this_oldSet h_this_oldNumber h_this_allSets h_this_allNumbers h_this_root : Nat} {v_thrown v_wires v_isOpen v_isEmpty v_came v_there v_halves v_rules v_alone v_halfBits v_allMany rr x1 x2 : Int32} {v_set : Nat → Int32} (C : zC p s m args meth c b_Md_isHidden 3 R_Md D vwCl [(cI, .int), (cL, .long)] (zA [h_this, h_this_set] s.heap.size)) (hr : meth.sig.returnType = some .boolean)  (hf : zloop (fun q => f_Md_isHidden_l27 x1 v_wires v_isOpen v_there v_set q) zF (x2) = some (.inl ())) (hK : ZV p l e rm_Md_isHidden s m args below meth c 3 D (some (.int rr)) [(h_this, .inr (5, [.int v_thrown, .int v_wires, .int v_isOpen, .int v_isEmpty, .int v_came, .int v_there, .int v_halves, .ref h_this_number, .ref h_this_set, .ref h_this_constant, .int v_rules, .ref h_this_ruleKind, .ref h_this_ruleBit, .ref h_this_ruleOther, .int v_alone, .int v_halfBits, .ref h_this_oldSet, .ref h_this_oldNumber, .ref h_this_allSets, .ref h_this_allNumbers, .int v_allMany, .ref h_this_root])), (h_this_set, .inl (cI, 6, .inl v_set))] [h_this, h_this_set] [(h_this, .inr (5, [.int v_thrown, .int v_wires, .int v_isOpen, .int v_isEmpty, .int v_came, .int v_there, .int v_halves, .ref h_this_number, .ref h_this_set, .ref h_this_constant, .int v_rules, .ref h_this_ruleKind, .ref h_this_ruleBit, .ref h_this_ruleOther, .int v_alone, .int v_halfBits, .ref h_this_oldSet, .ref h_this_oldNumber, .ref h_this_allSets, .ref h_this_allNumbers, .int v_allMany, .ref h_this_root])), (h_this_set, .inl (cI, 6, .inl v_set))] 57 [] []) : ZV p l e rm_Md_isHidden s m args below meth c 3 D (some (.int rr)) [(h_this, .inr (5, [.int v_thrown, .int v_wires, .int v_isOpen, .int v_isEmpty, .int v_came, .int v_there, .int v_halves, .ref h_this_number, .ref h_this_set, .ref h_this_constant, .int v_rules, .ref h_this_ruleKind, .ref h_this_ruleBit, .ref h_this_ruleOther, .int v_alone, .int v_halfBits, .ref h_this_oldSet, .ref h_this_oldNumber, .ref h_this_allSets, .ref h_this_allNumbers, .int v_allMany, .ref h_this_root])), (h_this_set, .inl (cI, 6, .inl v_set))] [h_this, h_this_set] [(h_this, .inr (5, [.int v_thrown, .int v_wires, .int v_isOpen, .int v_isEmpty, .int v_came, .int v_there, .int v_halves, .ref h_this_number, .ref h_this_set, .ref h_this_constant, .int v_rules, .ref h_this_ruleKind, .ref h_this_ruleBit, .ref h_this_ruleOther, .int v_alone, .int v_halfBits, .ref h_this_oldSet, .ref h_this_oldNumber, .ref h_this_allSets, .ref h_this_allNumbers, .int v_allMany, .ref h_this_root])), (h_this_set, .inl (cI, 6, .inl v_set))] 27 [(0, .ref h_this), (1, .int x1), (2, .int x2)] [] :=
  zloop_run (P := fun q => ZV p l e rm_Md_isHidden s m args below meth c 3 D (some (.int rr)) [(h_this, .inr (5, [.int v_thrown, .int v_wires, .int v_isOpen, .int v_isEmpty, .int v_came, .int v_there, .int v_halves, .ref h_this_number, .ref h_this_set, .ref h_this_constant, .int v_rules, .ref h_this_ruleKind, .ref h_this_ruleBit, .ref h_this_ruleOther, .int v_alone, .int v_halfBits, .ref h_this_oldSet, .ref h_this_oldNumber, .ref h_this_allSets, .ref h_this_allNumbers, .int v_allMany, .ref h_this_root])), (h_this_set, .inl (cI, 6, .inl v_set))] [h_this, h_this_set] [(h_this, .inr (5, [.int v_thrown, .int v_wires, .int v_isOpen, .int v_isEmpty, .int v_came, .int v_there, .int v_halves, .ref h_this_number, .ref h_this_set, .ref h_this_constant, .int v_rules, .ref h_this_ruleKind, .ref h_this_ruleBit, .ref h_this_ruleOther, .int v_alone, .int v_halfBits, .ref h_this_oldSet, .ref h_this_oldNumber, .ref h_this_allSets, .ref h_this_allNumbers, .int v_allMany, .ref h_this_root])), (h_this_set, .inl (cI, 6, .inl v_set))] 27 [(0, .ref h_this), (1, .int x1), (2, .int q)] []) (K := (zcase (fun q => ZV p l e rm_Md_isHidden s m args below meth c 3 D (some (.int rr)) [(h_this, .inr (5, [.int v_thrown, .int v_wires, .int v_isOpen, .int v_isEmpty, .int v_came, .int v_there, .int v_halves, .ref h_this_number, .ref h_this_set, .ref h_this_constant, .int v_rules, .ref h_this_ruleKind, .ref h_this_ruleBit, .ref h_this_ruleOther, .int v_alone, .int v_halfBits, .ref h_this_oldSet, .ref h_this_oldNumber, .ref h_this_allSets, .ref h_this_allNumbers, .int v_allMany, .ref h_this_root])), (h_this_set, .inl (cI, 6, .inl v_set))] [h_this, h_this_set] [(h_this, .inr (5, [.int v_thrown, .int v_wires, .int v_isOpen, .int v_isEmpty, .int v_came, .int v_there, .int v_halves, .ref h_this_number, .ref h_this_set, .ref h_this_constant, .int v_rules, .ref h_this_ruleKind, .ref h_this_ruleBit, .ref h_this_ruleOther, .int v_alone, .int v_halfBits, .ref h_this_oldSet, .ref h_this_oldNumber, .ref h_this_allSets, .ref h_this_allNumbers, .int v_allMany, .ref h_this_root])), (h_this_set, .inl (cI, 6, .inl v_set))] 57 [] []) (fun w => w = rr))) (fun q z hz hK => k_Md_isHidden_l27 C hr hz hK) zF _ ((.inl ())) hf hK
theorem k_Md_isHidden_l27_runR {p : Program} {l : Launch} {e : Env} {s : State} {m : MethodId} {args : Array Value} {below : List Frame} {meth : Method} {c : Code} {D : va_G} {cI cL : ClassId} {h_this h_this_number h_this_set h_this_constant h_this_ruleKind h_this_ruleBit h_this_ruleOther h_this_oldSet h_this_oldNumber h_this_allSets h_this_allNumbers h_this_root : Nat} {v_thrown v_wires v_isOpen v_isEmpty v_came v_there v_halves v_rules v_alone v_halfBits v_allMany rr x1 x2 : Int32} {v_set : Nat → Int32} (C : zC p s m args meth c b_Md_isHidden 3 R_Md D vwCl [(cI, .int), (cL, .long)] (zA [h_this, h_this_set] s.heap.size)) (hr : meth.sig.returnType = some .boolean) (hf : zloop (fun q => f_Md_isHidden_l27 x1 v_wires v_isOpen v_there v_set q) zF (x2) = some (.inr rr)) : ZV p l e rm_Md_isHidden s m args below meth c 3 D (some (.int rr)) [(h_this, .inr (5, [.int v_thrown, .int v_wires, .int v_isOpen, .int v_isEmpty, .int v_came, .int v_there, .int v_halves, .ref h_this_number, .ref h_this_set, .ref h_this_constant, .int v_rules, .ref h_this_ruleKind, .ref h_this_ruleBit, .ref h_this_ruleOther, .int v_alone, .int v_halfBits, .ref h_this_oldSet, .ref h_this_oldNumber, .ref h_this_allSets, .ref h_this_allNumbers, .int v_allMany, .ref h_this_root])), (h_this_set, .inl (cI, 6, .inl v_set))] [h_this, h_this_set] [(h_this, .inr (5, [.int v_thrown, .int v_wires, .int v_isOpen, .int v_isEmpty, .int v_came, .int v_there, .int v_halves, .ref h_this_number, .ref h_this_set, .ref h_this_constant, .int v_rules, .ref h_this_ruleKind, .ref h_this_ruleBit, .ref h_this_ruleOther, .int v_alone, .int v_halfBits, .ref h_this_oldSet, .ref h_this_oldNumber, .ref h_this_allSets, .ref h_this_allNumbers, .int v_allMany, .ref h_this_root])), (h_this_set, .inl (cI, 6, .inl v_set))] 27 [(0, .ref h_this), (1, .int x1), (2, .int x2)] [] :=
  zloop_run (P := fun q => ZV p l e rm_Md_isHidden s m args below meth c 3 D (some (.int rr)) [(h_this, .inr (5, [.int v_thrown, .int v_wires, .int v_isOpen, .int v_isEmpty, .int v_came, .int v_there, .int v_halves, .ref h_this_number, .ref h_this_set, .ref h_this_constant, .int v_rules, .ref h_this_ruleKind, .ref h_this_ruleBit, .ref h_this_ruleOther, .int v_alone, .int v_halfBits, .ref h_this_oldSet, .ref h_this_oldNumber, .ref h_this_allSets, .ref h_this_allNumbers, .int v_allMany, .ref h_this_root])), (h_this_set, .inl (cI, 6, .inl v_set))] [h_this, h_this_set] [(h_this, .inr (5, [.int v_thrown, .int v_wires, .int v_isOpen, .int v_isEmpty, .int v_came, .int v_there, .int v_halves, .ref h_this_number, .ref h_this_set, .ref h_this_constant, .int v_rules, .ref h_this_ruleKind, .ref h_this_ruleBit, .ref h_this_ruleOther, .int v_alone, .int v_halfBits, .ref h_this_oldSet, .ref h_this_oldNumber, .ref h_this_allSets, .ref h_this_allNumbers, .int v_allMany, .ref h_this_root])), (h_this_set, .inl (cI, 6, .inl v_set))] 27 [(0, .ref h_this), (1, .int x1), (2, .int q)] []) (K := (zcase (fun q => ZV p l e rm_Md_isHidden s m args below meth c 3 D (some (.int rr)) [(h_this, .inr (5, [.int v_thrown, .int v_wires, .int v_isOpen, .int v_isEmpty, .int v_came, .int v_there, .int v_halves, .ref h_this_number, .ref h_this_set, .ref h_this_constant, .int v_rules, .ref h_this_ruleKind, .ref h_this_ruleBit, .ref h_this_ruleOther, .int v_alone, .int v_halfBits, .ref h_this_oldSet, .ref h_this_oldNumber, .ref h_this_allSets, .ref h_this_allNumbers, .int v_allMany, .ref h_this_root])), (h_this_set, .inl (cI, 6, .inl v_set))] [h_this, h_this_set] [(h_this, .inr (5, [.int v_thrown, .int v_wires, .int v_isOpen, .int v_isEmpty, .int v_came, .int v_there, .int v_halves, .ref h_this_number, .ref h_this_set, .ref h_this_constant, .int v_rules, .ref h_this_ruleKind, .ref h_this_ruleBit, .ref h_this_ruleOther, .int v_alone, .int v_halfBits, .ref h_this_oldSet, .ref h_this_oldNumber, .ref h_this_allSets, .ref h_this_allNumbers, .int v_allMany, .ref h_this_root])), (h_this_set, .inl (cI, 6, .inl v_set))] 57 [] []) (fun w => w = rr))) (fun q z hz hK => k_Md_isHidden_l27 C hr hz hK) zF _ (.inr rr) hf rfl
/-- PathSumsModel.isHidden(I)Z -/
def f_Md_isHidden (x1 : Int32) (v_wires : Int32) (v_isOpen : Int32) (v_there : Int32) (v_set : Nat → Int32) : Option (Int32) :=
  if ((v_there >>> (x1 &&& 31)) &&& (1 : Int32)) = 0 then (
    some (0 : Int32))
  else (
    if (((f_Md_inputs v_wires v_isOpen) >>> (x1 &&& 31)) &&& (1 : Int32)) = (1 : Int32) then (
      some (0 : Int32))
    else (
      zr0 (zloop (fun q => f_Md_isHidden_l27 x1 v_wires v_isOpen v_there v_set q) zF ((0 : Int32))) fun  =>
      some (1 : Int32)))
set_option maxRecDepth 100000 in
set_option maxHeartbeats 4000000 in
theorem k_Md_isHidden {p : Program} {l : Launch} {e : Env} {s : State} {m : MethodId} {args : Array Value} {below : List Frame} {meth : Method} {c : Code} {D : va_G} {cI cL : ClassId} {h_this h_this_number h_this_set h_this_constant h_this_ruleKind h_this_ruleBit h_this_ruleOther h_this_oldSet h_this_oldNumber h_this_allSets h_this_allNumbers h_this_root : Nat} {v_thrown v_wires v_isOpen v_isEmpty v_came v_there v_halves v_rules v_alone v_halfBits v_allMany rr x1 : Int32} {v_set : Nat → Int32} (C : zC p s m args meth c b_Md_isHidden 3 R_Md D vwCl [(cI, .int), (cL, .long)] (zA [h_this, h_this_set] s.heap.size)) (hr : meth.sig.returnType = some .boolean) (hf : f_Md_isHidden x1 v_wires v_isOpen v_there v_set = some rr) : ZV p l e rm_Md_isHidden s m args below meth c 3 D (some (.int rr)) [(h_this, .inr (5, [.int v_thrown, .int v_wires, .int v_isOpen, .int v_isEmpty, .int v_came, .int v_there, .int v_halves, .ref h_this_number, .ref h_this_set, .ref h_this_constant, .int v_rules, .ref h_this_ruleKind, .ref h_this_ruleBit, .ref h_this_ruleOther, .int v_alone, .int v_halfBits, .ref h_this_oldSet, .ref h_this_oldNumber, .ref h_this_allSets, .ref h_this_allNumbers, .int v_allMany, .ref h_this_root])), (h_this_set, .inl (cI, 6, .inl v_set))] [h_this, h_this_set] [(h_this, .inr (5, [.int v_thrown, .int v_wires, .int v_isOpen, .int v_isEmpty, .int v_came, .int v_there, .int v_halves, .ref h_this_number, .ref h_this_set, .ref h_this_constant, .int v_rules, .ref h_this_ruleKind, .ref h_this_ruleBit, .ref h_this_ruleOther, .int v_alone, .int v_halfBits, .ref h_this_oldSet, .ref h_this_oldNumber, .ref h_this_allSets, .ref h_this_allNumbers, .int v_allMany, .ref h_this_root])), (h_this_set, .inl (cI, 6, .inl v_set))] 0 [(0, .ref h_this), (1, .int x1)] [] := by
  unfold f_Md_isHidden at hf
  refine z_aload_n C d_Md_isHidden_0 rfl 0 rfl ?_
  refine z_get C iw_Md 0 rfl rfl 5 (by decide) zw_503 rfl d_Md_isHidden_1 ?_
  refine z_iload_n C d_Md_isHidden_4 rfl 1 rfl ?_
  refine z_ishr C d_Md_isHidden_5 ?_
  refine z_iconst (v := 1) C d_Md_isHidden_6 (by decide) ?_
  refine z_iand C d_Md_isHidden_7 ?_
  refine z_if_eq (tgt := 23) C d_Md_isHidden_8 (by decide) (fun c_1 => ?_) (fun c_1 => ?_)
  · have hf := zif_pos c_1 hf
    refine z_iconst (v := 0) C d_Md_isHidden_23 (by decide) ?_
    cases hf
    exact z_zret C hr rfl d_Md_isHidden_24
  · have hf := zif_neg c_1 hf
    refine z_aload_n C d_Md_isHidden_11 rfl 0 rfl ?_
    refine z_callV (As := []) (rest := []) (ws' := [(h_this, .inr (5, [.int v_thrown, .int v_wires, .int v_isOpen, .int v_isEmpty, .int v_came, .int v_there, .int v_halves, .ref h_this_number, .ref h_this_set, .ref h_this_constant, .int v_rules, .ref h_this_ruleKind, .ref h_this_ruleBit, .ref h_this_ruleOther, .int v_alone, .int v_halfBits, .ref h_this_oldSet, .ref h_this_oldNumber, .ref h_this_allSets, .ref h_this_allNumbers, .int v_allMany, .ref h_this_root])), (h_this_set, .inl (cI, 6, .inl v_set))]) C (c_Md_inputs rfl) mi_Md_inputs zw_638 (by decide) 0 rfl rfl [0] (by decide) rfl rfl rfl rfl rfl (by decide) ⟨Nat.zero_le _, Nat.zero_le _⟩ d_Md_isHidden_12 ?_
    refine z_iload_n C d_Md_isHidden_15 rfl 1 rfl ?_
    refine z_ishr C d_Md_isHidden_16 ?_
    refine z_iconst (v := 1) C d_Md_isHidden_17 (by decide) ?_
    refine z_iand C d_Md_isHidden_18 ?_
    refine z_iconst (v := 1) C d_Md_isHidden_19 (by decide) ?_
    refine z_icmp_ne (tgt := 25) C d_Md_isHidden_20 (by decide) (fun c_3 => ?_) (fun c_3 => ?_)
    · have hf := zif_neg c_3 hf
      refine z_iconst (v := 0) C d_Md_isHidden_25 (by decide) ?_
      refine z_istore_n (lv' := [(2, .int (0 : Int32)), (0, .ref h_this), (1, .int x1)]) C d_Md_isHidden_26 rfl (by decide) rfl ?_
      refine z_lv [1, 2, 0] rfl ?_
      rcases zr0_elim hf with ⟨, h_4, hf⟩ | h_4
      rotate_left
      · exact k_Md_isHidden_l27_runR C hr h_4
      refine k_Md_isHidden_l27_run C hr h_4 ?_
      refine z_iconst (v := 1) C d_Md_isHidden_57 (by decide) ?_
      cases hf
      exact z_zret C hr rfl d_Md_isHidden_58
    · have hf := zif_pos c_3 hf
      refine z_iconst (v := 0) C d_Md_isHidden_23 (by decide) ?_
      cases hf
      exact z_zret C hr rfl d_Md_isHidden_24
theorem c_Md_isHidden {l : Launch} {D : va_G} {cI cL : ClassId} {h_this h_this_number h_this_set h_this_constant h_this_ruleKind h_this_ruleBit h_this_ruleOther h_this_oldSet h_this_oldNumber h_this_allSets h_this_allNumbers h_this_root : Nat} {v_thrown v_wires v_isOpen v_isEmpty v_came v_there v_halves v_rules v_alone v_halfBits v_allMany rr x1 : Int32} {v_set : Nat → Int32} (hf : f_Md_isHidden x1 v_wires v_isOpen v_there v_set = some rr) : zM l y_Md_isHidden (Cond.code y_Md_isHidden b_Md_isHidden 3 (some .boolean) :: zT) rm_Md_isHidden D vwCl [(cI, .int), (cL, .long)] [.ref h_this, .int x1] [(h_this, .inr (5, [.int v_thrown, .int v_wires, .int v_isOpen, .int v_isEmpty, .int v_came, .int v_there, .int v_halves, .ref h_this_number, .ref h_this_set, .ref h_this_constant, .int v_rules, .ref h_this_ruleKind, .ref h_this_ruleBit, .ref h_this_ruleOther, .int v_alone, .int v_halfBits, .ref h_this_oldSet, .ref h_this_oldNumber, .ref h_this_allSets, .ref h_this_allNumbers, .int v_allMany, .ref h_this_root])), (h_this_set, .inl (cI, 6, .inl v_set))] [(h_this, .inr (5, [.int v_thrown, .int v_wires, .int v_isOpen, .int v_isEmpty, .int v_came, .int v_there, .int v_halves, .ref h_this_number, .ref h_this_set, .ref h_this_constant, .int v_rules, .ref h_this_ruleKind, .ref h_this_ruleBit, .ref h_this_ruleOther, .int v_alone, .int v_halfBits, .ref h_this_oldSet, .ref h_this_oldNumber, .ref h_this_allSets, .ref h_this_allNumbers, .int v_allMany, .ref h_this_root])), (h_this_set, .inl (cI, 6, .inl v_set))] (some (.int rr)) :=
  zM.intro (by decide) rfl (fun _ h => List.mem_cons_of_mem _ h) (Nat.le_of_ble_eq_true rfl) (fun _ _ _ _ _ _ _ C hr _ => k_Md_isHidden C hr hf)
def rm_Md_findFactor : Room := { frames := 2, cells := 0, slots := 0, locals := 44 }
def f_Md_findFactor_l75 (x1 : Int32) (x2 : Int32) (v_alone : Int32) (v_halfBits : Int32) (v_number : Nat → Int32) (x4 : Int32) : Option ((Int32) ⊕ ((Unit) ⊕ (Int32 × Int32 × Int32))) :=
  if x2 ≤ x4 then (
    some (.inr (.inl ())))
  else (
    if x4 = x1 then (
      zlet (x4 + 1) fun y_3 =>
      some (.inl (y_3)))
    else (
      zb1 (f_Md_numberOf ((((1 : Int32) <<< (x1 &&& 31)) ||| ((1 : Int32) <<< (x2 &&& 31))) ||| ((1 : Int32) <<< (x4 &&& 31))) v_number) fun r_5 =>
      if r_5 = 0 then (
        zlet (x4 + 1) fun y_7 =>
        some (.inl (y_7)))
      else (
        some (.inr (.inr ((0 : Int32), v_alone, v_halfBits))))))
set_option maxRecDepth 100000 in
set_option maxHeartbeats 4000000 in
theorem k_Md_findFactor_l75 {p : Program} {l : Launch} {e : Env} {s : State} {m : MethodId} {args : Array Value} {below : List Frame} {meth : Method} {c : Code} {D : va_G} {cI cL : ClassId} {h_this h_this_number h_this_set h_this_constant h_this_ruleKind h_this_ruleBit h_this_ruleOther h_this_oldSet h_this_oldNumber h_this_allSets h_this_allNumbers h_this_root : Nat} {v_thrown v_wires v_isOpen v_isEmpty v_came v_there v_halves v_rules v_alone v_halfBits v_allMany rr o_alone o_halfBits x1 x2 x4 : Int32} {v_number : Nat → Int32} (C : zC p s m args meth c b_Md_findFactor 5 R_Md D vwCl [(cI, .int), (cL, .long)] (zA [h_this, h_this_number] s.heap.size)) (hr : meth.sig.returnType = some .boolean) {z : (Int32) ⊕ ((Unit) ⊕ (Int32 × Int32 × Int32))} (hf : f_Md_findFactor_l75 x1 x2 v_alone v_halfBits v_number x4 = some z) (hK : zcase (fun q => ZV p l e rm_Md_findFactor s m args below meth c 5 D (some (.int rr)) [(h_this, .inr (5, [.int v_thrown, .int v_wires, .int v_isOpen, .int v_isEmpty, .int v_came, .int v_there, .int v_halves, .ref h_this_number, .ref h_this_set, .ref h_this_constant, .int v_rules, .ref h_this_ruleKind, .ref h_this_ruleBit, .ref h_this_ruleOther, .int o_alone, .int o_halfBits, .ref h_this_oldSet, .ref h_this_oldNumber, .ref h_this_allSets, .ref h_this_allNumbers, .int v_allMany, .ref h_this_root])), (h_this_number, .inl (cI, 15625, .inl v_number))] [h_this, h_this_number] [(h_this, .inr (5, [.int v_thrown, .int v_wires, .int v_isOpen, .int v_isEmpty, .int v_came, .int v_there, .int v_halves, .ref h_this_number, .ref h_this_set, .ref h_this_constant, .int v_rules, .ref h_this_ruleKind, .ref h_this_ruleBit, .ref h_this_ruleOther, .int v_alone, .int v_halfBits, .ref h_this_oldSet, .ref h_this_oldNumber, .ref h_this_allSets, .ref h_this_allNumbers, .int v_allMany, .ref h_this_root])), (h_this_number, .inl (cI, 15625, .inl v_number))] 75 [(0, .ref h_this), (1, .int x1), (2, .int x2), (4, .int q)] []) (zcase (fun q => ZV p l e rm_Md_findFactor s m args below meth c 5 D (some (.int rr)) [(h_this, .inr (5, [.int v_thrown, .int v_wires, .int v_isOpen, .int v_isEmpty, .int v_came, .int v_there, .int v_halves, .ref h_this_number, .ref h_this_set, .ref h_this_constant, .int v_rules, .ref h_this_ruleKind, .ref h_this_ruleBit, .ref h_this_ruleOther, .int o_alone, .int o_halfBits, .ref h_this_oldSet, .ref h_this_oldNumber, .ref h_this_allSets, .ref h_this_allNumbers, .int v_allMany, .ref h_this_root])), (h_this_number, .inl (cI, 15625, .inl v_number))] [h_this, h_this_number] [(h_this, .inr (5, [.int v_thrown, .int v_wires, .int v_isOpen, .int v_isEmpty, .int v_came, .int v_there, .int v_halves, .ref h_this_number, .ref h_this_set, .ref h_this_constant, .int v_rules, .ref h_this_ruleKind, .ref h_this_ruleBit, .ref h_this_ruleOther, .int v_alone, .int v_halfBits, .ref h_this_oldSet, .ref h_this_oldNumber, .ref h_this_allSets, .ref h_this_allNumbers, .int v_allMany, .ref h_this_root])), (h_this_number, .inl (cI, 15625, .inl v_number))] 114 [(0, .ref h_this), (1, .int x1), (2, .int x2)] []) (fun w => w = (rr, o_alone, o_halfBits))) z) : ZV p l e rm_Md_findFactor s m args below meth c 5 D (some (.int rr)) [(h_this, .inr (5, [.int v_thrown, .int v_wires, .int v_isOpen, .int v_isEmpty, .int v_came, .int v_there, .int v_halves, .ref h_this_number, .ref h_this_set, .ref h_this_constant, .int v_rules, .ref h_this_ruleKind, .ref h_this_ruleBit, .ref h_this_ruleOther, .int o_alone, .int o_halfBits, .ref h_this_oldSet, .ref h_this_oldNumber, .ref h_this_allSets, .ref h_this_allNumbers, .int v_allMany, .ref h_this_root])), (h_this_number, .inl (cI, 15625, .inl v_number))] [h_this, h_this_number] [(h_this, .inr (5, [.int v_thrown, .int v_wires, .int v_isOpen, .int v_isEmpty, .int v_came, .int v_there, .int v_halves, .ref h_this_number, .ref h_this_set, .ref h_this_constant, .int v_rules, .ref h_this_ruleKind, .ref h_this_ruleBit, .ref h_this_ruleOther, .int v_alone, .int v_halfBits, .ref h_this_oldSet, .ref h_this_oldNumber, .ref h_this_allSets, .ref h_this_allNumbers, .int v_allMany, .ref h_this_root])), (h_this_number, .inl (cI, 15625, .inl v_number))] 75 [(0, .ref h_this), (1, .int x1), (2, .int x2), (4, .int x4)] [] := by
  unfold f_Md_findFactor_l75 at hf
  refine z_iload C d_Md_findFactor_75 3 rfl ?_
  refine z_iload_n C d_Md_findFactor_77 rfl 2 rfl ?_
  refine z_icmp_ge (tgt := 114) C d_Md_findFactor_78 (by decide) (fun c_1 => ?_) (fun c_1 => ?_)
  · have hf := zif_pos c_1 hf
    refine z_lv [0, 1, 2] rfl ?_
    cases hf
    exact hK
  · have hf := zif_neg c_1 hf
    refine z_iload C d_Md_findFactor_81 3 rfl ?_
    refine z_iload_n C d_Md_findFactor_83 rfl 1 rfl ?_
    refine z_icmp_eq (tgt := 108) C d_Md_findFactor_84 (by decide) (fun c_2 => ?_) (fun c_2 => ?_)
    · have hf := zif_pos c_2 hf
      obtain ⟨y_3, ey_3⟩ : ∃ y : Int32, y = x4 + 1 := ⟨_, rfl⟩
      have hf := zlet_at ey_3 hf
      refine z_iinc (v := y_3) (lv' := [(4, .int y_3), (0, .ref h_this), (1, .int x1), (2, .int x2)]) C d_Md_findFactor_108 (k := 3) rfl (by rw [ey_3]; rfl) (by decide) rfl ?_
      refine z_goto (tgt := 75) C d_Md_findFactor_111 (by decide) ?_
      refine z_lv [1, 2, 3, 0] rfl ?_
      cases hf
      exact hK
    · have hf := zif_neg c_2 hf
      refine z_aload_n C d_Md_findFactor_87 rfl 0 rfl ?_
      refine z_iconst (v := 1) C d_Md_findFactor_88 (by decide) ?_
      refine z_iload_n C d_Md_findFactor_89 rfl 1 rfl ?_
      refine z_ishl C d_Md_findFactor_90 ?_
      refine z_iconst (v := 1) C d_Md_findFactor_91 (by decide) ?_
      refine z_iload_n C d_Md_findFactor_92 rfl 2 rfl ?_
      refine z_ishl C d_Md_findFactor_93 ?_
      refine z_ior C d_Md_findFactor_94 ?_
      refine z_iconst (v := 1) C d_Md_findFactor_95 (by decide) ?_
      refine z_iload C d_Md_findFactor_96 3 rfl ?_
      refine z_ishl C d_Md_findFactor_98 ?_
      refine z_ior C d_Md_findFactor_99 ?_
      obtain ⟨r_5, h_4, hf⟩ := zb1_elim hf
      refine z_callV (As := [.int ((((1 : Int32) <<< (x1 &&& 31)) ||| ((1 : Int32) <<< (x2 &&& 31))) ||| ((1 : Int32) <<< (x4 &&& 31)))]) (rest := []) (ws' := [(h_this, .inr (5, [.int v_thrown, .int v_wires, .int v_isOpen, .int v_isEmpty, .int v_came, .int v_there, .int v_halves, .ref h_this_number, .ref h_this_set, .ref h_this_constant, .int v_rules, .ref h_this_ruleKind, .ref h_this_ruleBit, .ref h_this_ruleOther, .int v_alone, .int v_halfBits, .ref h_this_oldSet, .ref h_this_oldNumber, .ref h_this_allSets, .ref h_this_allNumbers, .int v_allMany, .ref h_this_root])), (h_this_number, .inl (cI, 15625, .inl v_number))]) C (c_Md_numberOf h_4) mi_Md_numberOf zw_646 (by decide) 0 rfl rfl [0, 1] (by decide) rfl rfl rfl rfl rfl (by decide) ⟨Nat.zero_le _, Nat.zero_le _⟩ d_Md_findFactor_100 ?_
      refine z_if_eq (tgt := 108) C d_Md_findFactor_103 (by decide) (fun c_6 => ?_) (fun c_6 => ?_)
      · have hf := zif_pos c_6 hf
        obtain ⟨y_7, ey_7⟩ : ∃ y : Int32, y = x4 + 1 := ⟨_, rfl⟩
        have hf := zlet_at ey_7 hf
        refine z_iinc (v := y_7) (lv' := [(4, .int y_7), (0, .ref h_this), (1, .int x1), (2, .int x2)]) C d_Md_findFactor_108 (k := 3) rfl (by rw [ey_7]; rfl) (by decide) rfl ?_
        refine z_goto (tgt := 75) C d_Md_findFactor_111 (by decide) ?_
        refine z_lv [1, 2, 3, 0] rfl ?_
        cases hf
        exact hK
      · have hf := zif_neg c_6 hf
        refine z_iconst (v := 0) C d_Md_findFactor_106 (by decide) ?_
        cases hf
        have hK : ((0 : Int32), v_alone, v_halfBits) = (rr, o_alone, o_halfBits) := hK
        cases hK
        exact z_zret C hr rfl d_Md_findFactor_107
theorem k_Md_findFactor_l75_run {p : Program} {l : Launch} {e : Env} {s : State} {m : MethodId} {args : Array Value} {below : List Frame} {meth : Method} {c : Code} {D : va_G} {cI cL : ClassId} {h_this h_this_number h_this_set h_this_constant h_this_ruleKind h_this_ruleBit h_this_ruleOther h_this_oldSet h_this_oldNumber h_this_allSets h_this_allNumbers h_this_root : Nat} {v_thrown v_wires v_isOpen v_isEmpty v_came v_there v_halves v_rules v_alone v_halfBits v_allMany rr o_alone o_halfBits x1 x2 x4 : Int32} {v_number : Nat → Int32} (C : zC p s m args meth c b_Md_findFactor 5 R_Md D vwCl [(cI, .int), (cL, .long)] (zA [h_this, h_this_number] s.heap.size)) (hr : meth.sig.returnType = some .boolean)  (hf : zloop (fun q => f_Md_findFactor_l75 x1 x2 v_alone v_halfBits v_number q) zF (x4) = some (.inl ())) (hK : ZV p l e rm_Md_findFactor s m args below meth c 5 D (some (.int rr)) [(h_this, .inr (5, [.int v_thrown, .int v_wires, .int v_isOpen, .int v_isEmpty, .int v_came, .int v_there, .int v_halves, .ref h_this_number, .ref h_this_set, .ref h_this_constant, .int v_rules, .ref h_this_ruleKind, .ref h_this_ruleBit, .ref h_this_ruleOther, .int o_alone, .int o_halfBits, .ref h_this_oldSet, .ref h_this_oldNumber, .ref h_this_allSets, .ref h_this_allNumbers, .int v_allMany, .ref h_this_root])), (h_this_number, .inl (cI, 15625, .inl v_number))] [h_this, h_this_number] [(h_this, .inr (5, [.int v_thrown, .int v_wires, .int v_isOpen, .int v_isEmpty, .int v_came, .int v_there, .int v_halves, .ref h_this_number, .ref h_this_set, .ref h_this_constant, .int v_rules, .ref h_this_ruleKind, .ref h_this_ruleBit, .ref h_this_ruleOther, .int v_alone, .int v_halfBits, .ref h_this_oldSet, .ref h_this_oldNumber, .ref h_this_allSets, .ref h_this_allNumbers, .int v_allMany, .ref h_this_root])), (h_this_number, .inl (cI, 15625, .inl v_number))] 114 [(0, .ref h_this), (1, .int x1), (2, .int x2)] []) : ZV p l e rm_Md_findFactor s m args below meth c 5 D (some (.int rr)) [(h_this, .inr (5, [.int v_thrown, .int v_wires, .int v_isOpen, .int v_isEmpty, .int v_came, .int v_there, .int v_halves, .ref h_this_number, .ref h_this_set, .ref h_this_constant, .int v_rules, .ref h_this_ruleKind, .ref h_this_ruleBit, .ref h_this_ruleOther, .int o_alone, .int o_halfBits, .ref h_this_oldSet, .ref h_this_oldNumber, .ref h_this_allSets, .ref h_this_allNumbers, .int v_allMany, .ref h_this_root])), (h_this_number, .inl (cI, 15625, .inl v_number))] [h_this, h_this_number] [(h_this, .inr (5, [.int v_thrown, .int v_wires, .int v_isOpen, .int v_isEmpty, .int v_came, .int v_there, .int v_halves, .ref h_this_number, .ref h_this_set, .ref h_this_constant, .int v_rules, .ref h_this_ruleKind, .ref h_this_ruleBit, .ref h_this_ruleOther, .int v_alone, .int v_halfBits, .ref h_this_oldSet, .ref h_this_oldNumber, .ref h_this_allSets, .ref h_this_allNumbers, .int v_allMany, .ref h_this_root])), (h_this_number, .inl (cI, 15625, .inl v_number))] 75 [(0, .ref h_this), (1, .int x1), (2, .int x2), (4, .int x4)] [] :=
  zloop_run (P := fun q => ZV p l e rm_Md_findFactor s m args below meth c 5 D (some (.int rr)) [(h_this, .inr (5, [.int v_thrown, .int v_wires, .int v_isOpen, .int v_isEmpty, .int v_came, .int v_there, .int v_halves, .ref h_this_number, .ref h_this_set, .ref h_this_constant, .int v_rules, .ref h_this_ruleKind, .ref h_this_ruleBit, .ref h_this_ruleOther, .int o_alone, .int o_halfBits, .ref h_this_oldSet, .ref h_this_oldNumber, .ref h_this_allSets, .ref h_this_allNumbers, .int v_allMany, .ref h_this_root])), (h_this_number, .inl (cI, 15625, .inl v_number))] [h_this, h_this_number] [(h_this, .inr (5, [.int v_thrown, .int v_wires, .int v_isOpen, .int v_isEmpty, .int v_came, .int v_there, .int v_halves, .ref h_this_number, .ref h_this_set, .ref h_this_constant, .int v_rules, .ref h_this_ruleKind, .ref h_this_ruleBit, .ref h_this_ruleOther, .int v_alone, .int v_halfBits, .ref h_this_oldSet, .ref h_this_oldNumber, .ref h_this_allSets, .ref h_this_allNumbers, .int v_allMany, .ref h_this_root])), (h_this_number, .inl (cI, 15625, .inl v_number))] 75 [(0, .ref h_this), (1, .int x1), (2, .int x2), (4, .int q)] []) (K := (zcase (fun q => ZV p l e rm_Md_findFactor s m args below meth c 5 D (some (.int rr)) [(h_this, .inr (5, [.int v_thrown, .int v_wires, .int v_isOpen, .int v_isEmpty, .int v_came, .int v_there, .int v_halves, .ref h_this_number, .ref h_this_set, .ref h_this_constant, .int v_rules, .ref h_this_ruleKind, .ref h_this_ruleBit, .ref h_this_ruleOther, .int o_alone, .int o_halfBits, .ref h_this_oldSet, .ref h_this_oldNumber, .ref h_this_allSets, .ref h_this_allNumbers, .int v_allMany, .ref h_this_root])), (h_this_number, .inl (cI, 15625, .inl v_number))] [h_this, h_this_number] [(h_this, .inr (5, [.int v_thrown, .int v_wires, .int v_isOpen, .int v_isEmpty, .int v_came, .int v_there, .int v_halves, .ref h_this_number, .ref h_this_set, .ref h_this_constant, .int v_rules, .ref h_this_ruleKind, .ref h_this_ruleBit, .ref h_this_ruleOther, .int v_alone, .int v_halfBits, .ref h_this_oldSet, .ref h_this_oldNumber, .ref h_this_allSets, .ref h_this_allNumbers, .int v_allMany, .ref h_this_root])), (h_this_number, .inl (cI, 15625, .inl v_number))] 114 [(0, .ref h_this), (1, .int x1), (2, .int x2)] []) (fun w => w = (rr, o_alone, o_halfBits)))) (fun q z hz hK => k_Md_findFactor_l75 C hr hz hK) zF _ ((.inl ())) hf hK
theorem k_Md_findFactor_l75_runR {p : Program} {l : Launch} {e : Env} {s : State} {m : MethodId} {args : Array Value} {below : List Frame} {meth : Method} {c : Code} {D : va_G} {cI cL : ClassId} {h_this h_this_number h_this_set h_this_constant h_this_ruleKind h_this_ruleBit h_this_ruleOther h_this_oldSet h_this_oldNumber h_this_allSets h_this_allNumbers h_this_root : Nat} {v_thrown v_wires v_isOpen v_isEmpty v_came v_there v_halves v_rules v_alone v_halfBits v_allMany rr o_alone o_halfBits x1 x2 x4 : Int32} {v_number : Nat → Int32} (C : zC p s m args meth c b_Md_findFactor 5 R_Md D vwCl [(cI, .int), (cL, .long)] (zA [h_this, h_this_number] s.heap.size)) (hr : meth.sig.returnType = some .boolean) (hf : zloop (fun q => f_Md_findFactor_l75 x1 x2 v_alone v_halfBits v_number q) zF (x4) = some (.inr (rr, o_alone, o_halfBits))) : ZV p l e rm_Md_findFactor s m args below meth c 5 D (some (.int rr)) [(h_this, .inr (5, [.int v_thrown, .int v_wires, .int v_isOpen, .int v_isEmpty, .int v_came, .int v_there, .int v_halves, .ref h_this_number, .ref h_this_set, .ref h_this_constant, .int v_rules, .ref h_this_ruleKind, .ref h_this_ruleBit, .ref h_this_ruleOther, .int o_alone, .int o_halfBits, .ref h_this_oldSet, .ref h_this_oldNumber, .ref h_this_allSets, .ref h_this_allNumbers, .int v_allMany, .ref h_this_root])), (h_this_number, .inl (cI, 15625, .inl v_number))] [h_this, h_this_number] [(h_this, .inr (5, [.int v_thrown, .int v_wires, .int v_isOpen, .int v_isEmpty, .int v_came, .int v_there, .int v_halves, .ref h_this_number, .ref h_this_set, .ref h_this_constant, .int v_rules, .ref h_this_ruleKind, .ref h_this_ruleBit, .ref h_this_ruleOther, .int v_alone, .int v_halfBits, .ref h_this_oldSet, .ref h_this_oldNumber, .ref h_this_allSets, .ref h_this_allNumbers, .int v_allMany, .ref h_this_root])), (h_this_number, .inl (cI, 15625, .inl v_number))] 75 [(0, .ref h_this), (1, .int x1), (2, .int x2), (4, .int x4)] [] :=
  zloop_run (P := fun q => ZV p l e rm_Md_findFactor s m args below meth c 5 D (some (.int rr)) [(h_this, .inr (5, [.int v_thrown, .int v_wires, .int v_isOpen, .int v_isEmpty, .int v_came, .int v_there, .int v_halves, .ref h_this_number, .ref h_this_set, .ref h_this_constant, .int v_rules, .ref h_this_ruleKind, .ref h_this_ruleBit, .ref h_this_ruleOther, .int o_alone, .int o_halfBits, .ref h_this_oldSet, .ref h_this_oldNumber, .ref h_this_allSets, .ref h_this_allNumbers, .int v_allMany, .ref h_this_root])), (h_this_number, .inl (cI, 15625, .inl v_number))] [h_this, h_this_number] [(h_this, .inr (5, [.int v_thrown, .int v_wires, .int v_isOpen, .int v_isEmpty, .int v_came, .int v_there, .int v_halves, .ref h_this_number, .ref h_this_set, .ref h_this_constant, .int v_rules, .ref h_this_ruleKind, .ref h_this_ruleBit, .ref h_this_ruleOther, .int v_alone, .int v_halfBits, .ref h_this_oldSet, .ref h_this_oldNumber, .ref h_this_allSets, .ref h_this_allNumbers, .int v_allMany, .ref h_this_root])), (h_this_number, .inl (cI, 15625, .inl v_number))] 75 [(0, .ref h_this), (1, .int x1), (2, .int x2), (4, .int q)] []) (K := (zcase (fun q => ZV p l e rm_Md_findFactor s m args below meth c 5 D (some (.int rr)) [(h_this, .inr (5, [.int v_thrown, .int v_wires, .int v_isOpen, .int v_isEmpty, .int v_came, .int v_there, .int v_halves, .ref h_this_number, .ref h_this_set, .ref h_this_constant, .int v_rules, .ref h_this_ruleKind, .ref h_this_ruleBit, .ref h_this_ruleOther, .int o_alone, .int o_halfBits, .ref h_this_oldSet, .ref h_this_oldNumber, .ref h_this_allSets, .ref h_this_allNumbers, .int v_allMany, .ref h_this_root])), (h_this_number, .inl (cI, 15625, .inl v_number))] [h_this, h_this_number] [(h_this, .inr (5, [.int v_thrown, .int v_wires, .int v_isOpen, .int v_isEmpty, .int v_came, .int v_there, .int v_halves, .ref h_this_number, .ref h_this_set, .ref h_this_constant, .int v_rules, .ref h_this_ruleKind, .ref h_this_ruleBit, .ref h_this_ruleOther, .int v_alone, .int v_halfBits, .ref h_this_oldSet, .ref h_this_oldNumber, .ref h_this_allSets, .ref h_this_allNumbers, .int v_allMany, .ref h_this_root])), (h_this_number, .inl (cI, 15625, .inl v_number))] 114 [(0, .ref h_this), (1, .int x1), (2, .int x2)] []) (fun w => w = (rr, o_alone, o_halfBits)))) (fun q z hz hK => k_Md_findFactor_l75 C hr hz hK) zF _ (.inr (rr, o_alone, o_halfBits)) hf rfl
def f_Md_findFactor_l18 (x1 : Int32) (v_alone : Int32) (v_number : Nat → Int32) (x2 : Int32) (v_halfBits : Int32) : Option ((Int32 × Int32) ⊕ ((Int32) ⊕ (Int32 × Int32 × Int32))) :=
  if (24 : Int32) ≤ x2 then (
    some (.inr (.inl (v_halfBits))))
  else (
    if x2 = x1 then (
      zlet (x2 + 1) fun y_3 =>
      some (.inl (y_3, v_halfBits)))
    else (
      zb1 (f_Md_numberOf (((1 : Int32) <<< (x1 &&& 31)) ||| ((1 : Int32) <<< (x2 &&& 31))) v_number) fun r_5 =>
      if r_5 = 0 then (
        if r_5 = (4 : Int32) then (
          zlet (v_halfBits ||| ((1 : Int32) <<< (x2 &&& 31))) fun y_8 =>
          zs0 (zloop (fun q => f_Md_findFactor_l75 x1 x2 v_alone y_8 v_number q) zF ((0 : Int32))) fun  =>
          zlet (x2 + 1) fun y_10 =>
          some (.inl (y_10, y_8)))
        else (
          zs0 (zloop (fun q => f_Md_findFactor_l75 x1 x2 v_alone v_halfBits v_number q) zF ((0 : Int32))) fun  =>
          zlet (x2 + 1) fun y_12 =>
          some (.inl (y_12, v_halfBits))))
      else (
        if r_5 = (4 : Int32) then (
          if r_5 = (4 : Int32) then (
            zlet (v_halfBits ||| ((1 : Int32) <<< (x2 &&& 31))) fun y_15 =>
            zs0 (zloop (fun q => f_Md_findFactor_l75 x1 x2 v_alone y_15 v_number q) zF ((0 : Int32))) fun  =>
            zlet (x2 + 1) fun y_17 =>
            some (.inl (y_17, y_15)))
          else (
            zs0 (zloop (fun q => f_Md_findFactor_l75 x1 x2 v_alone v_halfBits v_number q) zF ((0 : Int32))) fun  =>
            zlet (x2 + 1) fun y_19 =>
            some (.inl (y_19, v_halfBits))))
        else (
          some (.inr (.inr ((0 : Int32), v_alone, v_halfBits)))))))
set_option maxRecDepth 100000 in
set_option maxHeartbeats 4000000 in
theorem k_Md_findFactor_l18 {p : Program} {l : Launch} {e : Env} {s : State} {m : MethodId} {args : Array Value} {below : List Frame} {meth : Method} {c : Code} {D : va_G} {cI cL : ClassId} {h_this h_this_number h_this_set h_this_constant h_this_ruleKind h_this_ruleBit h_this_ruleOther h_this_oldSet h_this_oldNumber h_this_allSets h_this_allNumbers h_this_root : Nat} {v_thrown v_wires v_isOpen v_isEmpty v_came v_there v_halves v_rules v_alone v_halfBits v_allMany rr o_alone o_halfBits x1 x2 : Int32} {v_number : Nat → Int32} (C : zC p s m args meth c b_Md_findFactor 5 R_Md D vwCl [(cI, .int), (cL, .long)] (zA [h_this, h_this_number] s.heap.size)) (hr : meth.sig.returnType = some .boolean) {z : (Int32 × Int32) ⊕ ((Int32) ⊕ (Int32 × Int32 × Int32))} (hf : f_Md_findFactor_l18 x1 v_alone v_number x2 v_halfBits = some z) (hK : zcase (fun q => ZV p l e rm_Md_findFactor s m args below meth c 5 D (some (.int rr)) [(h_this, .inr (5, [.int v_thrown, .int v_wires, .int v_isOpen, .int v_isEmpty, .int v_came, .int v_there, .int v_halves, .ref h_this_number, .ref h_this_set, .ref h_this_constant, .int v_rules, .ref h_this_ruleKind, .ref h_this_ruleBit, .ref h_this_ruleOther, .int o_alone, .int o_halfBits, .ref h_this_oldSet, .ref h_this_oldNumber, .ref h_this_allSets, .ref h_this_allNumbers, .int v_allMany, .ref h_this_root])), (h_this_number, .inl (cI, 15625, .inl v_number))] [h_this, h_this_number] [(h_this, .inr (5, [.int v_thrown, .int v_wires, .int v_isOpen, .int v_isEmpty, .int v_came, .int v_there, .int v_halves, .ref h_this_number, .ref h_this_set, .ref h_this_constant, .int v_rules, .ref h_this_ruleKind, .ref h_this_ruleBit, .ref h_this_ruleOther, .int v_alone, .int q.2, .ref h_this_oldSet, .ref h_this_oldNumber, .ref h_this_allSets, .ref h_this_allNumbers, .int v_allMany, .ref h_this_root])), (h_this_number, .inl (cI, 15625, .inl v_number))] 18 [(0, .ref h_this), (1, .int x1), (2, .int q.1)] []) (zcase (fun q => ZV p l e rm_Md_findFactor s m args below meth c 5 D (some (.int rr)) [(h_this, .inr (5, [.int v_thrown, .int v_wires, .int v_isOpen, .int v_isEmpty, .int v_came, .int v_there, .int v_halves, .ref h_this_number, .ref h_this_set, .ref h_this_constant, .int v_rules, .ref h_this_ruleKind, .ref h_this_ruleBit, .ref h_this_ruleOther, .int o_alone, .int o_halfBits, .ref h_this_oldSet, .ref h_this_oldNumber, .ref h_this_allSets, .ref h_this_allNumbers, .int v_allMany, .ref h_this_root])), (h_this_number, .inl (cI, 15625, .inl v_number))] [h_this, h_this_number] [(h_this, .inr (5, [.int v_thrown, .int v_wires, .int v_isOpen, .int v_isEmpty, .int v_came, .int v_there, .int v_halves, .ref h_this_number, .ref h_this_set, .ref h_this_constant, .int v_rules, .ref h_this_ruleKind, .ref h_this_ruleBit, .ref h_this_ruleOther, .int v_alone, .int q, .ref h_this_oldSet, .ref h_this_oldNumber, .ref h_this_allSets, .ref h_this_allNumbers, .int v_allMany, .ref h_this_root])), (h_this_number, .inl (cI, 15625, .inl v_number))] 120 [] []) (fun w => w = (rr, o_alone, o_halfBits))) z) : ZV p l e rm_Md_findFactor s m args below meth c 5 D (some (.int rr)) [(h_this, .inr (5, [.int v_thrown, .int v_wires, .int v_isOpen, .int v_isEmpty, .int v_came, .int v_there, .int v_halves, .ref h_this_number, .ref h_this_set, .ref h_this_constant, .int v_rules, .ref h_this_ruleKind, .ref h_this_ruleBit, .ref h_this_ruleOther, .int o_alone, .int o_halfBits, .ref h_this_oldSet, .ref h_this_oldNumber, .ref h_this_allSets, .ref h_this_allNumbers, .int v_allMany, .ref h_this_root])), (h_this_number, .inl (cI, 15625, .inl v_number))] [h_this, h_this_number] [(h_this, .inr (5, [.int v_thrown, .int v_wires, .int v_isOpen, .int v_isEmpty, .int v_came, .int v_there, .int v_halves, .ref h_this_number, .ref h_this_set, .ref h_this_constant, .int v_rules, .ref h_this_ruleKind, .ref h_this_ruleBit, .ref h_this_ruleOther, .int v_alone, .int v_halfBits, .ref h_this_oldSet, .ref h_this_oldNumber, .ref h_this_allSets, .ref h_this_allNumbers, .int v_allMany, .ref h_this_root])), (h_this_number, .inl (cI, 15625, .inl v_number))] 18 [(0, .ref h_this), (1, .int x1), (2, .int x2)] [] := by
  unfold f_Md_findFactor_l18 at hf
  refine z_iload_n C d_Md_findFactor_18 rfl 2 rfl ?_
  refine z_bipush (v := 24) C d_Md_findFactor_19 (by decide) ?_
  refine z_icmp_ge (tgt := 120) C d_Md_findFactor_21 (by decide) (fun c_1 => ?_) (fun c_1 => ?_)
  · have hf := zif_pos c_1 hf
    refine z_lv [] rfl ?_
    cases hf
    exact hK
  · have hf := zif_neg c_1 hf
    refine z_iload_n C d_Md_findFactor_24 rfl 2 rfl ?_
    refine z_iload_n C d_Md_findFactor_25 rfl 1 rfl ?_
    refine z_icmp_ne (tgt := 32) C d_Md_findFactor_26 (by decide) (fun c_2 => ?_) (fun c_2 => ?_)
    · have hf := zif_neg c_2 hf
      refine z_aload_n C d_Md_findFactor_32 rfl 0 rfl ?_
      refine z_iconst (v := 1) C d_Md_findFactor_33 (by decide) ?_
      refine z_iload_n C d_Md_findFactor_34 rfl 1 rfl ?_
      refine z_ishl C d_Md_findFactor_35 ?_
      refine z_iconst (v := 1) C d_Md_findFactor_36 (by decide) ?_
      refine z_iload_n C d_Md_findFactor_37 rfl 2 rfl ?_
      refine z_ishl C d_Md_findFactor_38 ?_
      refine z_ior C d_Md_findFactor_39 ?_
      obtain ⟨r_5, h_4, hf⟩ := zb1_elim hf
      refine z_callV (As := [.int (((1 : Int32) <<< (x1 &&& 31)) ||| ((1 : Int32) <<< (x2 &&& 31)))]) (rest := []) (ws' := [(h_this, .inr (5, [.int v_thrown, .int v_wires, .int v_isOpen, .int v_isEmpty, .int v_came, .int v_there, .int v_halves, .ref h_this_number, .ref h_this_set, .ref h_this_constant, .int v_rules, .ref h_this_ruleKind, .ref h_this_ruleBit, .ref h_this_ruleOther, .int v_alone, .int v_halfBits, .ref h_this_oldSet, .ref h_this_oldNumber, .ref h_this_allSets, .ref h_this_allNumbers, .int v_allMany, .ref h_this_root])), (h_this_number, .inl (cI, 15625, .inl v_number))]) C (c_Md_numberOf h_4) mi_Md_numberOf zw_646 (by decide) 0 rfl rfl [0, 1] (by decide) rfl rfl rfl rfl rfl (by decide) ⟨Nat.zero_le _, Nat.zero_le _⟩ d_Md_findFactor_40 ?_
      refine z_istore_n (lv' := [(3, .int r_5), (0, .ref h_this), (1, .int x1), (2, .int x2)]) C d_Md_findFactor_43 rfl (by decide) rfl ?_
      refine z_iload_n C d_Md_findFactor_44 rfl 0 rfl ?_
      refine z_if_eq (tgt := 55) C d_Md_findFactor_45 (by decide) (fun c_6 => ?_) (fun c_6 => ?_)
      · have hf := zif_pos c_6 hf
        refine z_iload_n C d_Md_findFactor_55 rfl 0 rfl ?_
        refine z_iconst (v := 4) C d_Md_findFactor_56 (by decide) ?_
        refine z_icmp_ne (tgt := 72) C d_Md_findFactor_57 (by decide) (fun c_7 => ?_) (fun c_7 => ?_)
        · have hf := zif_neg c_7 hf
          refine z_iconst (v := 0) C d_Md_findFactor_72 (by decide) ?_
          refine z_istore (lv' := [(4, .int (0 : Int32)), (3, .int r_5), (0, .ref h_this), (1, .int x1), (2, .int x2)]) C d_Md_findFactor_73 (by decide) rfl ?_
          refine z_lv [2, 3, 4, 0] rfl ?_
          rcases zs0_elim hf with ⟨, h_11, hf⟩ | ⟨w9, h_11, rfl⟩
          rotate_left
          · have hK : w9 = (rr, o_alone, o_halfBits) := hK
            subst hK
            exact k_Md_findFactor_l75_runR C hr h_11
          refine k_Md_findFactor_l75_run C hr h_11 ?_
          obtain ⟨y_12, ey_12⟩ : ∃ y : Int32, y = x2 + 1 := ⟨_, rfl⟩
          have hf := zlet_at ey_12 hf
          refine z_iinc (v := y_12) (lv' := [(2, .int y_12), (0, .ref h_this), (1, .int x1)]) C d_Md_findFactor_114 (k := 2) rfl (by rw [ey_12]; rfl) (by decide) rfl ?_
          refine z_goto (tgt := 18) C d_Md_findFactor_117 (by decide) ?_
          refine z_lv [1, 2, 0] rfl ?_
          cases hf
          exact hK
        · have hf := zif_pos c_7 hf
          refine z_aload_n C d_Md_findFactor_60 rfl 1 rfl ?_
          refine z_dup C d_Md_findFactor_61 rfl ?_
          refine z_get C iw_Md 0 rfl rfl 15 (by decide) zw_513 rfl d_Md_findFactor_62 ?_
          refine z_iconst (v := 1) C d_Md_findFactor_65 (by decide) ?_
          refine z_iload_n C d_Md_findFactor_66 rfl 3 rfl ?_
          refine z_ishl C d_Md_findFactor_67 ?_
          refine z_ior C d_Md_findFactor_68 ?_
          refine z_topi (fun y_8 ey_8 => ?_)
          have hf := zlet_at ey_8 hf
          refine z_put (ws' := [(h_this, .inr (5, [.int v_thrown, .int v_wires, .int v_isOpen, .int v_isEmpty, .int v_came, .int v_there, .int v_halves, .ref h_this_number, .ref h_this_set, .ref h_this_constant, .int v_rules, .ref h_this_ruleKind, .ref h_this_ruleBit, .ref h_this_ruleOther, .int v_alone, .int y_8, .ref h_this_oldSet, .ref h_this_oldNumber, .ref h_this_allSets, .ref h_this_allNumbers, .int v_allMany, .ref h_this_root])), (h_this_number, .inl (cI, 15625, .inl v_number))]) C iw_Md t_Md t_Md_ok n_Md 0 rfl rfl 15 (by decide) zw_513 rfl (ty := .int) rfl rfl rfl (by simp) d_Md_findFactor_69 rfl ?_
          refine z_iconst (v := 0) C d_Md_findFactor_72 (by decide) ?_
          refine z_istore (lv' := [(4, .int (0 : Int32)), (3, .int r_5), (0, .ref h_this), (1, .int x1), (2, .int x2)]) C d_Md_findFactor_73 (by decide) rfl ?_
          refine z_lv [2, 3, 4, 0] rfl ?_
          rcases zs0_elim hf with ⟨, h_9, hf⟩ | ⟨w9, h_9, rfl⟩
          rotate_left
          · have hK : w9 = (rr, o_alone, o_halfBits) := hK
            subst hK
            exact k_Md_findFactor_l75_runR C hr h_9
          refine k_Md_findFactor_l75_run C hr h_9 ?_
          obtain ⟨y_10, ey_10⟩ : ∃ y : Int32, y = x2 + 1 := ⟨_, rfl⟩
          have hf := zlet_at ey_10 hf
          refine z_iinc (v := y_10) (lv' := [(2, .int y_10), (0, .ref h_this), (1, .int x1)]) C d_Md_findFactor_114 (k := 2) rfl (by rw [ey_10]; rfl) (by decide) rfl ?_
          refine z_goto (tgt := 18) C d_Md_findFactor_117 (by decide) ?_
          refine z_lv [1, 2, 0] rfl ?_
          cases hf
          exact hK
      · have hf := zif_neg c_6 hf
        refine z_iload_n C d_Md_findFactor_48 rfl 0 rfl ?_
        refine z_iconst (v := 4) C d_Md_findFactor_49 (by decide) ?_
        refine z_icmp_eq (tgt := 55) C d_Md_findFactor_50 (by decide) (fun c_13 => ?_) (fun c_13 => ?_)
        · have hf := zif_pos c_13 hf
          refine z_iload_n C d_Md_findFactor_55 rfl 0 rfl ?_
          refine z_iconst (v := 4) C d_Md_findFactor_56 (by decide) ?_
          refine z_icmp_ne (tgt := 72) C d_Md_findFactor_57 (by decide) (fun c_14 => ?_) (fun c_14 => ?_)
          · have hf := zif_neg c_14 hf
            refine z_iconst (v := 0) C d_Md_findFactor_72 (by decide) ?_
            refine z_istore (lv' := [(4, .int (0 : Int32)), (3, .int r_5), (0, .ref h_this), (1, .int x1), (2, .int x2)]) C d_Md_findFactor_73 (by decide) rfl ?_
            refine z_lv [2, 3, 4, 0] rfl ?_
            rcases zs0_elim hf with ⟨, h_18, hf⟩ | ⟨w9, h_18, rfl⟩
            rotate_left
            · have hK : w9 = (rr, o_alone, o_halfBits) := hK
              subst hK
              exact k_Md_findFactor_l75_runR C hr h_18
            refine k_Md_findFactor_l75_run C hr h_18 ?_
            obtain ⟨y_19, ey_19⟩ : ∃ y : Int32, y = x2 + 1 := ⟨_, rfl⟩
            have hf := zlet_at ey_19 hf
            refine z_iinc (v := y_19) (lv' := [(2, .int y_19), (0, .ref h_this), (1, .int x1)]) C d_Md_findFactor_114 (k := 2) rfl (by rw [ey_19]; rfl) (by decide) rfl ?_
            refine z_goto (tgt := 18) C d_Md_findFactor_117 (by decide) ?_
            refine z_lv [1, 2, 0] rfl ?_
            cases hf
            exact hK
          · have hf := zif_pos c_14 hf
            refine z_aload_n C d_Md_findFactor_60 rfl 1 rfl ?_
            refine z_dup C d_Md_findFactor_61 rfl ?_
            refine z_get C iw_Md 0 rfl rfl 15 (by decide) zw_513 rfl d_Md_findFactor_62 ?_
            refine z_iconst (v := 1) C d_Md_findFactor_65 (by decide) ?_
            refine z_iload_n C d_Md_findFactor_66 rfl 3 rfl ?_
            refine z_ishl C d_Md_findFactor_67 ?_
            refine z_ior C d_Md_findFactor_68 ?_
            refine z_topi (fun y_15 ey_15 => ?_)
            have hf := zlet_at ey_15 hf
            refine z_put (ws' := [(h_this, .inr (5, [.int v_thrown, .int v_wires, .int v_isOpen, .int v_isEmpty, .int v_came, .int v_there, .int v_halves, .ref h_this_number, .ref h_this_set, .ref h_this_constant, .int v_rules, .ref h_this_ruleKind, .ref h_this_ruleBit, .ref h_this_ruleOther, .int v_alone, .int y_15, .ref h_this_oldSet, .ref h_this_oldNumber, .ref h_this_allSets, .ref h_this_allNumbers, .int v_allMany, .ref h_this_root])), (h_this_number, .inl (cI, 15625, .inl v_number))]) C iw_Md t_Md t_Md_ok n_Md 0 rfl rfl 15 (by decide) zw_513 rfl (ty := .int) rfl rfl rfl (by simp) d_Md_findFactor_69 rfl ?_
            refine z_iconst (v := 0) C d_Md_findFactor_72 (by decide) ?_
            refine z_istore (lv' := [(4, .int (0 : Int32)), (3, .int r_5), (0, .ref h_this), (1, .int x1), (2, .int x2)]) C d_Md_findFactor_73 (by decide) rfl ?_
            refine z_lv [2, 3, 4, 0] rfl ?_
            rcases zs0_elim hf with ⟨, h_16, hf⟩ | ⟨w9, h_16, rfl⟩
            rotate_left
            · have hK : w9 = (rr, o_alone, o_halfBits) := hK
              subst hK
              exact k_Md_findFactor_l75_runR C hr h_16
            refine k_Md_findFactor_l75_run C hr h_16 ?_
            obtain ⟨y_17, ey_17⟩ : ∃ y : Int32, y = x2 + 1 := ⟨_, rfl⟩
            have hf := zlet_at ey_17 hf
            refine z_iinc (v := y_17) (lv' := [(2, .int y_17), (0, .ref h_this), (1, .int x1)]) C d_Md_findFactor_114 (k := 2) rfl (by rw [ey_17]; rfl) (by decide) rfl ?_
            refine z_goto (tgt := 18) C d_Md_findFactor_117 (by decide) ?_
            refine z_lv [1, 2, 0] rfl ?_
            cases hf
            exact hK
        · have hf := zif_neg c_13 hf
          refine z_iconst (v := 0) C d_Md_findFactor_53 (by decide) ?_
          cases hf
          have hK : ((0 : Int32), v_alone, v_halfBits) = (rr, o_alone, o_halfBits) := hK
          cases hK
          exact z_zret C hr rfl d_Md_findFactor_54
    · have hf := zif_pos c_2 hf
      refine z_goto (tgt := 114) C d_Md_findFactor_29 (by decide) ?_
      obtain ⟨y_3, ey_3⟩ : ∃ y : Int32, y = x2 + 1 := ⟨_, rfl⟩
      have hf := zlet_at ey_3 hf
      refine z_iinc (v := y_3) (lv' := [(2, .int y_3), (0, .ref h_this), (1, .int x1)]) C d_Md_findFactor_114 (k := 2) rfl (by rw [ey_3]; rfl) (by decide) rfl ?_
      refine z_goto (tgt := 18) C d_Md_findFactor_117 (by decide) ?_
      refine z_lv [1, 2, 0] rfl ?_
      cases hf
      exact hK
theorem k_Md_findFactor_l18_run {p : Program} {l : Launch} {e : Env} {s : State} {m : MethodId} {args : Array Value} {below : List Frame} {meth : Method} {c : Code} {D : va_G} {cI cL : ClassId} {h_this h_this_number h_this_set h_this_constant h_this_ruleKind h_this_ruleBit h_this_ruleOther h_this_oldSet h_this_oldNumber h_this_allSets h_this_allNumbers h_this_root : Nat} {v_thrown v_wires v_isOpen v_isEmpty v_came v_there v_halves v_rules v_alone v_halfBits v_allMany rr o_alone o_halfBits x1 x2 : Int32} {v_number : Nat → Int32} (C : zC p s m args meth c b_Md_findFactor 5 R_Md D vwCl [(cI, .int), (cL, .long)] (zA [h_this, h_this_number] s.heap.size)) (hr : meth.sig.returnType = some .boolean) {o0 : Int32} (hf : zloop (fun q => f_Md_findFactor_l18 x1 v_alone v_number q.1 q.2) zF (x2, v_halfBits) = some (.inl o0)) (hK : ZV p l e rm_Md_findFactor s m args below meth c 5 D (some (.int rr)) [(h_this, .inr (5, [.int v_thrown, .int v_wires, .int v_isOpen, .int v_isEmpty, .int v_came, .int v_there, .int v_halves, .ref h_this_number, .ref h_this_set, .ref h_this_constant, .int v_rules, .ref h_this_ruleKind, .ref h_this_ruleBit, .ref h_this_ruleOther, .int o_alone, .int o_halfBits, .ref h_this_oldSet, .ref h_this_oldNumber, .ref h_this_allSets, .ref h_this_allNumbers, .int v_allMany, .ref h_this_root])), (h_this_number, .inl (cI, 15625, .inl v_number))] [h_this, h_this_number] [(h_this, .inr (5, [.int v_thrown, .int v_wires, .int v_isOpen, .int v_isEmpty, .int v_came, .int v_there, .int v_halves, .ref h_this_number, .ref h_this_set, .ref h_this_constant, .int v_rules, .ref h_this_ruleKind, .ref h_this_ruleBit, .ref h_this_ruleOther, .int v_alone, .int o0, .ref h_this_oldSet, .ref h_this_oldNumber, .ref h_this_allSets, .ref h_this_allNumbers, .int v_allMany, .ref h_this_root])), (h_this_number, .inl (cI, 15625, .inl v_number))] 120 [] []) : ZV p l e rm_Md_findFactor s m args below meth c 5 D (some (.int rr)) [(h_this, .inr (5, [.int v_thrown, .int v_wires, .int v_isOpen, .int v_isEmpty, .int v_came, .int v_there, .int v_halves, .ref h_this_number, .ref h_this_set, .ref h_this_constant, .int v_rules, .ref h_this_ruleKind, .ref h_this_ruleBit, .ref h_this_ruleOther, .int o_alone, .int o_halfBits, .ref h_this_oldSet, .ref h_this_oldNumber, .ref h_this_allSets, .ref h_this_allNumbers, .int v_allMany, .ref h_this_root])), (h_this_number, .inl (cI, 15625, .inl v_number))] [h_this, h_this_number] [(h_this, .inr (5, [.int v_thrown, .int v_wires, .int v_isOpen, .int v_isEmpty, .int v_came, .int v_there, .int v_halves, .ref h_this_number, .ref h_this_set, .ref h_this_constant, .int v_rules, .ref h_this_ruleKind, .ref h_this_ruleBit, .ref h_this_ruleOther, .int v_alone, .int v_halfBits, .ref h_this_oldSet, .ref h_this_oldNumber, .ref h_this_allSets, .ref h_this_allNumbers, .int v_allMany, .ref h_this_root])), (h_this_number, .inl (cI, 15625, .inl v_number))] 18 [(0, .ref h_this), (1, .int x1), (2, .int x2)] [] :=
  zloop_run (P := fun q => ZV p l e rm_Md_findFactor s m args below meth c 5 D (some (.int rr)) [(h_this, .inr (5, [.int v_thrown, .int v_wires, .int v_isOpen, .int v_isEmpty, .int v_came, .int v_there, .int v_halves, .ref h_this_number, .ref h_this_set, .ref h_this_constant, .int v_rules, .ref h_this_ruleKind, .ref h_this_ruleBit, .ref h_this_ruleOther, .int o_alone, .int o_halfBits, .ref h_this_oldSet, .ref h_this_oldNumber, .ref h_this_allSets, .ref h_this_allNumbers, .int v_allMany, .ref h_this_root])), (h_this_number, .inl (cI, 15625, .inl v_number))] [h_this, h_this_number] [(h_this, .inr (5, [.int v_thrown, .int v_wires, .int v_isOpen, .int v_isEmpty, .int v_came, .int v_there, .int v_halves, .ref h_this_number, .ref h_this_set, .ref h_this_constant, .int v_rules, .ref h_this_ruleKind, .ref h_this_ruleBit, .ref h_this_ruleOther, .int v_alone, .int q.2, .ref h_this_oldSet, .ref h_this_oldNumber, .ref h_this_allSets, .ref h_this_allNumbers, .int v_allMany, .ref h_this_root])), (h_this_number, .inl (cI, 15625, .inl v_number))] 18 [(0, .ref h_this), (1, .int x1), (2, .int q.1)] []) (K := (zcase (fun q => ZV p l e rm_Md_findFactor s m args below meth c 5 D (some (.int rr)) [(h_this, .inr (5, [.int v_thrown, .int v_wires, .int v_isOpen, .int v_isEmpty, .int v_came, .int v_there, .int v_halves, .ref h_this_number, .ref h_this_set, .ref h_this_constant, .int v_rules, .ref h_this_ruleKind, .ref h_this_ruleBit, .ref h_this_ruleOther, .int o_alone, .int o_halfBits, .ref h_this_oldSet, .ref h_this_oldNumber, .ref h_this_allSets, .ref h_this_allNumbers, .int v_allMany, .ref h_this_root])), (h_this_number, .inl (cI, 15625, .inl v_number))] [h_this, h_this_number] [(h_this, .inr (5, [.int v_thrown, .int v_wires, .int v_isOpen, .int v_isEmpty, .int v_came, .int v_there, .int v_halves, .ref h_this_number, .ref h_this_set, .ref h_this_constant, .int v_rules, .ref h_this_ruleKind, .ref h_this_ruleBit, .ref h_this_ruleOther, .int v_alone, .int q, .ref h_this_oldSet, .ref h_this_oldNumber, .ref h_this_allSets, .ref h_this_allNumbers, .int v_allMany, .ref h_this_root])), (h_this_number, .inl (cI, 15625, .inl v_number))] 120 [] []) (fun w => w = (rr, o_alone, o_halfBits)))) (fun q z hz hK => k_Md_findFactor_l18 C hr hz hK) zF _ ((.inl o0)) hf hK
theorem k_Md_findFactor_l18_runR {p : Program} {l : Launch} {e : Env} {s : State} {m : MethodId} {args : Array Value} {below : List Frame} {meth : Method} {c : Code} {D : va_G} {cI cL : ClassId} {h_this h_this_number h_this_set h_this_constant h_this_ruleKind h_this_ruleBit h_this_ruleOther h_this_oldSet h_this_oldNumber h_this_allSets h_this_allNumbers h_this_root : Nat} {v_thrown v_wires v_isOpen v_isEmpty v_came v_there v_halves v_rules v_alone v_halfBits v_allMany rr o_alone o_halfBits x1 x2 : Int32} {v_number : Nat → Int32} (C : zC p s m args meth c b_Md_findFactor 5 R_Md D vwCl [(cI, .int), (cL, .long)] (zA [h_this, h_this_number] s.heap.size)) (hr : meth.sig.returnType = some .boolean) (hf : zloop (fun q => f_Md_findFactor_l18 x1 v_alone v_number q.1 q.2) zF (x2, v_halfBits) = some (.inr (rr, o_alone, o_halfBits))) : ZV p l e rm_Md_findFactor s m args below meth c 5 D (some (.int rr)) [(h_this, .inr (5, [.int v_thrown, .int v_wires, .int v_isOpen, .int v_isEmpty, .int v_came, .int v_there, .int v_halves, .ref h_this_number, .ref h_this_set, .ref h_this_constant, .int v_rules, .ref h_this_ruleKind, .ref h_this_ruleBit, .ref h_this_ruleOther, .int o_alone, .int o_halfBits, .ref h_this_oldSet, .ref h_this_oldNumber, .ref h_this_allSets, .ref h_this_allNumbers, .int v_allMany, .ref h_this_root])), (h_this_number, .inl (cI, 15625, .inl v_number))] [h_this, h_this_number] [(h_this, .inr (5, [.int v_thrown, .int v_wires, .int v_isOpen, .int v_isEmpty, .int v_came, .int v_there, .int v_halves, .ref h_this_number, .ref h_this_set, .ref h_this_constant, .int v_rules, .ref h_this_ruleKind, .ref h_this_ruleBit, .ref h_this_ruleOther, .int v_alone, .int v_halfBits, .ref h_this_oldSet, .ref h_this_oldNumber, .ref h_this_allSets, .ref h_this_allNumbers, .int v_allMany, .ref h_this_root])), (h_this_number, .inl (cI, 15625, .inl v_number))] 18 [(0, .ref h_this), (1, .int x1), (2, .int x2)] [] :=
  zloop_run (P := fun q => ZV p l e rm_Md_findFactor s m args below meth c 5 D (some (.int rr)) [(h_this, .inr (5, [.int v_thrown, .int v_wires, .int v_isOpen, .int v_isEmpty, .int v_came, .int v_there, .int v_halves, .ref h_this_number, .ref h_this_set, .ref h_this_constant, .int v_rules, .ref h_this_ruleKind, .ref h_this_ruleBit, .ref h_this_ruleOther, .int o_alone, .int o_halfBits, .ref h_this_oldSet, .ref h_this_oldNumber, .ref h_this_allSets, .ref h_this_allNumbers, .int v_allMany, .ref h_this_root])), (h_this_number, .inl (cI, 15625, .inl v_number))] [h_this, h_this_number] [(h_this, .inr (5, [.int v_thrown, .int v_wires, .int v_isOpen, .int v_isEmpty, .int v_came, .int v_there, .int v_halves, .ref h_this_number, .ref h_this_set, .ref h_this_constant, .int v_rules, .ref h_this_ruleKind, .ref h_this_ruleBit, .ref h_this_ruleOther, .int v_alone, .int q.2, .ref h_this_oldSet, .ref h_this_oldNumber, .ref h_this_allSets, .ref h_this_allNumbers, .int v_allMany, .ref h_this_root])), (h_this_number, .inl (cI, 15625, .inl v_number))] 18 [(0, .ref h_this), (1, .int x1), (2, .int q.1)] []) (K := (zcase (fun q => ZV p l e rm_Md_findFactor s m args below meth c 5 D (some (.int rr)) [(h_this, .inr (5, [.int v_thrown, .int v_wires, .int v_isOpen, .int v_isEmpty, .int v_came, .int v_there, .int v_halves, .ref h_this_number, .ref h_this_set, .ref h_this_constant, .int v_rules, .ref h_this_ruleKind, .ref h_this_ruleBit, .ref h_this_ruleOther, .int o_alone, .int o_halfBits, .ref h_this_oldSet, .ref h_this_oldNumber, .ref h_this_allSets, .ref h_this_allNumbers, .int v_allMany, .ref h_this_root])), (h_this_number, .inl (cI, 15625, .inl v_number))] [h_this, h_this_number] [(h_this, .inr (5, [.int v_thrown, .int v_wires, .int v_isOpen, .int v_isEmpty, .int v_came, .int v_there, .int v_halves, .ref h_this_number, .ref h_this_set, .ref h_this_constant, .int v_rules, .ref h_this_ruleKind, .ref h_this_ruleBit, .ref h_this_ruleOther, .int v_alone, .int q, .ref h_this_oldSet, .ref h_this_oldNumber, .ref h_this_allSets, .ref h_this_allNumbers, .int v_allMany, .ref h_this_root])), (h_this_number, .inl (cI, 15625, .inl v_number))] 120 [] []) (fun w => w = (rr, o_alone, o_halfBits)))) (fun q z hz hK => k_Md_findFactor_l18 C hr hz hK) zF _ (.inr (rr, o_alone, o_halfBits)) hf rfl
/-- PathSumsModel.findFactor(I)Z -/
def f_Md_findFactor (x1 : Int32) (v_alone : Int32) (v_halfBits : Int32) (v_number : Nat → Int32) : Option (Int32 × Int32 × Int32) :=
  zb1 (f_Md_numberOf ((1 : Int32) <<< (x1 &&& 31)) v_number) fun r_2 =>
  zr1 (zloop (fun q => f_Md_findFactor_l18 x1 r_2 v_number q.1 q.2) zF ((0 : Int32), (0 : Int32))) fun q_3 =>
  some ((1 : Int32), r_2, q_3)
set_option maxRecDepth 100000 in
set_option maxHeartbeats 4000000 in
theorem k_Md_findFactor {p : Program} {l : Launch} {e : Env} {s : State} {m : MethodId} {args : Array Value} {below : List Frame} {meth : Method} {c : Code} {D : va_G} {cI cL : ClassId} {h_this h_this_number h_this_set h_this_constant h_this_ruleKind h_this_ruleBit h_this_ruleOther h_this_oldSet h_this_oldNumber h_this_allSets h_this_allNumbers h_this_root : Nat} {v_thrown v_wires v_isOpen v_isEmpty v_came v_there v_halves v_rules v_alone v_halfBits v_allMany rr o_alone o_halfBits x1 : Int32} {v_number : Nat → Int32} (C : zC p s m args meth c b_Md_findFactor 5 R_Md D vwCl [(cI, .int), (cL, .long)] (zA [h_this, h_this_number] s.heap.size)) (hr : meth.sig.returnType = some .boolean) (hf : f_Md_findFactor x1 v_alone v_halfBits v_number = some (rr, o_alone, o_halfBits)) : ZV p l e rm_Md_findFactor s m args below meth c 5 D (some (.int rr)) [(h_this, .inr (5, [.int v_thrown, .int v_wires, .int v_isOpen, .int v_isEmpty, .int v_came, .int v_there, .int v_halves, .ref h_this_number, .ref h_this_set, .ref h_this_constant, .int v_rules, .ref h_this_ruleKind, .ref h_this_ruleBit, .ref h_this_ruleOther, .int o_alone, .int o_halfBits, .ref h_this_oldSet, .ref h_this_oldNumber, .ref h_this_allSets, .ref h_this_allNumbers, .int v_allMany, .ref h_this_root])), (h_this_number, .inl (cI, 15625, .inl v_number))] [h_this, h_this_number] [(h_this, .inr (5, [.int v_thrown, .int v_wires, .int v_isOpen, .int v_isEmpty, .int v_came, .int v_there, .int v_halves, .ref h_this_number, .ref h_this_set, .ref h_this_constant, .int v_rules, .ref h_this_ruleKind, .ref h_this_ruleBit, .ref h_this_ruleOther, .int v_alone, .int v_halfBits, .ref h_this_oldSet, .ref h_this_oldNumber, .ref h_this_allSets, .ref h_this_allNumbers, .int v_allMany, .ref h_this_root])), (h_this_number, .inl (cI, 15625, .inl v_number))] 0 [(0, .ref h_this), (1, .int x1)] [] := by
  unfold f_Md_findFactor at hf
  refine z_aload_n C d_Md_findFactor_0 rfl 0 rfl ?_
  refine z_aload_n C d_Md_findFactor_1 rfl 0 rfl ?_
  refine z_iconst (v := 1) C d_Md_findFactor_2 (by decide) ?_
  refine z_iload_n C d_Md_findFactor_3 rfl 1 rfl ?_
  refine z_ishl C d_Md_findFactor_4 ?_
  obtain ⟨r_2, h_1, hf⟩ := zb1_elim hf
  refine z_callV (As := [.int ((1 : Int32) <<< (x1 &&& 31))]) (rest := [.ref h_this]) (ws' := [(h_this, .inr (5, [.int v_thrown, .int v_wires, .int v_isOpen, .int v_isEmpty, .int v_came, .int v_there, .int v_halves, .ref h_this_number, .ref h_this_set, .ref h_this_constant, .int v_rules, .ref h_this_ruleKind, .ref h_this_ruleBit, .ref h_this_ruleOther, .int v_alone, .int v_halfBits, .ref h_this_oldSet, .ref h_this_oldNumber, .ref h_this_allSets, .ref h_this_allNumbers, .int v_allMany, .ref h_this_root])), (h_this_number, .inl (cI, 15625, .inl v_number))]) C (c_Md_numberOf h_1) mi_Md_numberOf zw_646 (by decide) 0 rfl rfl [0, 1] (by decide) rfl rfl rfl rfl rfl (by decide) ⟨Nat.zero_le _, Nat.zero_le _⟩ d_Md_findFactor_5 ?_
  refine z_put (ws' := [(h_this, .inr (5, [.int v_thrown, .int v_wires, .int v_isOpen, .int v_isEmpty, .int v_came, .int v_there, .int v_halves, .ref h_this_number, .ref h_this_set, .ref h_this_constant, .int v_rules, .ref h_this_ruleKind, .ref h_this_ruleBit, .ref h_this_ruleOther, .int r_2, .int v_halfBits, .ref h_this_oldSet, .ref h_this_oldNumber, .ref h_this_allSets, .ref h_this_allNumbers, .int v_allMany, .ref h_this_root])), (h_this_number, .inl (cI, 15625, .inl v_number))]) C iw_Md t_Md t_Md_ok n_Md 0 rfl rfl 14 (by decide) zw_512 rfl (ty := .int) rfl rfl rfl (by simp) d_Md_findFactor_8 rfl ?_
  refine z_aload_n C d_Md_findFactor_11 rfl 0 rfl ?_
  refine z_iconst (v := 0) C d_Md_findFactor_12 (by decide) ?_
  refine z_put (ws' := [(h_this, .inr (5, [.int v_thrown, .int v_wires, .int v_isOpen, .int v_isEmpty, .int v_came, .int v_there, .int v_halves, .ref h_this_number, .ref h_this_set, .ref h_this_constant, .int v_rules, .ref h_this_ruleKind, .ref h_this_ruleBit, .ref h_this_ruleOther, .int r_2, .int (0 : Int32), .ref h_this_oldSet, .ref h_this_oldNumber, .ref h_this_allSets, .ref h_this_allNumbers, .int v_allMany, .ref h_this_root])), (h_this_number, .inl (cI, 15625, .inl v_number))]) C iw_Md t_Md t_Md_ok n_Md 0 rfl rfl 15 (by decide) zw_513 rfl (ty := .int) rfl rfl rfl (by simp) d_Md_findFactor_13 rfl ?_
  refine z_iconst (v := 0) C d_Md_findFactor_16 (by decide) ?_
  refine z_istore_n (lv' := [(2, .int (0 : Int32)), (0, .ref h_this), (1, .int x1)]) C d_Md_findFactor_17 rfl (by decide) rfl ?_
  refine z_lv [1, 2, 0] rfl ?_
  rcases zr1_elim hf with ⟨q_3, h_4, hf⟩ | h_4
  rotate_left
  · exact k_Md_findFactor_l18_runR C hr h_4
  refine k_Md_findFactor_l18_run C hr h_4 ?_
  refine z_iconst (v := 1) C d_Md_findFactor_120 (by decide) ?_
  cases hf
  exact z_zret C hr rfl d_Md_findFactor_121
theorem c_Md_findFactor {l : Launch} {D : va_G} {cI cL : ClassId} {h_this h_this_number h_this_set h_this_constant h_this_ruleKind h_this_ruleBit h_this_ruleOther h_this_oldSet h_this_oldNumber h_this_allSets h_this_allNumbers h_this_root : Nat} {v_thrown v_wires v_isOpen v_isEmpty v_came v_there v_halves v_rules v_alone v_halfBits v_allMany rr o_alone o_halfBits x1 : Int32} {v_number : Nat → Int32} (hf : f_Md_findFactor x1 v_alone v_halfBits v_number = some (rr, o_alone, o_halfBits)) : zM l y_Md_findFactor (Cond.code y_Md_findFactor b_Md_findFactor 5 (some .boolean) :: zT) rm_Md_findFactor D vwCl [(cI, .int), (cL, .long)] [.ref h_this, .int x1] [(h_this, .inr (5, [.int v_thrown, .int v_wires, .int v_isOpen, .int v_isEmpty, .int v_came, .int v_there, .int v_halves, .ref h_this_number, .ref h_this_set, .ref h_this_constant, .int v_rules, .ref h_this_ruleKind, .ref h_this_ruleBit, .ref h_this_ruleOther, .int v_alone, .int v_halfBits, .ref h_this_oldSet, .ref h_this_oldNumber, .ref h_this_allSets, .ref h_this_allNumbers, .int v_allMany, .ref h_this_root])), (h_this_number, .inl (cI, 15625, .inl v_number))] [(h_this, .inr (5, [.int v_thrown, .int v_wires, .int v_isOpen, .int v_isEmpty, .int v_came, .int v_there, .int v_halves, .ref h_this_number, .ref h_this_set, .ref h_this_constant, .int v_rules, .ref h_this_ruleKind, .ref h_this_ruleBit, .ref h_this_ruleOther, .int o_alone, .int o_halfBits, .ref h_this_oldSet, .ref h_this_oldNumber, .ref h_this_allSets, .ref h_this_allNumbers, .int v_allMany, .ref h_this_root])), (h_this_number, .inl (cI, 15625, .inl v_number))] (some (.int rr)) :=
  zM.intro (by decide) rfl (fun _ h => List.mem_cons_of_mem _ h) (Nat.le_of_ble_eq_true rfl) (fun _ _ _ _ _ _ _ C hr _ => k_Md_findFactor C hr hf)
def rm_Md_ruleFor : Room := { frames := 3, cells := 0, slots := 0, locals := 68 }
def f_Md_ruleFor_j90 (t0 : Int32) (v_wires : Int32) (v_isOpen : Int32) (v_there : Int32) (v_alone : Int32) (v_halfBits : Int32) (v_set : Nat → Int32) (v_number : Nat → Int32) : Option (Int32 × Int32 × Int32) :=
  if t0 = 0 then (
    some ((0 : Int32), v_alone, v_halfBits))
  else (
    if (v_halfBits &&& ((f_Md_inputs v_wires v_isOpen) ^^^ (-1 : Int32))) = 0 then (
      some ((0 : Int32), v_alone, v_halfBits))
    else (
      some ((3 : Int32), v_alone, v_halfBits)))
set_option maxRecDepth 100000 in
set_option maxHeartbeats 4000000 in
theorem k_Md_ruleFor_j90 {p : Program} {l : Launch} {e : Env} {s : State} {m : MethodId} {args : Array Value} {below : List Frame} {meth : Method} {c : Code} {D : va_G} {cI cL : ClassId} {h_this h_this_number h_this_set h_this_constant h_this_ruleKind h_this_ruleBit h_this_ruleOther h_this_oldSet h_this_oldNumber h_this_allSets h_this_allNumbers h_this_root : Nat} {v_thrown v_wires v_isOpen v_isEmpty v_came v_there v_halves v_rules v_alone v_halfBits v_allMany rr o_alone o_halfBits : Int32} {v_set v_number : Nat → Int32} {t0 : Int32} (C : zC p s m args meth c b_Md_ruleFor 3 R_Md D vwCl [(cI, .int), (cL, .long)] (zA [h_this, h_this_set, h_this_number] s.heap.size)) (hr : meth.sig.returnType = some .int) (hf : f_Md_ruleFor_j90 t0 v_wires v_isOpen v_there v_alone v_halfBits v_set v_number = some (rr, o_alone, o_halfBits)) : ZV p l e rm_Md_ruleFor s m args below meth c 3 D (some (.int rr)) [(h_this, .inr (5, [.int v_thrown, .int v_wires, .int v_isOpen, .int v_isEmpty, .int v_came, .int v_there, .int v_halves, .ref h_this_number, .ref h_this_set, .ref h_this_constant, .int v_rules, .ref h_this_ruleKind, .ref h_this_ruleBit, .ref h_this_ruleOther, .int o_alone, .int o_halfBits, .ref h_this_oldSet, .ref h_this_oldNumber, .ref h_this_allSets, .ref h_this_allNumbers, .int v_allMany, .ref h_this_root])), (h_this_set, .inl (cI, 6, .inl v_set)), (h_this_number, .inl (cI, 15625, .inl v_number))] [h_this, h_this_set, h_this_number] [(h_this, .inr (5, [.int v_thrown, .int v_wires, .int v_isOpen, .int v_isEmpty, .int v_came, .int v_there, .int v_halves, .ref h_this_number, .ref h_this_set, .ref h_this_constant, .int v_rules, .ref h_this_ruleKind, .ref h_this_ruleBit, .ref h_this_ruleOther, .int v_alone, .int v_halfBits, .ref h_this_oldSet, .ref h_this_oldNumber, .ref h_this_allSets, .ref h_this_allNumbers, .int v_allMany, .ref h_this_root])), (h_this_set, .inl (cI, 6, .inl v_set)), (h_this_number, .inl (cI, 15625, .inl v_number))] 90 [(0, .ref h_this)] [.int t0] := by
  unfold f_Md_ruleFor_j90 at hf
  refine z_istore_n (lv' := [(2, .int t0), (0, .ref h_this)]) C d_Md_ruleFor_90 rfl (by decide) rfl ?_
  refine z_iload_n C d_Md_ruleFor_91 rfl 0 rfl ?_
  refine z_if_eq (tgt := 113) C d_Md_ruleFor_92 (by decide) (fun c_1 => ?_) (fun c_1 => ?_)
  · have hf := zif_pos c_1 hf
    refine z_iconst (v := 0) C d_Md_ruleFor_113 (by decide) ?_
    cases hf
    exact z_iret C hr d_Md_ruleFor_114
  · have hf := zif_neg c_1 hf
    refine z_aload_n C d_Md_ruleFor_95 rfl 1 rfl ?_
    refine z_get C iw_Md 0 rfl rfl 15 (by decide) zw_513 rfl d_Md_ruleFor_96 ?_
    refine z_aload_n C d_Md_ruleFor_99 rfl 1 rfl ?_
    refine z_callV (As := []) (rest := [.int v_halfBits]) (ws' := [(h_this, .inr (5, [.int v_thrown, .int v_wires, .int v_isOpen, .int v_isEmpty, .int v_came, .int v_there, .int v_halves, .ref h_this_number, .ref h_this_set, .ref h_this_constant, .int v_rules, .ref h_this_ruleKind, .ref h_this_ruleBit, .ref h_this_ruleOther, .int v_alone, .int v_halfBits, .ref h_this_oldSet, .ref h_this_oldNumber, .ref h_this_allSets, .ref h_this_allNumbers, .int v_allMany, .ref h_this_root])), (h_this_set, .inl (cI, 6, .inl v_set)), (h_this_number, .inl (cI, 15625, .inl v_number))]) C (c_Md_inputs rfl) mi_Md_inputs zw_638 (by decide) 0 rfl rfl [0] (by decide) rfl rfl rfl rfl rfl (by decide) ⟨Nat.zero_le _, Nat.zero_le _⟩ d_Md_ruleFor_100 ?_
    refine z_iconst (v := -1) C d_Md_ruleFor_103 (by decide) ?_
    refine z_ixor C d_Md_ruleFor_104 ?_
    refine z_iand C d_Md_ruleFor_105 ?_
    refine z_if_eq (tgt := 113) C d_Md_ruleFor_106 (by decide) (fun c_3 => ?_) (fun c_3 => ?_)
    · have hf := zif_pos c_3 hf
      refine z_iconst (v := 0) C d_Md_ruleFor_113 (by decide) ?_
      cases hf
      exact z_iret C hr d_Md_ruleFor_114
    · have hf := zif_neg c_3 hf
      refine z_iconst (v := 3) C d_Md_ruleFor_109 (by decide) ?_
      refine z_goto (tgt := 114) C d_Md_ruleFor_110 (by decide) ?_
      cases hf
      exact z_iret C hr d_Md_ruleFor_114
def f_Md_ruleFor_j85 (v_wires : Int32) (v_isOpen : Int32) (v_there : Int32) (v_alone : Int32) (v_halfBits : Int32) (v_set : Nat → Int32) (v_number : Nat → Int32) : Option (Int32 × Int32 × Int32) :=
  f_Md_ruleFor_j90 (1 : Int32) v_wires v_isOpen v_there v_alone v_halfBits v_set v_number
set_option maxRecDepth 100000 in
set_option maxHeartbeats 4000000 in
theorem k_Md_ruleFor_j85 {p : Program} {l : Launch} {e : Env} {s : State} {m : MethodId} {args : Array Value} {below : List Frame} {meth : Method} {c : Code} {D : va_G} {cI cL : ClassId} {h_this h_this_number h_this_set h_this_constant h_this_ruleKind h_this_ruleBit h_this_ruleOther h_this_oldSet h_this_oldNumber h_this_allSets h_this_allNumbers h_this_root : Nat} {v_thrown v_wires v_isOpen v_isEmpty v_came v_there v_halves v_rules v_alone v_halfBits v_allMany rr o_alone o_halfBits : Int32} {v_set v_number : Nat → Int32}  (C : zC p s m args meth c b_Md_ruleFor 3 R_Md D vwCl [(cI, .int), (cL, .long)] (zA [h_this, h_this_set, h_this_number] s.heap.size)) (hr : meth.sig.returnType = some .int) (hf : f_Md_ruleFor_j85 v_wires v_isOpen v_there v_alone v_halfBits v_set v_number = some (rr, o_alone, o_halfBits)) : ZV p l e rm_Md_ruleFor s m args below meth c 3 D (some (.int rr)) [(h_this, .inr (5, [.int v_thrown, .int v_wires, .int v_isOpen, .int v_isEmpty, .int v_came, .int v_there, .int v_halves, .ref h_this_number, .ref h_this_set, .ref h_this_constant, .int v_rules, .ref h_this_ruleKind, .ref h_this_ruleBit, .ref h_this_ruleOther, .int o_alone, .int o_halfBits, .ref h_this_oldSet, .ref h_this_oldNumber, .ref h_this_allSets, .ref h_this_allNumbers, .int v_allMany, .ref h_this_root])), (h_this_set, .inl (cI, 6, .inl v_set)), (h_this_number, .inl (cI, 15625, .inl v_number))] [h_this, h_this_set, h_this_number] [(h_this, .inr (5, [.int v_thrown, .int v_wires, .int v_isOpen, .int v_isEmpty, .int v_came, .int v_there, .int v_halves, .ref h_this_number, .ref h_this_set, .ref h_this_constant, .int v_rules, .ref h_this_ruleKind, .ref h_this_ruleBit, .ref h_this_ruleOther, .int v_alone, .int v_halfBits, .ref h_this_oldSet, .ref h_this_oldNumber, .ref h_this_allSets, .ref h_this_allNumbers, .int v_allMany, .ref h_this_root])), (h_this_set, .inl (cI, 6, .inl v_set)), (h_this_number, .inl (cI, 15625, .inl v_number))] 85 [(0, .ref h_this)] [] := by
  unfold f_Md_ruleFor_j85 at hf
  refine z_iconst (v := 1) C d_Md_ruleFor_85 (by decide) ?_
  refine z_goto (tgt := 90) C d_Md_ruleFor_86 (by decide) ?_
  exact k_Md_ruleFor_j90 C hr hf
def f_Md_ruleFor_j51 (v_wires : Int32) (v_isOpen : Int32) (v_there : Int32) (v_alone : Int32) (v_halfBits : Int32) (v_set : Nat → Int32) (v_number : Nat → Int32) : Option (Int32 × Int32 × Int32) :=
  if v_alone = (2 : Int32) then (
    some ((4 : Int32), v_alone, v_halfBits))
  else (
    if v_alone = (6 : Int32) then (
      some ((4 : Int32), v_alone, v_halfBits))
    else (
      if v_alone = 0 then (
        f_Md_ruleFor_j85 v_wires v_isOpen v_there v_alone v_halfBits v_set v_number)
      else (
        if v_alone = (4 : Int32) then (
          f_Md_ruleFor_j85 v_wires v_isOpen v_there v_alone v_halfBits v_set v_number)
        else (
          f_Md_ruleFor_j90 (0 : Int32) v_wires v_isOpen v_there v_alone v_halfBits v_set v_number))))
set_option maxRecDepth 100000 in
set_option maxHeartbeats 4000000 in
theorem k_Md_ruleFor_j51 {p : Program} {l : Launch} {e : Env} {s : State} {m : MethodId} {args : Array Value} {below : List Frame} {meth : Method} {c : Code} {D : va_G} {cI cL : ClassId} {h_this h_this_number h_this_set h_this_constant h_this_ruleKind h_this_ruleBit h_this_ruleOther h_this_oldSet h_this_oldNumber h_this_allSets h_this_allNumbers h_this_root : Nat} {v_thrown v_wires v_isOpen v_isEmpty v_came v_there v_halves v_rules v_alone v_halfBits v_allMany rr o_alone o_halfBits : Int32} {v_set v_number : Nat → Int32}  (C : zC p s m args meth c b_Md_ruleFor 3 R_Md D vwCl [(cI, .int), (cL, .long)] (zA [h_this, h_this_set, h_this_number] s.heap.size)) (hr : meth.sig.returnType = some .int) (hf : f_Md_ruleFor_j51 v_wires v_isOpen v_there v_alone v_halfBits v_set v_number = some (rr, o_alone, o_halfBits)) : ZV p l e rm_Md_ruleFor s m args below meth c 3 D (some (.int rr)) [(h_this, .inr (5, [.int v_thrown, .int v_wires, .int v_isOpen, .int v_isEmpty, .int v_came, .int v_there, .int v_halves, .ref h_this_number, .ref h_this_set, .ref h_this_constant, .int v_rules, .ref h_this_ruleKind, .ref h_this_ruleBit, .ref h_this_ruleOther, .int o_alone, .int o_halfBits, .ref h_this_oldSet, .ref h_this_oldNumber, .ref h_this_allSets, .ref h_this_allNumbers, .int v_allMany, .ref h_this_root])), (h_this_set, .inl (cI, 6, .inl v_set)), (h_this_number, .inl (cI, 15625, .inl v_number))] [h_this, h_this_set, h_this_number] [(h_this, .inr (5, [.int v_thrown, .int v_wires, .int v_isOpen, .int v_isEmpty, .int v_came, .int v_there, .int v_halves, .ref h_this_number, .ref h_this_set, .ref h_this_constant, .int v_rules, .ref h_this_ruleKind, .ref h_this_ruleBit, .ref h_this_ruleOther, .int v_alone, .int v_halfBits, .ref h_this_oldSet, .ref h_this_oldNumber, .ref h_this_allSets, .ref h_this_allNumbers, .int v_allMany, .ref h_this_root])), (h_this_set, .inl (cI, 6, .inl v_set)), (h_this_number, .inl (cI, 15625, .inl v_number))] 51 [(0, .ref h_this)] [] := by
  unfold f_Md_ruleFor_j51 at hf
  refine z_aload_n C d_Md_ruleFor_51 rfl 0 rfl ?_
  refine z_get C iw_Md 0 rfl rfl 14 (by decide) zw_512 rfl d_Md_ruleFor_52 ?_
  refine z_iconst (v := 2) C d_Md_ruleFor_55 (by decide) ?_
  refine z_icmp_eq (tgt := 68) C d_Md_ruleFor_56 (by decide) (fun c_1 => ?_) (fun c_1 => ?_)
  · have hf := zif_pos c_1 hf
    refine z_iconst (v := 4) C d_Md_ruleFor_68 (by decide) ?_
    cases hf
    exact z_iret C hr d_Md_ruleFor_69
  · have hf := zif_neg c_1 hf
    refine z_aload_n C d_Md_ruleFor_59 rfl 0 rfl ?_
    refine z_get C iw_Md 0 rfl rfl 14 (by decide) zw_512 rfl d_Md_ruleFor_60 ?_
    refine z_bipush (v := 6) C d_Md_ruleFor_63 (by decide) ?_
    refine z_icmp_ne (tgt := 70) C d_Md_ruleFor_65 (by decide) (fun c_2 => ?_) (fun c_2 => ?_)
    · have hf := zif_neg c_2 hf
      refine z_aload_n C d_Md_ruleFor_70 rfl 0 rfl ?_
      refine z_get C iw_Md 0 rfl rfl 14 (by decide) zw_512 rfl d_Md_ruleFor_71 ?_
      refine z_if_eq (tgt := 85) C d_Md_ruleFor_74 (by decide) (fun c_3 => ?_) (fun c_3 => ?_)
      · have hf := zif_pos c_3 hf
        exact k_Md_ruleFor_j85 C hr hf
      · have hf := zif_neg c_3 hf
        refine z_aload_n C d_Md_ruleFor_77 rfl 0 rfl ?_
        refine z_get C iw_Md 0 rfl rfl 14 (by decide) zw_512 rfl d_Md_ruleFor_78 ?_
        refine z_iconst (v := 4) C d_Md_ruleFor_81 (by decide) ?_
        refine z_icmp_ne (tgt := 89) C d_Md_ruleFor_82 (by decide) (fun c_4 => ?_) (fun c_4 => ?_)
        · have hf := zif_neg c_4 hf
          refine z_iconst (v := 0) C d_Md_ruleFor_89 (by decide) ?_
          exact k_Md_ruleFor_j90 C hr hf
        · have hf := zif_pos c_4 hf
          exact k_Md_ruleFor_j85 C hr hf
    · have hf := zif_pos c_2 hf
      refine z_iconst (v := 4) C d_Md_ruleFor_68 (by decide) ?_
      cases hf
      exact z_iret C hr d_Md_ruleFor_69
def f_Md_ruleFor_j34 (v_wires : Int32) (v_isOpen : Int32) (v_there : Int32) (v_alone : Int32) (v_halfBits : Int32) (v_set : Nat → Int32) (v_number : Nat → Int32) : Option (Int32 × Int32 × Int32) :=
  if v_halfBits = 0 then (
    if v_alone = (4 : Int32) then (
      some ((2 : Int32), v_alone, v_halfBits))
    else (
      f_Md_ruleFor_j51 v_wires v_isOpen v_there v_alone v_halfBits v_set v_number))
  else (
    f_Md_ruleFor_j51 v_wires v_isOpen v_there v_alone v_halfBits v_set v_number)
set_option maxRecDepth 100000 in
set_option maxHeartbeats 4000000 in
theorem k_Md_ruleFor_j34 {p : Program} {l : Launch} {e : Env} {s : State} {m : MethodId} {args : Array Value} {below : List Frame} {meth : Method} {c : Code} {D : va_G} {cI cL : ClassId} {h_this h_this_number h_this_set h_this_constant h_this_ruleKind h_this_ruleBit h_this_ruleOther h_this_oldSet h_this_oldNumber h_this_allSets h_this_allNumbers h_this_root : Nat} {v_thrown v_wires v_isOpen v_isEmpty v_came v_there v_halves v_rules v_alone v_halfBits v_allMany rr o_alone o_halfBits : Int32} {v_set v_number : Nat → Int32}  (C : zC p s m args meth c b_Md_ruleFor 3 R_Md D vwCl [(cI, .int), (cL, .long)] (zA [h_this, h_this_set, h_this_number] s.heap.size)) (hr : meth.sig.returnType = some .int) (hf : f_Md_ruleFor_j34 v_wires v_isOpen v_there v_alone v_halfBits v_set v_number = some (rr, o_alone, o_halfBits)) : ZV p l e rm_Md_ruleFor s m args below meth c 3 D (some (.int rr)) [(h_this, .inr (5, [.int v_thrown, .int v_wires, .int v_isOpen, .int v_isEmpty, .int v_came, .int v_there, .int v_halves, .ref h_this_number, .ref h_this_set, .ref h_this_constant, .int v_rules, .ref h_this_ruleKind, .ref h_this_ruleBit, .ref h_this_ruleOther, .int o_alone, .int o_halfBits, .ref h_this_oldSet, .ref h_this_oldNumber, .ref h_this_allSets, .ref h_this_allNumbers, .int v_allMany, .ref h_this_root])), (h_this_set, .inl (cI, 6, .inl v_set)), (h_this_number, .inl (cI, 15625, .inl v_number))] [h_this, h_this_set, h_this_number] [(h_this, .inr (5, [.int v_thrown, .int v_wires, .int v_isOpen, .int v_isEmpty, .int v_came, .int v_there, .int v_halves, .ref h_this_number, .ref h_this_set, .ref h_this_constant, .int v_rules, .ref h_this_ruleKind, .ref h_this_ruleBit, .ref h_this_ruleOther, .int v_alone, .int v_halfBits, .ref h_this_oldSet, .ref h_this_oldNumber, .ref h_this_allSets, .ref h_this_allNumbers, .int v_allMany, .ref h_this_root])), (h_this_set, .inl (cI, 6, .inl v_set)), (h_this_number, .inl (cI, 15625, .inl v_number))] 34 [(0, .ref h_this)] [] := by
  unfold f_Md_ruleFor_j34 at hf
  refine z_aload_n C d_Md_ruleFor_34 rfl 0 rfl ?_
  refine z_get C iw_Md 0 rfl rfl 15 (by decide) zw_513 rfl d_Md_ruleFor_35 ?_
  refine z_if_ne (tgt := 51) C d_Md_ruleFor_38 (by decide) (fun c_1 => ?_) (fun c_1 => ?_)
  · have hf := zif_neg c_1 hf
    exact k_Md_ruleFor_j51 C hr hf
  · have hf := zif_pos c_1 hf
    refine z_aload_n C d_Md_ruleFor_41 rfl 0 rfl ?_
    refine z_get C iw_Md 0 rfl rfl 14 (by decide) zw_512 rfl d_Md_ruleFor_42 ?_
    refine z_iconst (v := 4) C d_Md_ruleFor_45 (by decide) ?_
    refine z_icmp_ne (tgt := 51) C d_Md_ruleFor_46 (by decide) (fun c_2 => ?_) (fun c_2 => ?_)
    · have hf := zif_neg c_2 hf
      exact k_Md_ruleFor_j51 C hr hf
    · have hf := zif_pos c_2 hf
      refine z_iconst (v := 2) C d_Md_ruleFor_49 (by decide) ?_
      cases hf
      exact z_iret C hr d_Md_ruleFor_50
/-- PathSumsModel.ruleFor(I)I -/
def f_Md_ruleFor (x1 : Int32) (v_wires : Int32) (v_isOpen : Int32) (v_there : Int32) (v_alone : Int32) (v_halfBits : Int32) (v_set : Nat → Int32) (v_number : Nat → Int32) : Option (Int32 × Int32 × Int32) :=
  zb1 (f_Md_isHidden x1 v_wires v_isOpen v_there v_set) fun r_2 =>
  if r_2 = 0 then (
    some ((0 : Int32), v_alone, v_halfBits))
  else (
    zb3 (f_Md_findFactor x1 v_alone v_halfBits v_number) fun r_5 q_6 q_7 =>
    if r_5 = 0 then (
      some ((0 : Int32), q_6, q_7))
    else (
      if q_7 = 0 then (
        if q_6 = 0 then (
          some ((1 : Int32), q_6, q_7))
        else (
          f_Md_ruleFor_j34 v_wires v_isOpen v_there q_6 q_7 v_set v_number))
      else (
        f_Md_ruleFor_j34 v_wires v_isOpen v_there q_6 q_7 v_set v_number)))
set_option maxRecDepth 100000 in
set_option maxHeartbeats 4000000 in
theorem k_Md_ruleFor {p : Program} {l : Launch} {e : Env} {s : State} {m : MethodId} {args : Array Value} {below : List Frame} {meth : Method} {c : Code} {D : va_G} {cI cL : ClassId} {h_this h_this_number h_this_set h_this_constant h_this_ruleKind h_this_ruleBit h_this_ruleOther h_this_oldSet h_this_oldNumber h_this_allSets h_this_allNumbers h_this_root : Nat} {v_thrown v_wires v_isOpen v_isEmpty v_came v_there v_halves v_rules v_alone v_halfBits v_allMany rr o_alone o_halfBits x1 : Int32} {v_set v_number : Nat → Int32} (C : zC p s m args meth c b_Md_ruleFor 3 R_Md D vwCl [(cI, .int), (cL, .long)] (zA [h_this, h_this_set, h_this_number] s.heap.size)) (hr : meth.sig.returnType = some .int) (hf : f_Md_ruleFor x1 v_wires v_isOpen v_there v_alone v_halfBits v_set v_number = some (rr, o_alone, o_halfBits)) : ZV p l e rm_Md_ruleFor s m args below meth c 3 D (some (.int rr)) [(h_this, .inr (5, [.int v_thrown, .int v_wires, .int v_isOpen, .int v_isEmpty, .int v_came, .int v_there, .int v_halves, .ref h_this_number, .ref h_this_set, .ref h_this_constant, .int v_rules, .ref h_this_ruleKind, .ref h_this_ruleBit, .ref h_this_ruleOther, .int o_alone, .int o_halfBits, .ref h_this_oldSet, .ref h_this_oldNumber, .ref h_this_allSets, .ref h_this_allNumbers, .int v_allMany, .ref h_this_root])), (h_this_set, .inl (cI, 6, .inl v_set)), (h_this_number, .inl (cI, 15625, .inl v_number))] [h_this, h_this_set, h_this_number] [(h_this, .inr (5, [.int v_thrown, .int v_wires, .int v_isOpen, .int v_isEmpty, .int v_came, .int v_there, .int v_halves, .ref h_this_number, .ref h_this_set, .ref h_this_constant, .int v_rules, .ref h_this_ruleKind, .ref h_this_ruleBit, .ref h_this_ruleOther, .int v_alone, .int v_halfBits, .ref h_this_oldSet, .ref h_this_oldNumber, .ref h_this_allSets, .ref h_this_allNumbers, .int v_allMany, .ref h_this_root])), (h_this_set, .inl (cI, 6, .inl v_set)), (h_this_number, .inl (cI, 15625, .inl v_number))] 0 [(0, .ref h_this), (1, .int x1)] [] := by
  unfold f_Md_ruleFor at hf
  refine z_aload_n C d_Md_ruleFor_0 rfl 0 rfl ?_
  refine z_iload_n C d_Md_ruleFor_1 rfl 1 rfl ?_
  obtain ⟨r_2, h_1, hf⟩ := zb1_elim hf
  refine z_callV (As := [.int x1]) (rest := []) (ws' := [(h_this, .inr (5, [.int v_thrown, .int v_wires, .int v_isOpen, .int v_isEmpty, .int v_came, .int v_there, .int v_halves, .ref h_this_number, .ref h_this_set, .ref h_this_constant, .int v_rules, .ref h_this_ruleKind, .ref h_this_ruleBit, .ref h_this_ruleOther, .int v_alone, .int v_halfBits, .ref h_this_oldSet, .ref h_this_oldNumber, .ref h_this_allSets, .ref h_this_allNumbers, .int v_allMany, .ref h_this_root])), (h_this_set, .inl (cI, 6, .inl v_set)), (h_this_number, .inl (cI, 15625, .inl v_number))]) C (c_Md_isHidden h_1) mi_Md_isHidden zw_634 (by decide) 0 rfl rfl [0, 1] (by decide) rfl rfl rfl rfl rfl (by decide) ⟨Nat.zero_le _, Nat.zero_le _⟩ d_Md_ruleFor_2 ?_
  refine z_if_eq (tgt := 16) C d_Md_ruleFor_5 (by decide) (fun c_3 => ?_) (fun c_3 => ?_)
  · have hf := zif_pos c_3 hf
    refine z_iconst (v := 0) C d_Md_ruleFor_16 (by decide) ?_
    cases hf
    exact z_iret C hr d_Md_ruleFor_17
  · have hf := zif_neg c_3 hf
    refine z_aload_n C d_Md_ruleFor_8 rfl 0 rfl ?_
    refine z_iload_n C d_Md_ruleFor_9 rfl 1 rfl ?_
    obtain ⟨r_5, q_6, q_7, h_4, hf⟩ := zb3_elim hf
    refine z_callV (As := [.int x1]) (rest := []) (ws' := [(h_this, .inr (5, [.int v_thrown, .int v_wires, .int v_isOpen, .int v_isEmpty, .int v_came, .int v_there, .int v_halves, .ref h_this_number, .ref h_this_set, .ref h_this_constant, .int v_rules, .ref h_this_ruleKind, .ref h_this_ruleBit, .ref h_this_ruleOther, .int q_6, .int q_7, .ref h_this_oldSet, .ref h_this_oldNumber, .ref h_this_allSets, .ref h_this_allNumbers, .int v_allMany, .ref h_this_root])), (h_this_set, .inl (cI, 6, .inl v_set)), (h_this_number, .inl (cI, 15625, .inl v_number))]) C (c_Md_findFactor h_4) mi_Md_findFactor zw_642 (by decide) 0 rfl rfl [0, 2] (by decide) rfl rfl rfl rfl rfl (by decide) ⟨Nat.zero_le _, Nat.zero_le _⟩ d_Md_ruleFor_10 ?_
    refine z_if_ne (tgt := 18) C d_Md_ruleFor_13 (by decide) (fun c_8 => ?_) (fun c_8 => ?_)
    · have hf := zif_neg c_8 hf
      refine z_aload_n C d_Md_ruleFor_18 rfl 0 rfl ?_
      refine z_get C iw_Md 0 rfl rfl 15 (by decide) zw_513 rfl d_Md_ruleFor_19 ?_
      refine z_if_ne (tgt := 34) C d_Md_ruleFor_22 (by decide) (fun c_9 => ?_) (fun c_9 => ?_)
      · have hf := zif_neg c_9 hf
        refine z_lv [0] rfl ?_
        exact k_Md_ruleFor_j34 C hr hf
      · have hf := zif_pos c_9 hf
        refine z_aload_n C d_Md_ruleFor_25 rfl 0 rfl ?_
        refine z_get C iw_Md 0 rfl rfl 14 (by decide) zw_512 rfl d_Md_ruleFor_26 ?_
        refine z_if_ne (tgt := 34) C d_Md_ruleFor_29 (by decide) (fun c_10 => ?_) (fun c_10 => ?_)
        · have hf := zif_neg c_10 hf
          refine z_lv [0] rfl ?_
          exact k_Md_ruleFor_j34 C hr hf
        · have hf := zif_pos c_10 hf
          refine z_iconst (v := 1) C d_Md_ruleFor_32 (by decide) ?_
          cases hf
          exact z_iret C hr d_Md_ruleFor_33
    · have hf := zif_pos c_8 hf
      refine z_iconst (v := 0) C d_Md_ruleFor_16 (by decide) ?_
      cases hf
      exact z_iret C hr d_Md_ruleFor_17
theorem c_Md_ruleFor {l : Launch} {D : va_G} {cI cL : ClassId} {h_this h_this_number h_this_set h_this_constant h_this_ruleKind h_this_ruleBit h_this_ruleOther h_this_oldSet h_this_oldNumber h_this_allSets h_this_allNumbers h_this_root : Nat} {v_thrown v_wires v_isOpen v_isEmpty v_came v_there v_halves v_rules v_alone v_halfBits v_allMany rr o_alone o_halfBits x1 : Int32} {v_set v_number : Nat → Int32} (hf : f_Md_ruleFor x1 v_wires v_isOpen v_there v_alone v_halfBits v_set v_number = some (rr, o_alone, o_halfBits)) : zM l y_Md_ruleFor (Cond.code y_Md_ruleFor b_Md_ruleFor 3 (some .int) :: zT) rm_Md_ruleFor D vwCl [(cI, .int), (cL, .long)] [.ref h_this, .int x1] [(h_this, .inr (5, [.int v_thrown, .int v_wires, .int v_isOpen, .int v_isEmpty, .int v_came, .int v_there, .int v_halves, .ref h_this_number, .ref h_this_set, .ref h_this_constant, .int v_rules, .ref h_this_ruleKind, .ref h_this_ruleBit, .ref h_this_ruleOther, .int v_alone, .int v_halfBits, .ref h_this_oldSet, .ref h_this_oldNumber, .ref h_this_allSets, .ref h_this_allNumbers, .int v_allMany, .ref h_this_root])), (h_this_set, .inl (cI, 6, .inl v_set)), (h_this_number, .inl (cI, 15625, .inl v_number))] [(h_this, .inr (5, [.int v_thrown, .int v_wires, .int v_isOpen, .int v_isEmpty, .int v_came, .int v_there, .int v_halves, .ref h_this_number, .ref h_this_set, .ref h_this_constant, .int v_rules, .ref h_this_ruleKind, .ref h_this_ruleBit, .ref h_this_ruleOther, .int o_alone, .int o_halfBits, .ref h_this_oldSet, .ref h_this_oldNumber, .ref h_this_allSets, .ref h_this_allNumbers, .int v_allMany, .ref h_this_root])), (h_this_set, .inl (cI, 6, .inl v_set)), (h_this_number, .inl (cI, 15625, .inl v_number))] (some (.int rr)) :=
  zM.intro (by decide) rfl (fun _ h => List.mem_cons_of_mem _ h) (Nat.le_of_ble_eq_true rfl) (fun _ _ _ _ _ _ _ C hr _ => k_Md_ruleFor C hr hf)
